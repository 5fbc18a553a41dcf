section
variable {T : Nat → Nat} {n : Nat}
theorem ca_hge2 (hA : ca_S T n = some (1, [])) {l i : Nat} (hw : ca_W T l = 0) (hi : i ≤ n) (hli : l ≤ i) (hsuf : ∀ j, l ≤ j → j ≤ i → ∃ E, ca_Z T j = E ++ ca_Z T l) : ca_h T l ≤ ca_h T i := by
  obtain ⟨E, hE⟩ := hsuf i hli (Nat.le_refl _)
  obtain ⟨x, y⟩ := ca_hE hA hw hi hli hsuf hE
  by_cases z : ca_W T i = 2
  · have := y z
    rw [if_pos z] at x; omega
  · rw [if_neg z] at x; omega
theorem ca_head (hA : ca_S T n = some (1, [])) {q : Nat} (hq : q < n) (ht : T q = 5 ∨ 20 ≤ T q) : ca_W T q = 0 ∧ ca_Z T (q + 1) = (q, q) :: ca_Z T q ∧ q + 1 < n ∧ T (q + 1) = 6 ∧ ca_W T (q + 2) = 0 ∧ ca_Z T (q + 2) = (q, q) :: ca_Z T q := by
  have hs : ca_W T q = 0 ∧ ca_W T (q + 1) = 2 ∧ ca_Z T (q + 1) = (q, q) :: ca_Z T q := by
    rcases ca_rule hA hq with ⟨_, t, _⟩ | ⟨_, t, _⟩ | ⟨_, t, _⟩ | ⟨_, t, _⟩ | ⟨w, _, w', z⟩ | ⟨_, t, _⟩ | ⟨_, t, _⟩ | ⟨_, t, _⟩ | ⟨_, t, _⟩ | ⟨_, t, _⟩ | ⟨_, t, _⟩
    all_goals first | exact ⟨w, w', z⟩ | omega
  have hn1 : q + 1 < n := by
    have h1 : q + 1 ≠ n := by
      intro y
      have h2 := ca_Wn hA
      rw [← y] at h2; omega
    omega
  rcases ca_rule hA hn1 with ⟨_, t, w', z⟩ | ⟨w, _⟩ | ⟨w, _⟩ | ⟨w, _⟩ | ⟨w, _⟩ | ⟨w, _⟩ | ⟨w, _⟩ | ⟨w, _⟩ | ⟨w, _⟩ | ⟨w, _⟩ | ⟨w, _⟩
  all_goals first | exact ⟨hs.1, hs.2.2, hn1, t, w', z.trans hs.2.2⟩ | omega
/-- a quantifier: its colon and its end -/
theorem ca_qst (hA : ca_S T n = some (1, [])) {q : Nat} (hq : q < n) (ht : 20 ≤ T q) : ∃ m e, q + 2 < m ∧ m + 1 < e ∧ e < n ∧ T m = 9 ∧ ca_Z T m = (q, q) :: ca_Z T q ∧ ca_W T m = 1 ∧ (∀ i, q + 1 ≤ i → i ≤ m → ∃ E, ca_Z T i = E ++ (q, q) :: ca_Z T q) ∧ ca_Z T (m + 1) = (m, q) :: ca_Z T q ∧ ca_W T (m + 1) = 0 ∧ (∀ i, m + 1 ≤ i → i ≤ e → ∃ E, ca_Z T i = E ++ (m, q) :: ca_Z T q) ∧ ca_Z T e = (m, q) :: ca_Z T q ∧ ca_W T e = 1 ∧ T e = 7 ∧ ca_Z T (e + 1) = ca_Z T q ∧ ca_W T (e + 1) = 1 ∧ (∀ j, q + 2 ≤ j → j ≤ e → ca_h T q < ca_h T j) ∧ ca_h T (q + 1) = ca_h T q ∧ ca_h T (e + 1) = ca_h T q := by
  obtain ⟨h1, h2, h3, h4, h5, h6⟩ := ca_head hA hq (Or.inr ht)
  have nil : ∀ (x : Nat × Nat) (R : List (Nat × Nat)), ¬ ∃ E, ca_Z T n = E ++ x :: R := by
    intro x R ⟨E, hE⟩
    rw [ca_Zn hA] at hE
    cases E <;> cases hE
  obtain ⟨m, m1, m2, m3, m4, m5, m6⟩ := ca_life hA (a := q + 1) (H := n) (Nat.le_refl _) h2 (nil _ _) (by omega)
  have m7 : T m = 9 ∧ ca_Z T (m + 1) = (m, q) :: ca_Z T q ∧ ca_W T (m + 1) = 0 := by
    rcases m6 with ⟨a, b, c', d⟩ | ⟨a, b, c', d⟩ | ⟨a, b, c', d⟩
    · exact absurd b (by show ¬ T q = 8; omega)
    · exact ⟨a, c', d⟩
    · exact absurd b (by show ¬ (T q = 9 ∨ T q = 6 ∨ T q = 5); omega)
  obtain ⟨e, e1, e2, e3, e4, e5, e6⟩ := ca_life hA (a := m + 1) (H := n) (Nat.le_refl _) m7.2.1 (nil _ _) (by omega)
  have e7 : T e = 7 ∧ ca_Z T (e + 1) = ca_Z T q ∧ ca_W T (e + 1) = 1 := by
    rcases e6 with ⟨a, b, c', d⟩ | ⟨a, b, c', d⟩ | ⟨a, b, c', d⟩
    · exact absurd b (by show ¬ T m = 8; omega)
    · exact absurd b (by show ¬ 20 ≤ T m; omega)
    · exact ⟨a, c', d⟩
  have w1 : ca_W T (q + 1) = 2 := by
    rcases ca_rule hA hq with ⟨_, t, _⟩ | ⟨_, t, _⟩ | ⟨_, t, _⟩ | ⟨_, t, _⟩ | ⟨w, _, w', z⟩ | ⟨_, t, _⟩ | ⟨_, t, _⟩ | ⟨_, t, _⟩ | ⟨_, t, _⟩ | ⟨_, t, _⟩ | ⟨_, t, _⟩
    all_goals first | exact w' | omega
  have mq1 : m ≠ q + 1 := by intro y; rw [y] at m5; omega
  have mq2 : m ≠ q + 2 := by intro y; rw [y] at m5; omega
  have em : e ≠ m + 1 := by intro y; rw [y] at e5; omega
  have hA1 := ca_hs hA hq
  rw [if_neg (by omega), if_neg (by omega)] at hA1
  have hA2 := ca_hs hA (i := q + 1) (by omega)
  rw [h4, if_neg (by decide), if_pos rfl] at hA2
  have hA3 := ca_hs hA (i := m) (by omega)
  rw [m7.1, if_neg (by decide), if_neg (by decide)] at hA3
  have hA4 : ca_h T m = ca_h T (q + 2) := by unfold ca_h; rw [m3, h6, m5, h5]; rfl
  have hA5 : ca_h T (e + 1) = ca_h T q := by unfold ca_h; rw [e7.2.1, e7.2.2, h1]; rfl
  refine ⟨m, e, by omega, by omega, e2, m7.1, m3, m5, m4, m7.2.1, m7.2.2, e4, e3, e5, e7.1, e7.2.1, e7.2.2, fun j j1 j2 => ?_, by omega, hA5⟩
  by_cases jm : j ≤ m
  · have := ca_hge2 hA (l := q + 2) (i := j) h5 (by omega) j1 (fun x a b => by rw [h6]; exact m4 x (by omega) (by omega))
    have e22 : ca_h T (q + 2) = ca_h T (q + 1 + 1) := rfl
    omega
  · have := ca_hge2 hA (l := m + 1) (i := j) m7.2.2 (by omega) (by omega) (fun x a b => by rw [m7.2.1]; exact e4 x (by omega) (by omega))
    have e22 : ca_h T (q + 2) = ca_h T (q + 1 + 1) := rfl
    omega
/-- bound by a quantifier of the stack -/
def ca_B (T : Nat → Nat) (tv : Nat → Int32) (s : List (Nat × Nat)) (x : Int32) : Prop := ∃ e, e ∈ s ∧ T e.1 = 9 ∧ tv e.2 = x
theorem ca_mem {e : Nat × Nat} : ∀ {s : List (Nat × Nat)}, e ∈ s → ∃ E R, s = E ++ e :: R
  | [], h => nomatch h
  | x :: r, h => by
    rcases List.mem_cons.mp h with z | z
    · rw [z]; exact ⟨[], r, rfl⟩
    · obtain ⟨E, R, y⟩ := ca_mem z
      exact ⟨x :: E, R, by rw [y]; rfl⟩
/-- an entry that binds lies between its colon and its end -/
theorem ca_bent (hA : ca_S T n = some (1, [])) {i : Nat} (hi : i < n) {y : Nat × Nat} (hy : y ∈ ca_Z T i) (ht : T y.1 = 9) {m e : Nat} (hm : ca_Z T m = (y.2, y.2) :: ca_Z T y.2) (hms : ∀ i, y.2 + 1 ≤ i → i ≤ m → ∃ E, ca_Z T i = E ++ (y.2, y.2) :: ca_Z T y.2) (hm1 : ca_Z T (m + 1) = (m, y.2) :: ca_Z T y.2) (hqm : y.2 + 2 < m) (he1 : ca_Z T (e + 1) = ca_Z T y.2) (hme : m < e) : m = y.1 ∧ m < i ∧ i ≤ e ∧ 20 ≤ T y.2 := by
  obtain ⟨E, R, hE⟩ := ca_mem hy
  obtain ⟨a1, a2, a3, a4, a5⟩ := ca_ent hA (by omega) E y R hE
  obtain ⟨b1, b2, b3⟩ := a5 ht
  obtain ⟨c1, c2, c3, c4, c5⟩ := ca_ent hA (i := y.1) (by omega) [] (y.2, y.2) R b2
  have hR : ca_Z T y.2 = R := (c4 (by show T y.2 ≠ 9; omega)).2
  have my : m = y.1 := by
    have two : ∀ {a b : Nat × Nat} {E1 : List (Nat × Nat)}, a :: R = E1 ++ b :: R → a = b := by
      intro a b E1 z
      have h7 := congrArg List.length z
      rw [List.length_append, List.length_cons, List.length_cons] at h7
      have h6 : E1 = [] := List.length_eq_zero_iff.mp (by omega)
      rw [h6, List.nil_append] at z
      exact (List.cons.inj z).1
    rcases Nat.lt_trichotomy m y.1 with z | z | z
    · obtain ⟨E1, hE1⟩ := c3 (m + 1) (by show y.2 < m + 1; omega) (by omega)
      rw [hm1, hR] at hE1
      have := congrArg Prod.fst (two hE1)
      have h9 : m = y.2 := this
      omega
    · exact z
    · obtain ⟨E1, hE1⟩ := hms (y.1 + 1) (by omega) (by omega)
      rw [a2, hR] at hE1
      have := congrArg Prod.fst (two hE1)
      have h9 : y.1 = y.2 := this
      omega
  refine ⟨my, by omega, ?_, b1⟩
  by_cases z : i ≤ e
  · exact z
  · obtain ⟨E1, hE1⟩ := a3 (e + 1) (by omega) (by omega)
    rw [he1, hR] at hE1
    exact (ca_lenne hE1).elim
end
section
variable {ob pl nds sts res era usd sp lv ret out : Int32} {ycls prp lst siz dnd opd yrk rn op nm ay prt ylo yhi sN sP sX sK it vr tk tv : Nat → Int32} {n : Nat} {T : Nat → Nat}
theorem cy_bound (hn : n ≤ 40) (hK : ∀ i, i < n → tk i = nI (T i) ∧ T i < 23) (hA : ca_S T n = some (1, [])) {i : Nat} {x : Int32} (hi : i < n) (hti : T i ≠ 7) {post : Int32 → Prop} (h1 : ca_B T tv (ca_Z T i) x → post 1) (h0 : ¬ ca_B T tv (ca_Z T i) x → post 0) : wpY_bound post (ob, nI n, pl, nds, sts, res, era, usd, sp, lv, ret, out, ycls, prp, lst, siz, dnd, tk, tv, opd, yrk, rn, op, nm, ay, prt, ylo, yhi, sN, sP, sX, sK, it, vr) (nI i) x := by
  have loop : ∀ (d q : Nat), q + d = i → (∀ y, y ∈ ca_Z T i → T y.1 = 9 → tv y.2 = x → q ≤ y.2) → wY_bound_2 post (nI i) x ob (nI n) pl nds sts res era usd sp lv ret out ycls prp lst siz dnd (tk) (tv) opd yrk rn op nm ay prt ylo yhi sN sP sX sK it vr (d + 1) (nI q) := by
    intro d
    induction d with
    | zero =>
      intro q hq hinv
      have : q = i := by omega
      subst this
      refine br_t (nI_le (Nat.le_refl _) (by omega)) (h0 (fun ⟨y, y1, y2, y3⟩ => ?_))
      obtain ⟨E, R, hE⟩ := ca_mem y1
      obtain ⟨a1, a2, a3, a4, a5⟩ := ca_ent hA (by omega) E y R hE
      have := hinv y y1 y2 y3
      have := (a5 y2).2.2
      omega
    | succ d ih =>
      intro q hq hinv
      have hqn : q < n := by omega
      obtain ⟨kk, kt⟩ := hK q hqn
      have ck : tk (nI q).toNatClampNeg = nI (T q) := by rw [nI_clamp (by omega)]; exact kk
      have cv : tv (nI q).toNatClampNeg = tv q := by rw [nI_clamp (by omega)]
      have iq : vp_in (nI q) 40 := vp_in_nI (by omega) (by decide)
      have nxt : (∀ y, y ∈ ca_Z T i → T y.1 = 9 → tv y.2 = x → y.2 ≠ q) → wY_bound_2 post (nI i) x ob (nI n) pl nds sts res era usd sp lv ret out ycls prp lst siz dnd (tk) (tv) opd yrk rn op nm ay prt ylo yhi sN sP sX sK it vr (d + 1) (nI (q + 1)) := by
        intro hne
        refine ih (q + 1) (by omega) (fun y y1 y2 y3 => ?_)
        have := hinv y y1 y2 y3
        have := hne y y1 y2 y3
        omega
      refine br_f (nI_ge (by omega) (by omega)) ⟨iq, ?_⟩
      by_cases t20 : T q < 20
      · refine br_t (by rw [ck]; exact nI_lt (b := 20) t20 (by decide)) (nm_r (nI_1 q) (nxt (fun y y1 y2 y3 z => ?_)))
        obtain ⟨E, R, hE⟩ := ca_mem y1
        have := ((ca_ent hA (by omega) E y R hE).2.2.2.2 y2).1
        rw [z] at this; omega
      · refine br_f (by rw [ck]; exact nI_nlt (b := 20) (by omega) (by omega)) ⟨iq, ?_⟩
        by_cases hv : tv q = x
        · obtain ⟨m, e, q1, q2, q3, q4, q5, q6, q7, q8, q9, q10, q11, q12, q13, q14, q15, q16, q17, q18⟩ := ca_qst hA hqn (by omega)
          obtain ⟨p1, p2, p3, p4, p5, p6⟩ := ca_head hA hqn (Or.inr (by omega))
          refine br_t (cv.trans hv) ?_
          rw [show nI q + 2 = nI (q + 2) from nI_add q 2, nI_1 q]
          refine cy_colon hn hK hA p5 p6 (fun i a b => q7 i (by omega) b) (by omega) (by omega) q5 q6 q4 ?_
          refine cy_closing hn hK hA (q := q) (e := e) (by omega) q3 (fun k a b => q16 (k + 1) (by omega) (by omega)) q17 q18 ?_
          have hit : ∀ y, y ∈ ca_Z T i → T y.1 = 9 → tv y.2 = x → y.2 = q → m < i ∧ i < e := by
            intro y y1 y2 y3 z
            subst z
            obtain ⟨b1, b2, b3, b4⟩ := ca_bent hA hi y1 y2 q5 (fun i a b => q7 i a b) q8 q1 q14 (by omega)
            refine ⟨b2, ?_⟩
            have : i ≠ e := by intro z; rw [z] at hti; exact hti q13
            omega
          by_cases m1 : i ≤ m
          · exact br_t (nI_le m1 (by omega)) (nm_e (nxt (fun y y1 y2 y3 z => by have := hit y y1 y2 y3 z; omega)))
          · refine br_f (nI_ge (by omega) (by omega)) ?_
            by_cases e1 : e ≤ i
            · exact br_t (nI_le e1 (by omega)) (nm_e (nxt (fun y y1 y2 y3 z => by have := hit y y1 y2 y3 z; omega)))
            · refine br_f (nI_ge (by omega) (by omega)) (h1 ?_)
              obtain ⟨E, hE⟩ := q10 i (by omega) (by omega)
              exact ⟨(m, q), by rw [hE]; exact List.mem_append.mpr (Or.inr (List.mem_cons_self ..)), q4, hv⟩
        · exact br_f (fun z => hv (cv.symm.trans z)) (nm_r (nI_1 q) (nxt (fun y y1 y2 y3 z => hv (by rw [← z]; exact y3))))
  exact ⟨_, loop i 0 (by omega) (fun _ _ _ _ => Nat.zero_le _)⟩
end
