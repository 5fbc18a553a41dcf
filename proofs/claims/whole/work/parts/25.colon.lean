/-- how many ? are unclosed below all brackets -/
def ca_b (T : Nat → Nat) : List (Nat × Nat) → Nat
  | [] => 0
  | e :: r => if T e.1 = 8 ∧ ca_b T r = r.length then r.length + 1 else ca_b T r
theorem ca_b_all {T : Nat → Nat} : ∀ {E : List (Nat × Nat)}, ca_c T E = 0 → ca_b T E = E.length
  | [], _ => rfl
  | e :: r, h => by
    have h1 : (if T e.1 = 8 then 0 else 1) + ca_c T r = 0 := h
    by_cases t : T e.1 = 8
    · rw [if_pos t] at h1
      show (if T e.1 = 8 ∧ ca_b T r = r.length then r.length + 1 else ca_b T r) = _
      rw [if_pos ⟨t, ca_b_all (by omega)⟩]; rfl
    · rw [if_neg t] at h1; omega
theorem ca_b_le {T : Nat → Nat} : ∀ {E : List (Nat × Nat)}, ca_b T E ≤ E.length
  | [] => Nat.le_refl _
  | e :: r => by
    show (if T e.1 = 8 ∧ ca_b T r = r.length then r.length + 1 else ca_b T r) ≤ r.length + 1
    have := ca_b_le (T := T) (E := r)
    by_cases t : T e.1 = 8 ∧ ca_b T r = r.length
    · rw [if_pos t]; omega
    · rw [if_neg t]; omega
theorem ca_b_not {T : Nat → Nat} : ∀ {E : List (Nat × Nat)}, ca_c T E ≠ 0 → ca_b T E < E.length
  | [], h => absurd rfl h
  | e :: r, h => by
    have h1 : (if T e.1 = 8 then 0 else 1) + ca_c T r ≠ 0 := h
    show (if T e.1 = 8 ∧ ca_b T r = r.length then r.length + 1 else ca_b T r) < r.length + 1
    have := ca_b_le (T := T) (E := r)
    by_cases t : T e.1 = 8 ∧ ca_b T r = r.length
    · rw [if_pos t.1] at h1
      have := ca_b_not (T := T) (E := r) (by omega)
      omega
    · rw [if_neg t]; omega
theorem ca_b_other {T : Nat → Nat} {e : Nat × Nat} {r : List (Nat × Nat)} (h : T e.1 ≠ 8) : ca_b T (e :: r) = ca_b T r := if_neg (fun z => h z.1)
theorem ca_b_deep {T : Nat → Nat} {e : Nat × Nat} {r : List (Nat × Nat)} (h : ca_c T r ≠ 0) : ca_b T (e :: r) = ca_b T r := if_neg (fun z => by have := ca_b_not h; omega)
theorem ca_c_cons {T : Nat → Nat} {e : Nat × Nat} {r : List (Nat × Nat)} : ca_c T (e :: r) = (if T e.1 = 8 then 0 else 1) + ca_c T r := rfl
section
variable {T : Nat → Nat} {n : Nat}
theorem ca_end (hA : ca_S T n = some (1, [])) {i : Nat} (h0 : 0 < i) (hi : i ≤ n) : ca_W T i = 1 ↔ (T (i - 1) ≤ 4 ∨ T (i - 1) = 7 ∨ T (i - 1) = 19) := by
  obtain ⟨j, rfl⟩ : ∃ j, i = j + 1 := ⟨i - 1, by omega⟩
  rw [Nat.add_sub_cancel]
  have r := ca_rule hA (i := j) (by omega)
  unfold ca_R at r
  omega
/-- one token of the search for a colon -/
theorem ca_bs (hA : ca_S T n = some (1, [])) {i0 k m : Nat} {e : Nat × Nat} {R E : List (Nat × Nat)} (hw : ca_W T i0 = 0) (hB : ca_Z T i0 = e :: R) (hsuf : ∀ i, i0 ≤ i → i ≤ m → ∃ E, ca_Z T i = E ++ e :: R) (hm : m < n) (hk : i0 ≤ k) (hkm : k < m) (hE : ca_Z T k = E ++ e :: R) :
    ∃ E', ca_Z T (k + 1) = E' ++ e :: R ∧
      ((ca_h T (k + 1) = ca_h T i0 ∧ T k = 9 ∧ 0 < ca_b T E ∧ ca_b T E' = ca_b T E - 1) ∨ (ca_h T (k + 1) = ca_h T i0 ∧ T k = 8 ∧ ca_b T E' = ca_b T E + 1) ∨ (¬ (ca_h T (k + 1) = ca_h T i0 ∧ (T k = 9 ∨ T k = 8)) ∧ ca_b T E' = ca_b T E)) := by
  obtain ⟨E', hE'⟩ := hsuf (k + 1) (by omega) (by omega)
  refine ⟨E', hE', ?_⟩
  have hs' : ∀ i, i0 ≤ i → i ≤ m → ∃ E, ca_Z T i = E ++ ca_Z T i0 := by rw [hB]; exact hsuf
  have hc := (ca_hE hA hw (by omega) hk (fun j a b => hs' j a (by omega)) (by rw [hB]; exact hE)).1
  have hst := ca_hs hA (i := k) (by omega)
  have can : ∀ X : List (Nat × Nat), ca_Z T (k + 1) = X ++ e :: R → E' = X := fun X hX => List.append_cancel_right (hE'.symm.trans hX)
  have ek : E = [] → ∀ e0 r, ca_Z T k = e0 :: r → e0 = e ∧ r = R := by
    intro hz e0 r z1
    rw [hz, List.nil_append] at hE
    exact List.cons.inj (z1.symm.trans hE)
  rcases ca_rule hA (i := k) (by omega) with ⟨w, t, w', z⟩ | ⟨w, t, w', z⟩ | ⟨w, t, w', z⟩ | ⟨w, t, w', z⟩ | ⟨w, t, w', z⟩ | ⟨w, t, w', z⟩ | ⟨w, t, w', z⟩ | ⟨w, t, w', e0, r, z1, t1, z⟩ | ⟨w, t, w', e0, r, z1, t1, z⟩ | ⟨w, t, w', e0, r, z1, t1, z⟩ | ⟨w, t, w', z⟩
  · exact Or.inr (Or.inr ⟨by omega, by rw [can E (by rw [z, hE])]⟩)
  · exact Or.inr (Or.inr ⟨by omega, by rw [can E (by rw [z, hE])]⟩)
  · exact Or.inr (Or.inr ⟨by omega, by rw [can E (by rw [z, hE])]⟩)
  · exact Or.inr (Or.inr ⟨by omega, by rw [can ((k, k) :: E) (by rw [z, hE]; rfl)]; exact ca_b_other (by show T k ≠ 8; omega)⟩)
  · exact Or.inr (Or.inr ⟨by omega, by rw [can ((k, k) :: E) (by rw [z, hE]; rfl)]; exact ca_b_other (by show T k ≠ 8; omega)⟩)
  · exact Or.inr (Or.inr ⟨by omega, by rw [can E (by rw [z, hE])]⟩)
  · have ee := can ((k, k) :: E) (by rw [z, hE]; rfl)
    rw [if_neg (by omega)] at hc
    rw [if_neg (by omega), if_neg (by omega)] at hst
    by_cases c0 : ca_c T E = 0
    · refine Or.inr (Or.inl ⟨by omega, t, ?_⟩)
      rw [ee, ca_b_all (E := (k, k) :: E) (by rw [ca_c_cons]; rw [if_pos t]; omega), ca_b_all c0]; rfl
    · exact Or.inr (Or.inr ⟨fun y => by omega, by rw [ee]; exact ca_b_deep c0⟩)
  · rw [if_neg (by omega)] at hc
    rw [if_neg (by omega), if_neg (by omega)] at hst
    cases E with
    | nil =>
      obtain ⟨p1, p2⟩ := ek rfl e0 r z1
      rw [p2] at z
      exact (ca_lenne (z.symm.trans hE')).elim
    | cons x E1 =>
      obtain ⟨p1, p2⟩ := List.cons.inj (z1.symm.trans hE)
      have ee := can E1 (z.trans p2)
      rw [p1] at t1
      rw [ca_c_cons, if_pos t1] at hc
      by_cases c0 : ca_c T E1 = 0
      · refine Or.inl ⟨by omega, t, ?_, ?_⟩
        · rw [ca_b_all (E := x :: E1) (by rw [ca_c_cons, if_pos t1]; omega)]; exact Nat.succ_pos _
        · rw [ee, ca_b_all (E := x :: E1) (by rw [ca_c_cons, if_pos t1]; omega), ca_b_all c0]; rfl
      · exact Or.inr (Or.inr ⟨fun y => by omega, by rw [ee]; exact (ca_b_deep c0).symm⟩)
  · rw [if_neg (by omega)] at hc
    rw [if_neg (by omega), if_neg (by omega)] at hst
    cases E with
    | nil =>
      obtain ⟨p1, p2⟩ := ek rfl e0 r z1
      rw [p1, p2] at z
      have h5 := z.symm.trans hE'
      have h7 := congrArg List.length h5
      rw [List.length_append, List.length_cons, List.length_cons] at h7
      have h6 : E' = [] := List.length_eq_zero_iff.mp (by omega)
      rw [h6, List.nil_append] at h5
      have h8 := (ca_ent hA (i := k) (by omega) [] e R (by rw [hE])).1
      have h9 : k = e.1 := congrArg Prod.fst (List.cons.inj h5).1
      omega
    | cons x E1 =>
      obtain ⟨p1, p2⟩ := List.cons.inj (z1.symm.trans hE)
      have ee := can ((k, e0.2) :: E1) (by rw [z, p2]; rfl)
      rw [p1] at t1
      rw [ca_c_cons, if_neg (by omega)] at hc
      refine Or.inr (Or.inr ⟨fun y => by omega, ?_⟩)
      rw [ee, ca_b_other (by show T k ≠ 8; omega), ca_b_other (e := x) (by omega)]
  · cases E with
    | nil =>
      obtain ⟨p1, p2⟩ := ek rfl e0 r z1
      rw [p2] at z
      exact (ca_lenne (z.symm.trans hE')).elim
    | cons x E1 =>
      obtain ⟨p1, p2⟩ := List.cons.inj (z1.symm.trans hE)
      have ee := can E1 (z.trans p2)
      rw [p1] at t1
      exact Or.inr (Or.inr ⟨by omega, by rw [ee, ca_b_other (e := x) (by omega)]⟩)
  · exact Or.inr (Or.inr ⟨by omega, by rw [can E (by rw [z, hE])]⟩)
end
section
variable {ob pl nds sts res era usd sp lv ret out : Int32} {ycls prp lst siz dnd opd yrk rn op nm ay prt ylo yhi sN sP sX sK it vr tk tv : Nat → Int32} {n : Nat} {T : Nat → Nat}
theorem cy_45 {post : Int32 → Prop} {J : Int32 → Int32 → Int32 → Prop} {D b k t : Nat} (hD : D < 100) (hb : b < 100) (ht : t < 23) (h1 : D = 0 → t = 9 → b = 0 → post (nI k)) (h2 : D = 0 → t = 9 → 0 < b → J (nI D) (nI (b - 1)) (nI (k + 1))) (h3 : D = 0 → t = 8 → J (nI D) (nI (b + 1)) (nI (k + 1))) (h4 : ¬ (D = 0 ∧ (t = 9 ∨ t = 8)) → J (nI D) (nI b) (nI (k + 1))) : wY_colon_45 post J (nI D) (nI b) (nI k) (nI t) ob (nI n) pl nds sts res era usd sp lv ret out ycls prp lst siz dnd (tk) (tv) opd yrk rn op nm ay prt ylo yhi sN sP sX sK it vr := by
  have e9 : ∀ x, t ≠ x → x < 23 → ¬ nI t = nI x := fun x z hx y => z ((nI_eq (by omega) (by omega)).1 y)
  by_cases d0 : D = 0
  · subst d0
    have z0 : nI 0 = 0 := rfl
    by_cases t9 : t = 9
    · have t9' : nI t = 9 := by rw [t9]; rfl
      by_cases b0 : b = 0
      · exact br_t z0 (br_t t9' (br_t (by rw [b0]; rfl) (h1 rfl t9 b0)))
      · obtain ⟨c, rfl⟩ : ∃ c, b = c + 1 := ⟨b - 1, by omega⟩
        exact br_t z0 (br_t t9' (br_f (nI_ne0 (by omega) (by omega)) (br_t z0 (br_t t9' (nm_r (pk_m1 c) (br_t z0 (br_f (e9 8 (by omega) (by decide)) (nm_r (nI_1 k) (h2 rfl t9 (by omega))))))))))
    · have t9' := e9 9 t9 (by decide)
      by_cases t8 : t = 8
      · exact br_t z0 (br_f t9' (br_t z0 (br_f t9' (br_t z0 (br_t (by rw [t8]; rfl) (nm_r (nI_1 b) (nm_r (nI_1 k) (h3 rfl t8))))))))
      · exact br_t z0 (br_f t9' (br_t z0 (br_f t9' (br_t z0 (br_f (e9 8 t8 (by decide)) (nm_r (nI_1 k) (h4 (by omega))))))))
  · have z0 : ¬ nI D = 0 := nI_ne0 (by omega) (by omega)
    exact br_f z0 (br_f z0 (br_f z0 (nm_r (nI_1 k) (h4 (by omega)))))
theorem cy_colon (hn : n ≤ 40) (hK : ∀ i, i < n → tk i = nI (T i) ∧ T i < 23) (hA : ca_S T n = some (1, [])) {i0 m : Nat} {e : Nat × Nat} {R : List (Nat × Nat)} (hw : ca_W T i0 = 0) (hB : ca_Z T i0 = e :: R) (hsuf : ∀ i, i0 ≤ i → i ≤ m → ∃ E, ca_Z T i = E ++ e :: R) (hm : m < n) (him : i0 ≤ m) (hZm : ca_Z T m = e :: R) (hWm : ca_W T m = 1) (hTm : T m = 9) {post : Int32 → Prop} (hp : post (nI m)) : wpY_colon post (ob, nI n, pl, nds, sts, res, era, usd, sp, lv, ret, out, ycls, prp, lst, siz, dnd, tk, tv, opd, yrk, rn, op, nm, ay, prt, ylo, yhi, sN, sP, sX, sK, it, vr) (nI i0) := by
  have hs' : ∀ i, i0 ≤ i → i ≤ m → ∃ E, ca_Z T i = E ++ ca_Z T i0 := by rw [hB]; exact hsuf
  have hge : ∀ i, i0 ≤ i → i ≤ m → ca_h T i0 ≤ ca_h T i := by
    intro i a b
    obtain ⟨E, hE⟩ := hs' i a b
    obtain ⟨x, y⟩ := ca_hE hA hw (by omega) a (fun j c d => hs' j c (by omega)) hE
    by_cases z : ca_W T i = 2
    · have := y z
      rw [if_pos z] at x; omega
    · rw [if_neg z] at x; omega
  have hub : ∀ i, i ≤ n → ca_h T i ≤ i := by
    intro i
    induction i with
    | zero => intro _; exact Nat.le_refl _
    | succ i ih =>
      intro hi
      have a := ca_hs hA (i := i) (by omega)
      have b := ih (by omega)
      by_cases t6 : T i = 6
      · rw [if_pos t6] at a; omega
      · rw [if_neg t6] at a; omega
  have hlen : ∀ i, i ≤ n → (ca_Z T i).length ≤ i := by
    intro i
    induction i with
    | zero => intro _; exact Nat.le_refl _
    | succ i ih =>
      intro hi
      have b := ih (by omega)
      rcases ca_rule hA (i := i) (by omega) with ⟨w, t, w', z⟩ | ⟨w, t, w', z⟩ | ⟨w, t, w', z⟩ | ⟨w, t, w', z⟩ | ⟨w, t, w', z⟩ | ⟨w, t, w', z⟩ | ⟨w, t, w', z⟩ | ⟨w, t, w', e0, r, z1, t1, z⟩ | ⟨w, t, w', e0, r, z1, t1, z⟩ | ⟨w, t, w', e0, r, z1, t1, z⟩ | ⟨w, t, w', z⟩
      all_goals (try rw [z1, List.length_cons] at b); rw [z]; (try rw [List.length_cons]); omega
  have loop : ∀ (d k : Nat) (E : List (Nat × Nat)), k + d = m → i0 ≤ k → ca_Z T k = E ++ e :: R → wY_colon_7 post ob (nI n) pl nds sts res era usd sp lv ret out ycls prp lst siz dnd (tk) (tv) opd yrk rn op nm ay prt ylo yhi sN sP sX sK it vr (d + 1) (nI (ca_h T k - ca_h T i0)) (nI (ca_b T E)) (nI k) := by
    intro d
    induction d with
    | zero =>
      intro k E hk hik hE
      have hkn : k < n := by omega
      obtain ⟨kk, kt⟩ := hK k hkn
      have ck : (nI k).toNatClampNeg = k := nI_clamp (by omega)
      have bl : ca_b T E < 100 := by
        have a1 := ca_b_le (T := T) (E := E)
        have a2 := hlen k (by omega)
        rw [hE, List.length_append] at a2
        omega
      have g1 := hge k hik (by omega)
      have g3 := hub k (by omega)
      have g4 := hub (k + 1) (by omega)
      have hst := ca_hs hA hkn
      have to45 : wY_colon_45 post (wY_colon_7 post ob (nI n) pl nds sts res era usd sp lv ret out ycls prp lst siz dnd (tk) (tv) opd yrk rn op nm ay prt ylo yhi sN sP sX sK it vr 0) (nI (ca_h T (k + 1) - ca_h T i0)) (nI (ca_b T E)) (nI k) (nI (T k)) ob (nI n) pl nds sts res era usd sp lv ret out ycls prp lst siz dnd (tk) (tv) opd yrk rn op nm ay prt ylo yhi sN sP sX sK it vr → ca_h T i0 ≤ ca_h T (k + 1) → wY_colon_7 post ob (nI n) pl nds sts res era usd sp lv ret out ycls prp lst siz dnd (tk) (tv) opd yrk rn op nm ay prt ylo yhi sN sP sX sK it vr (0 + 1) (nI (ca_h T k - ca_h T i0)) (nI (ca_b T E)) (nI k) := by
        intro H g2
        refine br_f (nI_ge hkn (by omega)) ⟨vp_in_nI (by omega) (by decide), nm_r (e' := nI (T k)) (by rw [ck]; exact kk) ?_⟩
        by_cases t6 : T k = 6
        · rw [if_neg (by omega), if_pos t6] at hst
          refine br_t (by rw [t6]; rfl) (nm_r (e' := nI (ca_h T (k + 1) - ca_h T i0)) (by rw [nI_1]; exact congrArg nI (by omega)) (br_f (fun z => absurd ((nI_eq (b := 7) (by omega) (by decide)).1 z) (by omega)) H))
        · refine br_f (fun z => t6 ((nI_eq (b := 6) (by omega) (by decide)).1 z)) ?_
          rw [if_neg t6] at hst
          by_cases t7 : T k = 7
          · rw [if_pos t7] at hst
            obtain ⟨c, hc⟩ : ∃ c, ca_h T k - ca_h T i0 = c + 1 := ⟨ca_h T k - ca_h T i0 - 1, by omega⟩
            refine br_t (by rw [t7]; rfl) (nm_r (e' := nI (ca_h T (k + 1) - ca_h T i0)) (by rw [hc, pk_m1]; exact congrArg nI (by omega)) H)
          · rw [if_neg t7] at hst
            refine br_f (fun z => t7 ((nI_eq (b := 7) (by omega) (by decide)).1 z)) ?_
            rw [show ca_h T k = ca_h T (k + 1) by omega]; exact H
      have km : k = m := by omega
      subst km
      have E0 : E = [] := by
        have h5 := congrArg List.length (hE.symm.trans hZm)
        rw [List.length_append] at h5
        exact List.length_eq_zero_iff.mp (by omega)
      subst E0
      have hh : ca_h T k = ca_h T i0 := by
        have x := (ca_hE hA hw (by omega) hik (fun j c d => hs' j c (by omega)) (E := []) (by rw [hB]; exact hE)).1
        rw [if_neg (by omega)] at x
        exact x
      rw [hTm, if_neg (by decide), if_neg (by decide)] at hst
      refine to45 (cy_45 (by omega) bl kt (fun _ _ _ => hp) (fun _ _ z => absurd z (by show ¬ 0 < 0; omega)) (fun _ z => absurd z (by omega)) (fun z => absurd z ?_)) (by omega)
      exact fun y => y ⟨by omega, Or.inl hTm⟩
    | succ d ih =>
      intro k E hk hik hE
      have hkn : k < n := by omega
      obtain ⟨kk, kt⟩ := hK k hkn
      have ck : (nI k).toNatClampNeg = k := nI_clamp (by omega)
      have bl : ca_b T E < 100 := by
        have a1 := ca_b_le (T := T) (E := E)
        have a2 := hlen k (by omega)
        rw [hE, List.length_append] at a2
        omega
      have g1 := hge k hik (by omega)
      have g3 := hub k (by omega)
      have g4 := hub (k + 1) (by omega)
      have hst := ca_hs hA hkn
      have to45 : wY_colon_45 post (wY_colon_7 post ob (nI n) pl nds sts res era usd sp lv ret out ycls prp lst siz dnd (tk) (tv) opd yrk rn op nm ay prt ylo yhi sN sP sX sK it vr (d + 1)) (nI (ca_h T (k + 1) - ca_h T i0)) (nI (ca_b T E)) (nI k) (nI (T k)) ob (nI n) pl nds sts res era usd sp lv ret out ycls prp lst siz dnd (tk) (tv) opd yrk rn op nm ay prt ylo yhi sN sP sX sK it vr → ca_h T i0 ≤ ca_h T (k + 1) → wY_colon_7 post ob (nI n) pl nds sts res era usd sp lv ret out ycls prp lst siz dnd (tk) (tv) opd yrk rn op nm ay prt ylo yhi sN sP sX sK it vr ((d + 1) + 1) (nI (ca_h T k - ca_h T i0)) (nI (ca_b T E)) (nI k) := by
        intro H g2
        refine br_f (nI_ge hkn (by omega)) ⟨vp_in_nI (by omega) (by decide), nm_r (e' := nI (T k)) (by rw [ck]; exact kk) ?_⟩
        by_cases t6 : T k = 6
        · rw [if_neg (by omega), if_pos t6] at hst
          refine br_t (by rw [t6]; rfl) (nm_r (e' := nI (ca_h T (k + 1) - ca_h T i0)) (by rw [nI_1]; exact congrArg nI (by omega)) (br_f (fun z => absurd ((nI_eq (b := 7) (by omega) (by decide)).1 z) (by omega)) H))
        · refine br_f (fun z => t6 ((nI_eq (b := 6) (by omega) (by decide)).1 z)) ?_
          rw [if_neg t6] at hst
          by_cases t7 : T k = 7
          · rw [if_pos t7] at hst
            obtain ⟨c, hc⟩ : ∃ c, ca_h T k - ca_h T i0 = c + 1 := ⟨ca_h T k - ca_h T i0 - 1, by omega⟩
            refine br_t (by rw [t7]; rfl) (nm_r (e' := nI (ca_h T (k + 1) - ca_h T i0)) (by rw [hc, pk_m1]; exact congrArg nI (by omega)) H)
          · rw [if_neg t7] at hst
            refine br_f (fun z => t7 ((nI_eq (b := 7) (by omega) (by decide)).1 z)) ?_
            rw [show ca_h T k = ca_h T (k + 1) by omega]; exact H
      obtain ⟨E', hE', hcase⟩ := ca_bs hA hw hB hsuf hm hik (by omega) hE
      have g2 := hge (k + 1) (by omega) (by omega)
      have IH := ih (k + 1) E' (by omega) (by omega) hE'
      refine to45 (cy_45 (by omega) bl kt (fun z1 z2 z3 => ?_) (fun z1 z2 z3 => ?_) (fun z1 z2 => ?_) (fun z => ?_)) g2
      · rcases hcase with ⟨_, _, c3, _⟩ | ⟨_, c2, _⟩ | ⟨c1, _⟩
        · omega
        · omega
        · exact absurd ⟨by omega, Or.inl z2⟩ c1
      · rcases hcase with ⟨_, _, _, c4⟩ | ⟨_, c2, _⟩ | ⟨c1, _⟩
        · rw [← c4]; exact IH
        · omega
        · exact absurd ⟨by omega, Or.inl z2⟩ c1
      · rcases hcase with ⟨_, c2, _⟩ | ⟨_, _, c3⟩ | ⟨c1, _⟩
        · omega
        · rw [← c3]; exact IH
        · exact absurd ⟨by omega, Or.inr z2⟩ c1
      · rcases hcase with ⟨c1, c2, _⟩ | ⟨c1, c2, _⟩ | ⟨_, c2⟩
        · exact absurd ⟨by omega, Or.inl c2⟩ z
        · exact absurd ⟨by omega, Or.inr c2⟩ z
        · rw [← c2]; exact IH
  have L := loop (m - i0) i0 [] (by omega) (Nat.le_refl _) (by rw [hB]; rfl)
  rw [Nat.sub_self] at L
  exact ⟨_, L⟩
end
