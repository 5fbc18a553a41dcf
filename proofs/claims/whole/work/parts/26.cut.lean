theorem ca_hub {T : Nat → Nat} {n : Nat} (hA : ca_S T n = some (1, [])) : ∀ i, i ≤ n → ca_h T i ≤ i := by
  intro i
  induction i with
  | zero => intro _; exact Nat.le_refl _
  | succ i ih =>
    intro hi
    have a := ca_hs hA (i := i) (by omega)
    have b := ih (by omega)
    by_cases t6 : T i = 6
    · rw [if_pos t6] at a; omega
    · rw [if_neg t6] at a; omega
/-- how strongly the reference lets a token bind -/
def ca_wt (t : Nat) : Nat := if t = 10 then 1 else if t = 11 then 2 else if t = 13 then 3 else if t = 14 then 3 else if t = 15 then 4 else if t = 16 then 4 else if t = 17 then 5 else if t = 18 then 5 else 9
theorem cy_wt {post : Int32 → Prop} {t : Nat} (ht : t < 23) (h : post (nI (ca_wt t))) : wpY_weight post (nI t) := by
  have e : ∀ x, t ≠ x → x < 23 → ¬ nI t = nI x := fun x z hx y => z ((nI_eq (by omega) (by omega)).1 y)
  unfold ca_wt at h
  by_cases t10 : t = 10
  · rw [if_pos t10] at h; exact br_t (by rw [t10]; rfl) h
  rw [if_neg t10] at h
  by_cases t11 : t = 11
  · rw [if_pos t11] at h; exact br_f (e 10 t10 (by decide)) (br_t (by rw [t11]; rfl) h)
  rw [if_neg t11] at h
  by_cases t13 : t = 13
  · rw [if_pos t13] at h; exact br_f (e 10 t10 (by decide)) (br_f (e 11 t11 (by decide)) (br_t (by rw [t13]; rfl) h))
  rw [if_neg t13] at h
  by_cases t14 : t = 14
  · rw [if_pos t14] at h; exact br_f (e 10 t10 (by decide)) (br_f (e 11 t11 (by decide)) (br_f (e 13 t13 (by decide)) (br_t (by rw [t14]; rfl) h)))
  rw [if_neg t14] at h
  by_cases t15 : t = 15
  · rw [if_pos t15] at h; exact br_f (e 10 t10 (by decide)) (br_f (e 11 t11 (by decide)) (br_f (e 13 t13 (by decide)) (br_f (e 14 t14 (by decide)) (br_t (by rw [t15]; rfl) h))))
  rw [if_neg t15] at h
  by_cases t16 : t = 16
  · rw [if_pos t16] at h; exact br_f (e 10 t10 (by decide)) (br_f (e 11 t11 (by decide)) (br_f (e 13 t13 (by decide)) (br_f (e 14 t14 (by decide)) (br_f (e 15 t15 (by decide)) (br_t (by rw [t16]; rfl) h)))))
  rw [if_neg t16] at h
  by_cases t17 : t = 17
  · rw [if_pos t17] at h; exact br_f (e 10 t10 (by decide)) (br_f (e 11 t11 (by decide)) (br_f (e 13 t13 (by decide)) (br_f (e 14 t14 (by decide)) (br_f (e 15 t15 (by decide)) (br_f (e 16 t16 (by decide)) (br_t (by rw [t17]; rfl) h))))))
  rw [if_neg t17] at h
  by_cases t18 : t = 18
  · rw [if_pos t18] at h; exact br_f (e 10 t10 (by decide)) (br_f (e 11 t11 (by decide)) (br_f (e 13 t13 (by decide)) (br_f (e 14 t14 (by decide)) (br_f (e 15 t15 (by decide)) (br_f (e 16 t16 (by decide)) (br_f (e 17 t17 (by decide)) (br_t (by rw [t18]; rfl) h)))))))
  rw [if_neg t18] at h
  exact br_f (e 10 t10 (by decide)) (br_f (e 11 t11 (by decide)) (br_f (e 13 t13 (by decide)) (br_f (e 14 t14 (by decide)) (br_f (e 15 t15 (by decide)) (br_f (e 16 t16 (by decide)) (br_f (e 17 t17 (by decide)) (br_f (e 18 t18 (by decide)) (h))))))))
def ca_op (T : Nat → Nat) (l j : Nat) : Prop := ca_h T j = ca_h T l ∧ ca_W T j = 1 ∧ 10 ≤ T j ∧ T j ≤ 18 ∧ T j ≠ 12
theorem ca_wt5 {t : Nat} : ca_wt t ≤ 8 ↔ (10 ≤ t ∧ t ≤ 18 ∧ t ≠ 12) := by
  unfold ca_wt
  constructor
  · intro h
    repeat' split at h
    all_goals omega
  · intro h
    repeat' split
    all_goals omega
/-- what the reference's cut finds in the span l .. u-1 -/
def ca_cut (T : Nat → Nat) (l u c : Nat) : Prop :=
  (l < c ∧ c < u ∧ T c = 8 ∧ ca_h T c = ca_h T l ∧ ∀ j, l < j → j < c → T j = 8 → ca_h T j ≠ ca_h T l) ∨
  ((∀ j, l < j → j < u → T j = 8 → ca_h T j ≠ ca_h T l) ∧ l < c ∧ c < u ∧ ca_op T l c ∧ ∀ j, l < j → j < u → ca_op T l j → ca_wt (T c) ≤ ca_wt (T j) ∧ (c < j → ca_wt (T c) < ca_wt (T j))) ∨
  (c = l ∧ ca_N T l u)
section
variable {ob pl nds sts res era usd sp lv ret out : Int32} {ycls prp lst siz dnd opd yrk rn op nm ay prt ylo yhi sN sP sX sK it vr tk tv : Nat → Int32} {n : Nat} {T : Nat → Nat}
theorem cy_closing (hn : n ≤ 40) (hK : ∀ i, i < n → tk i = nI (T i) ∧ T i < 23) (hA : ca_S T n = some (1, [])) {q e : Nat} (hq : q + 1 ≤ e) (he : e < n) (hgt : ∀ k, q + 1 ≤ k → k < e → ca_h T q < ca_h T (k + 1)) (hq1 : ca_h T (q + 1) = ca_h T q) (hend : ca_h T (e + 1) = ca_h T q) {post : Int32 → Prop} (hp : post (nI e)) : wpY_closing post (ob, nI n, pl, nds, sts, res, era, usd, sp, lv, ret, out, ycls, prp, lst, siz, dnd, tk, tv, opd, yrk, rn, op, nm, ay, prt, ylo, yhi, sN, sP, sX, sK, it, vr) (nI (q + 1)) := by
  have stepd : ∀ (P : Int32 → Prop) (k : Nat), k < n → ca_h T q ≤ ca_h T k → ca_h T q ≤ ca_h T (k + 1) → P (nI (ca_h T (k + 1) - ca_h T q)) → ((T k = 6 → P (nI (ca_h T k - ca_h T q) + 1)) ∧ (T k = 7 → P (nI (ca_h T k - ca_h T q) + (-1))) ∧ (T k ≠ 6 → T k ≠ 7 → P (nI (ca_h T k - ca_h T q)))) := by
    intro P k hk g1 g2 H
    have hst := ca_hs hA hk
    refine ⟨fun t6 => ?_, fun t7 => ?_, fun t6 t7 => ?_⟩
    · rw [if_neg (by omega), if_pos t6] at hst
      rw [nI_1, show ca_h T k - ca_h T q + 1 = ca_h T (k + 1) - ca_h T q by omega]; exact H
    · rw [if_pos t7, if_neg (by omega)] at hst
      obtain ⟨c, hc⟩ : ∃ c, ca_h T k - ca_h T q = c + 1 := ⟨ca_h T k - ca_h T q - 1, by omega⟩
      rw [hc, pk_m1, show c = ca_h T (k + 1) - ca_h T q by omega]; exact H
    · rw [if_neg t7, if_neg t6] at hst
      rw [show ca_h T k = ca_h T (k + 1) by omega]; exact H
  have hle : ∀ k, q + 1 ≤ k → k ≤ e → ca_h T q ≤ ca_h T k := by
    intro k a b
    by_cases z : k = q + 1
    · rw [z, hq1]; exact Nat.le_refl _
    · obtain ⟨j, rfl⟩ : ∃ j, k = j + 1 := ⟨k - 1, by omega⟩
      have := hgt j (by omega) (by omega)
      omega
  have loop : ∀ (d k : Nat), k + d = e → q + 1 ≤ k → wY_closing_4 post ob (nI n) pl nds sts res era usd sp lv ret out ycls prp lst siz dnd (tk) (tv) opd yrk rn op nm ay prt ylo yhi sN sP sX sK it vr (d + 1) (nI (ca_h T k - ca_h T q)) (nI k) := by
    intro d
    induction d with
    | zero => ?_
    | succ d ih => ?_
    all_goals
      intro k hk hik
      have hkn : k < n := by omega
      obtain ⟨kk, kt⟩ := hK k hkn
      have ck : tk (nI k).toNatClampNeg = nI (T k) := by rw [nI_clamp (by omega)]; exact kk
      have ik : vp_in (nI k) 40 := vp_in_nI (by omega) (by decide)
      have g1 := hle k hik (by omega)
      have ub := ca_hub hA (k + 1) (by omega)
      have n6 : T k ≠ 6 → ¬ tk (nI k).toNatClampNeg = 6 := fun t z => t ((nI_eq (b := 6) (by omega) (by decide)).1 (ck.symm.trans z))
      have n7 : T k ≠ 7 → ¬ tk (nI k).toNatClampNeg = 7 := fun t z => t ((nI_eq (b := 7) (by omega) (by decide)).1 (ck.symm.trans z))
      have route : ∀ J : Int32 → Int32 → Prop, ca_h T q ≤ ca_h T (k + 1) → wY_closing_40 post J (nI (ca_h T (k + 1) - ca_h T q)) (nI k) ob (nI n) pl nds sts res era usd sp lv ret out ycls prp lst siz dnd (tk) (tv) opd yrk rn op nm ay prt ylo yhi sN sP sX sK it vr → ((tk (nI k).toNatClampNeg = 6 → ∀ y, y = nI (ca_h T k - ca_h T q) + 1 → wY_closing_26 post J y (nI k) ob (nI n) pl nds sts res era usd sp lv ret out ycls prp lst siz dnd (tk) (tv) opd yrk rn op nm ay prt ylo yhi sN sP sX sK it vr) ∧ (¬ tk (nI k).toNatClampNeg = 6 → wY_closing_26 post J (nI (ca_h T k - ca_h T q)) (nI k) ob (nI n) pl nds sts res era usd sp lv ret out ycls prp lst siz dnd (tk) (tv) opd yrk rn op nm ay prt ylo yhi sN sP sX sK it vr)) := by
        intro J g2 H
        obtain ⟨s1, s2, s3⟩ := stepd (fun x => wY_closing_40 post J x (nI k) ob (nI n) pl nds sts res era usd sp lv ret out ycls prp lst siz dnd (tk) (tv) opd yrk rn op nm ay prt ylo yhi sN sP sX sK it vr) k hkn g1 g2 H
        by_cases t6 : T k = 6
        · exact br_t (by rw [ck, t6]; rfl) (nm_e ⟨ik, br_f (n7 (by omega)) (s1 t6)⟩)
        · refine br_f (n6 t6) ⟨ik, ?_⟩
          by_cases t7 : T k = 7
          · exact br_t (by rw [ck, t7]; rfl) (nm_e (s2 t7))
          · exact br_f (n7 t7) (s3 t6 t7)
    · have ke : k = e := by omega
      subst ke
      refine br_f (nI_ge hkn (by omega)) ⟨ik, route _ (by omega) (br_t ?_ hp)⟩
      rw [hend, Nat.sub_self]; rfl
    · have g3 := hgt k hik (by omega)
      exact br_f (nI_ge hkn (by omega)) ⟨ik, route _ (by omega) (br_f (nI_ne0 (by omega) (by omega)) (nm_r (nI_1 k) (ih (k + 1) (by omega) (by omega))))⟩
  have L := loop (e - (q + 1)) (q + 1) (by omega) (Nat.le_refl _)
  rw [hq1, Nat.sub_self] at L
  exact ⟨_, L⟩
theorem cy_cut (hn : n ≤ 40) (hK : ∀ i, i < n → tk i = nI (T i) ∧ T i < 23) (hA : ca_S T n = some (1, [])) {l u : Nat} (hV : ca_V T n l u) : ∃ c, ca_cut T l u c ∧ ∀ post : Int32 → Prop, post (nI c) → wpY_cut post (ob, nI n, pl, nds, sts, res, era, usd, sp, lv, ret, out, ycls, prp, lst, siz, dnd, tk, tv, opd, yrk, rn, op, nm, ay, prt, ylo, yhi, sN, sP, sX, sK, it, vr) (nI l) (nI u) := by
  obtain ⟨v1, v2, v3, v4, v5, v6⟩ := id hV
  have stepd : ∀ (P : Int32 → Prop) (k : Nat), k < n → ca_h T l ≤ ca_h T k → ca_h T l ≤ ca_h T (k + 1) → P (nI (ca_h T (k + 1) - ca_h T l)) → ((T k = 6 → P (nI (ca_h T k - ca_h T l) + 1)) ∧ (T k = 7 → P (nI (ca_h T k - ca_h T l) + (-1))) ∧ (T k ≠ 6 → T k ≠ 7 → P (nI (ca_h T k - ca_h T l)))) := by
    intro P k hk g1 g2 H
    have hst := ca_hs hA hk
    refine ⟨fun t6 => ?_, fun t7 => ?_, fun t6 t7 => ?_⟩
    · rw [if_neg (by omega), if_pos t6] at hst
      rw [nI_1, show ca_h T k - ca_h T l + 1 = ca_h T (k + 1) - ca_h T l by omega]; exact H
    · rw [if_pos t7, if_neg (by omega)] at hst
      obtain ⟨c, hc⟩ : ∃ c, ca_h T k - ca_h T l = c + 1 := ⟨ca_h T k - ca_h T l - 1, by omega⟩
      rw [hc, pk_m1, show c = ca_h T (k + 1) - ca_h T l by omega]; exact H
    · rw [if_neg t7, if_neg t6] at hst
      rw [show ca_h T k = ca_h T (k + 1) by omega]; exact H
  have loop : ∀ (d i b k : Nat), i + d = u → l ≤ i → k < 10 → b < u → (∀ j, l < j → j < i → T j = 8 → ca_h T j ≠ ca_h T l) → ((b = l ∧ k = 8 ∧ ∀ j, l < j → j < i → ¬ ca_op T l j) ∨ (l < b ∧ b < i ∧ ca_op T l b ∧ k = ca_wt (T b) ∧ ∀ j, l < j → j < i → ca_op T l j → k ≤ ca_wt (T j) ∧ (b < j → k < ca_wt (T j)))) → ∃ c, ca_cut T l u c ∧ ∀ post : Int32 → Prop, post (nI c) → wY_cut_12 post (nI l) (nI u) ob (nI n) pl nds sts res era usd sp lv ret out ycls prp lst siz dnd (tk) (tv) opd yrk rn op nm ay prt ylo yhi sN sP sX sK it vr (d + 1) (nI b) (nI k) (nI (ca_h T i - ca_h T l)) (nI i) := by
    intro d
    induction d with
    | zero =>
      intro i b k hi hli hk hb hno hinv
      have iu : i = u := by omega
      subst iu
      refine ⟨b, ?_, fun post hp => br_t (nI_le (Nat.le_refl _) (by omega)) hp⟩
      rcases hinv with ⟨e1, e2, e3⟩ | ⟨e1, e2, e3, e4, e5⟩
      · exact Or.inr (Or.inr ⟨e1, fun j a1 a2 a3 => ⟨fun z => hno j a1 a2 z a3, fun z y => e3 j a1 a2 ⟨a3, z, y⟩⟩⟩)
      · exact Or.inr (Or.inl ⟨hno, e1, e2, e3, fun j a1 a2 a3 => by rw [← e4]; exact e5 j a1 a2 a3⟩)
    | succ d ih =>
      intro i b k hi hli hk hb hno hinv
      have hin : i < n := by omega
      obtain ⟨kk, kt⟩ := hK i hin
      have ck : tk (nI i).toNatClampNeg = nI (T i) := by rw [nI_clamp (by omega)]; exact kk
      have g1 := ca_hge hA hV hli (by omega : i ≤ u)
      have g2 := ca_hge hA hV (by omega : l ≤ i + 1) (by omega : i + 1 ≤ u)
      have ub := ca_hub hA (i + 1) (by omega)
      have hst := ca_hs hA hin
      have e0 : ∀ x, T i ≠ x → x < 23 → ¬ nI (T i) = nI x := fun x z hx y => z ((nI_eq (by omega) (by omega)).1 y)
      have route : ∀ (post : Int32 → Prop) (J : Int32 → Int32 → Int32 → Int32 → Prop), wY_cut_47 post J (nI l) (nI u) (nI b) (nI k) (nI (ca_h T (i + 1) - ca_h T l)) (nI i) (nI (T i)) ob (nI n) pl nds sts res era usd sp lv ret out ycls prp lst siz dnd (tk) (tv) opd yrk rn op nm ay prt ylo yhi sN sP sX sK it vr → ((nI (T i) = 6 → ∀ y, y = nI (ca_h T i - ca_h T l) + 1 → wY_cut_37 post J (nI l) (nI u) (nI b) (nI k) y (nI i) (nI (T i)) ob (nI n) pl nds sts res era usd sp lv ret out ycls prp lst siz dnd (tk) (tv) opd yrk rn op nm ay prt ylo yhi sN sP sX sK it vr) ∧ (¬ nI (T i) = 6 → wY_cut_37 post J (nI l) (nI u) (nI b) (nI k) (nI (ca_h T i - ca_h T l)) (nI i) (nI (T i)) ob (nI n) pl nds sts res era usd sp lv ret out ycls prp lst siz dnd (tk) (tv) opd yrk rn op nm ay prt ylo yhi sN sP sX sK it vr)) := by
        intro post J H
        obtain ⟨s1, s2, s3⟩ := stepd (fun x => wY_cut_47 post J (nI l) (nI u) (nI b) (nI k) x (nI i) (nI (T i)) ob (nI n) pl nds sts res era usd sp lv ret out ycls prp lst siz dnd (tk) (tv) opd yrk rn op nm ay prt ylo yhi sN sP sX sK it vr) i hin g1 g2 H
        by_cases t6 : T i = 6
        · exact br_t (by rw [t6]; rfl) (nm_e (br_f (e0 7 (by omega) (by decide)) (s1 t6)))
        · refine br_f (e0 6 t6 (by decide)) ?_
          by_cases t7 : T i = 7
          · exact br_t (by rw [t7]; rfl) (nm_e (s2 t7))
          · exact br_f (e0 7 t7 (by decide)) (s3 t6 t7)
      have start : ∀ (post : Int32 → Prop), wY_cut_47 post (wY_cut_12 post (nI l) (nI u) ob (nI n) pl nds sts res era usd sp lv ret out ycls prp lst siz dnd (tk) (tv) opd yrk rn op nm ay prt ylo yhi sN sP sX sK it vr (d + 1)) (nI l) (nI u) (nI b) (nI k) (nI (ca_h T (i + 1) - ca_h T l)) (nI i) (nI (T i)) ob (nI n) pl nds sts res era usd sp lv ret out ycls prp lst siz dnd (tk) (tv) opd yrk rn op nm ay prt ylo yhi sN sP sX sK it vr → wY_cut_12 post (nI l) (nI u) ob (nI n) pl nds sts res era usd sp lv ret out ycls prp lst siz dnd (tk) (tv) opd yrk rn op nm ay prt ylo yhi sN sP sX sK it vr (d + 1 + 1) (nI b) (nI k) (nI (ca_h T i - ca_h T l)) (nI i) :=
        fun post H => br_f (nI_ge (by omega) (by omega)) ⟨vp_in_nI (by omega) (by decide), nm_r (e' := nI (T i)) ck (route post _ H)⟩
      -- the loop goes on with the same best
      have keep : (¬ (l < i ∧ T i = 8 ∧ ca_h T i = ca_h T l)) → (l < i → ca_op T l i → k < ca_wt (T i)) → ∃ c, ca_cut T l u c ∧ ∀ post : Int32 → Prop, post (nI c) → wY_cut_12 post (nI l) (nI u) ob (nI n) pl nds sts res era usd sp lv ret out ycls prp lst siz dnd (tk) (tv) opd yrk rn op nm ay prt ylo yhi sN sP sX sK it vr (d + 1) (nI b) (nI k) (nI (ca_h T (i + 1) - ca_h T l)) (nI (i + 1)) := by
        intro n8 nop
        refine ih (i + 1) b k (by omega) (by omega) hk hb (fun j a1 a2 a3 => ?_) ?_
        · by_cases z : j = i
          · subst z; exact fun y => n8 ⟨a1, a3, y⟩
          · exact hno j a1 (by omega) a3
        · rcases hinv with ⟨e1, e2, e3⟩ | ⟨e1, e2, e3, e4, e5⟩
          · refine Or.inl ⟨e1, e2, fun j a1 a2 a3 => ?_⟩
            by_cases z : j = i
            · subst z
              have q1 := nop a1 a3
              have q2 := ca_wt5.2 a3.2.2
              omega
            · exact e3 j a1 (by omega) a3
          · refine Or.inr ⟨e1, by omega, e3, e4, fun j a1 a2 a3 => ?_⟩
            by_cases z : j = i
            · subst z
              have q1 := nop a1 a3
              exact ⟨by omega, fun _ => q1⟩
            · exact e5 j a1 (by omega) a3
      by_cases dz : ca_h T (i + 1) = ca_h T l
      · have d0 : nI (ca_h T (i + 1) - ca_h T l) = 0 := by rw [dz, Nat.sub_self]; rfl
        have nd : ¬ 0 < nI (ca_h T (i + 1) - ca_h T l) := by rw [d0]; decide
        by_cases il : i = l
        · obtain ⟨c, hc, H⟩ := keep (by omega) (fun z _ => absurd z (by omega))
          exact ⟨c, hc, fun post hp => start post (br_f nd (br_t (by rw [il]) (nm_r (nI_1 i) (H post hp))))⟩
        · have il' : ¬ nI i = nI l := fun z => il ((nI_eq (by omega) (by omega)).1 z)
          by_cases t8 : T i = 8
          · rw [if_neg (by omega), if_neg (by omega)] at hst
            exact ⟨i, Or.inl ⟨by omega, by omega, t8, by omega, hno⟩, fun post hp => start post (br_f nd (br_f il' (br_t (by rw [t8]; rfl) hp)))⟩
          · obtain ⟨pk, pt⟩ := hK (i - 1) (by omega)
            obtain ⟨i', rfl⟩ : ∃ i', i = i' + 1 := ⟨i - 1, by omega⟩
            rw [Nat.add_sub_cancel] at pk pt
            have cp : tk (nI (i' + 1) - 1).toNatClampNeg = nI (T i') := by rw [nI_pred, nI_clamp (by omega)]; exact pk
            have ip : vp_in (nI (i' + 1) - 1) 40 := by rw [nI_pred]; exact vp_in_nI (by omega) (by decide)
            have en := ca_end hA (i := i' + 1) (by omega) (by omega)
            rw [Nat.add_sub_cancel] at en
            have w9 : ca_wt (T (i' + 1)) < 10 := by
              unfold ca_wt
              repeat' split
              all_goals omega
            -- the tests behind the weight
            have tests : ∀ (post : Int32 → Prop) (J : Int32 → Int32 → Int32 → Int32 → Prop), (ca_W T (i' + 1) = 1 → wY_cut_109 post J (nI l) (nI u) (nI b) (nI k) (nI (ca_h T (i' + 1 + 1) - ca_h T l)) (nI (i' + 1)) (nI (ca_wt (T (i' + 1)))) ob (nI n) pl nds sts res era usd sp lv ret out ycls prp lst siz dnd (tk) (tv) opd yrk rn op nm ay prt ylo yhi sN sP sX sK it vr) → (¬ ca_W T (i' + 1) = 1 → wY_cut_114 post J (nI l) (nI u) (nI b) (nI k) (nI (ca_h T (i' + 1 + 1) - ca_h T l)) (nI (i' + 1)) (nI (ca_wt (T (i' + 1)))) 0 ob (nI n) pl nds sts res era usd sp lv ret out ycls prp lst siz dnd (tk) (tv) opd yrk rn op nm ay prt ylo yhi sN sP sX sK it vr) → wY_cut_47 post J (nI l) (nI u) (nI b) (nI k) (nI (ca_h T (i' + 1 + 1) - ca_h T l)) (nI (i' + 1)) (nI (T (i' + 1))) ob (nI n) pl nds sts res era usd sp lv ret out ycls prp lst siz dnd (tk) (tv) opd yrk rn op nm ay prt ylo yhi sN sP sX sK it vr := by
              intro post J H1 H2
              refine br_f nd (br_f il' (br_f (e0 8 t8 (by decide)) ⟨ip, nm_r (e' := nI (T i')) cp (cy_wt kt ?_)⟩))
              have p0 : ∀ x, T i' ≠ x → x < 23 → ¬ nI (T i') = nI x := fun x z hx y => z ((nI_eq (by omega) (by omega)).1 y)
              by_cases p4 : T i' ≤ 4
              · exact br_t (nI_le (b := 4) p4 (by decide)) (H1 (en.2 (Or.inl p4)))
              · refine br_f (nI_ge (a := 4) (by omega) (by omega)) ?_
                by_cases p7 : T i' = 7
                · exact br_t (by rw [p7]; rfl) (H1 (en.2 (Or.inr (Or.inl p7))))
                · refine br_f (p0 7 p7 (by decide)) ?_
                  by_cases p19 : T i' = 19
                  · exact br_t (by rw [p19]; rfl) (H1 (en.2 (Or.inr (Or.inr p19))))
                  · exact br_f (p0 19 p19 (by decide)) (H2 (fun z => by have := en.1 z; omega))
            by_cases hop : ca_W T (i' + 1) = 1 ∧ ca_wt (T (i' + 1)) ≤ k
            · -- a new best
              have ow := ca_wt5.1 (show ca_wt (T (i' + 1)) ≤ 8 by
                rcases hinv with ⟨_, e2, _⟩ | ⟨_, _, e3, e4, _⟩
                · omega
                · have := ca_wt5.2 e3.2.2; omega)
              have hh : ca_h T (i' + 1) = ca_h T l := by
                rw [if_neg (by omega), if_neg (by omega)] at hst
                omega
              obtain ⟨c, hc, H⟩ := ih (i' + 1 + 1) (i' + 1) (ca_wt (T (i' + 1))) (by omega) (by omega) w9 (by omega) (fun j a1 a2 a3 => by
                by_cases z : j = i' + 1
                · rw [z] at a3; omega
                · exact hno j a1 (by omega) a3) (Or.inr ⟨by omega, by omega, ⟨hh, hop.1, ow⟩, rfl, fun j a1 a2 a3 => by
                by_cases z : j = i' + 1
                · rw [z]; exact ⟨Nat.le_refl _, fun y => by omega⟩
                · rcases hinv with ⟨_, _, e3⟩ | ⟨_, _, _, _, e5⟩
                  · exact absurd a3 (e3 j a1 (by omega))
                  · have := (e5 j a1 (by omega) a3).1
                    exact ⟨by omega, fun y => by omega⟩⟩)
              refine ⟨c, hc, fun post hp => start post (tests post _ (fun _ => br_f (by decide) (br_f (nI_nlt hop.2 (by omega)) (nm_r (nI_1 _) (H post hp)))) (fun z => absurd hop.1 z))⟩
            · obtain ⟨c, hc, H⟩ := keep (fun z => t8 z.2.1) (fun _ y => Nat.lt_of_not_le (fun x => hop ⟨y.2.1, x⟩))
              refine ⟨c, hc, fun post hp => start post (tests post _ (fun z => br_f (by decide) (br_t (nI_lt (Nat.lt_of_not_le (fun x => hop ⟨z, x⟩)) (by omega)) (nm_r (nI_1 _) (H post hp)))) (fun _ => br_t rfl (nm_r (nI_1 _) (H post hp))))⟩
      · obtain ⟨c, hc, H⟩ := keep (fun z => by
          have : T i = 8 := z.2.1
          rw [if_neg (by omega), if_neg (by omega)] at hst
          omega) (fun _ z => by
          have q1 := z.2.2
          have q2 := z.1
          rw [if_neg (by omega), if_neg (by omega)] at hst
          omega)
        exact ⟨c, hc, fun post hp => start post (br_t (by rw [show (0 : Int32) = nI 0 from rfl]; exact nI_lt (by omega) (by omega)) (nm_r (nI_1 i) (H post hp)))⟩
  obtain ⟨c, hc, H⟩ := loop (u - l) l l 8 (by omega) (Nat.le_refl _) (by decide) v1 (fun j a b => absurd a (by omega)) (Or.inl ⟨rfl, rfl, fun j a b => absurd a (by omega)⟩)
  refine ⟨c, hc, fun post hp => ⟨u - l + 1, ?_⟩⟩
  have := H post hp
  rw [Nat.sub_self] at this
  exact this
end
