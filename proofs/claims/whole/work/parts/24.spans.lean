/-- the tokens l .. h-1 are an expression -/
def ca_V (T : Nat → Nat) (n l h : Nat) : Prop := l < h ∧ h ≤ n ∧ ca_W T l = 0 ∧ ca_W T h = 1 ∧ ca_Z T h = ca_Z T l ∧ ∀ i, l ≤ i → i ≤ h → ∃ E, ca_Z T i = E ++ ca_Z T l
section
variable {T : Nat → Nat} {n l h : Nat}
theorem ca_V0 (hA : ca_S T n = some (1, [])) : ca_V T n 0 n := by
  have h1 := ca_Wn hA
  refine ⟨?_, Nat.le_refl _, ca_W0, h1, (ca_Zn hA).trans ca_Z0.symm, fun i _ _ => ⟨ca_Z T i, by rw [ca_Z0, List.append_nil]⟩⟩
  cases n with
  | zero => rw [ca_W0] at h1; omega
  | succ n => omega
/-- depth against the base -/
theorem ca_hE (hA : ca_S T n = some (1, [])) {i : Nat} {E : List (Nat × Nat)} (hw : ca_W T l = 0) (hi : i ≤ n) (hli : l ≤ i) (hsuf : ∀ j, l ≤ j → j ≤ i → ∃ E, ca_Z T j = E ++ ca_Z T l) (hZ : ca_Z T i = E ++ ca_Z T l) : ca_h T i + (if ca_W T i = 2 then 1 else 0) = ca_h T l + ca_c T E ∧ (ca_W T i = 2 → 1 ≤ ca_c T E) := by
  have hl : ca_h T l = ca_c T (ca_Z T l) := by unfold ca_h; rw [if_neg (by omega)]; rfl
  have k : ca_W T i = 2 → 1 ≤ ca_c T E := by
    intro h2
    obtain ⟨j, hj, z, t⟩ := ca_w2 hA hi h2
    have : i ≠ l := by intro y; rw [y, hw] at h2; omega
    obtain ⟨E', hE'⟩ := hsuf j (by omega) (by omega)
    have e : E = (j, j) :: E' := by
      have h3 : E ++ ca_Z T l = ((j, j) :: E') ++ ca_Z T l := by rw [← hZ, z, hE', List.cons_append]
      exact List.append_cancel_right h3
    rw [e]
    show 1 ≤ (if T j = 8 then 0 else 1) + _
    rw [if_neg (by omega)]; omega
  refine ⟨?_, k⟩
  rw [hl]
  unfold ca_h
  rw [hZ, ca_c_app]
  by_cases h2 : ca_W T i = 2
  · have := k h2
    rw [if_pos h2]; omega
  · rw [if_neg h2]; omega
theorem ca_hge (hA : ca_S T n = some (1, [])) (hV : ca_V T n l h) {i : Nat} (h1 : l ≤ i) (h2 : i ≤ h) : ca_h T l ≤ ca_h T i := by
  obtain ⟨v1, v2, v3, v4, v5, v6⟩ := hV
  obtain ⟨E, hE⟩ := v6 i h1 h2
  obtain ⟨a, b⟩ := ca_hE hA v3 (by omega) h1 (fun j x y => v6 j x (by omega)) hE
  by_cases z : ca_W T i = 2
  · have := b z
    rw [if_pos z] at a; omega
  · rw [if_neg z] at a; omega
theorem ca_last : ∀ (E : List (Nat × Nat)), E ≠ [] → ∃ E0 e, E = E0 ++ [e]
  | [], h => absurd rfl h
  | [x], _ => ⟨[], x, rfl⟩
  | x :: y :: r, _ => by
    obtain ⟨E0, e, he⟩ := ca_last (y :: r) (fun z => nomatch z)
    exact ⟨x :: E0, e, by rw [he]; rfl⟩
theorem ca_lenne {e : Nat × Nat} {E R : List (Nat × Nat)} (z : R = E ++ e :: R) : False := by
  have := congrArg List.length z
  rw [List.length_append, List.length_cons] at this
  omega
/-- what is unclosed at the depth of the span's own level is a ? of this level -/
theorem ca_top (hA : ca_S T n = some (1, [])) (hV : ca_V T n l h) {i : Nat} (h1 : l ≤ i) (h2 : i ≤ h) (hw : ca_W T i ≠ 2) (hh : ca_h T i = ca_h T l) (hno : ∀ j, l < j → j < i → T j = 8 → ca_h T j ≠ ca_h T l) : ca_Z T i = ca_Z T l := by
  obtain ⟨v1, v2, v3, v4, v5, v6⟩ := id hV
  obtain ⟨E, hE⟩ := v6 i h1 h2
  obtain ⟨a, _⟩ := ca_hE hA v3 (by omega) h1 (fun j x y => v6 j x (by omega)) hE
  rw [if_neg hw] at a
  have c0 : ca_c T E = 0 := by omega
  by_cases hnil : E = []
  · rw [hE, hnil, List.nil_append]
  · exfalso
    obtain ⟨E0, e, hd⟩ := ca_last E hnil
    have hZ : ca_Z T i = E0 ++ e :: ca_Z T l := by rw [hE, hd, List.append_assoc]; rfl
    have t8 : T e.1 = 8 := by
      rw [hd, ca_c_app] at c0
      by_cases t8 : T e.1 = 8
      · exact t8
      · have : ca_c T [e] = 1 := by
          show (if T e.1 = 8 then 0 else 1) + 0 = 1
          rw [if_neg t8]
        omega
    obtain ⟨b1, b2, b3, b4, b5⟩ := ca_ent hA (by omega) E0 e _ hZ
    have b6 := (b4 (by omega)).2
    have hle : l ≤ e.1 := by
      by_cases y : l ≤ e.1
      · exact y
      · obtain ⟨E', hE'⟩ := b3 l (by omega) h1
        exact (ca_lenne hE').elim
    have w1 : ca_W T e.1 = 1 := by
      have r := ca_rule hA (i := e.1) (by omega)
      unfold ca_R at r
      omega
    have hne : e.1 ≠ l := by intro y; rw [y, v3] at w1; omega
    refine hno e.1 (by omega) b1 t8 ?_
    unfold ca_h
    rw [b6, w1, v3]; rfl
/-- a span is cut at an operator of its own level -/
theorem ca_cutop (hA : ca_S T n = some (1, [])) (hV : ca_V T n l h) {c : Nat} (h1 : l < c) (h2 : c < h) (hw : ca_W T c = 1) (hh : ca_h T c = ca_h T l) (hop : 10 ≤ T c ∧ T c ≤ 18) (hno : ∀ j, l < j → j < h → T j = 8 → ca_h T j ≠ ca_h T l) : ca_V T n l c ∧ ca_V T n (c + 1) h ∧ ca_Z T (c + 1) = ca_Z T l ∧ ca_Z T c = ca_Z T l := by
  obtain ⟨v1, v2, v3, v4, v5, v6⟩ := id hV
  have hZ := ca_top hA hV (by omega) (by omega) (by omega) hh (fun j a b => hno j a (by omega))
  have r := ca_rule hA (i := c) (by omega)
  have hs : ca_W T (c + 1) = 0 ∧ ca_Z T (c + 1) = ca_Z T c := by
    rcases r with ⟨a, _⟩ | ⟨a, _⟩ | ⟨a, _⟩ | ⟨a, _⟩ | ⟨a, _⟩ | ⟨_, t, _⟩ | ⟨_, t, _⟩ | ⟨_, t, _⟩ | ⟨_, t, _⟩ | ⟨_, t, _⟩ | ⟨_, _, w', z⟩
    all_goals first | exact ⟨w', z⟩ | omega
  have hc : c + 1 ≠ h := by intro y; rw [y] at hs; omega
  have hz1 : ca_Z T (c + 1) = ca_Z T l := hs.2.trans hZ
  refine ⟨⟨h1, by omega, v3, hw, hZ, fun i a b => v6 i a (by omega)⟩, ⟨by omega, v2, hs.1, v4, v5.trans hz1.symm, fun i a b => ?_⟩, hz1, hZ⟩
  rw [hz1]
  exact v6 i (by omega) b
/-- .. and at its first ? -/
theorem ca_cutif (hA : ca_S T n = some (1, [])) (hV : ca_V T n l h) {c : Nat} (h1 : l < c) (h2 : c < h) (hh : ca_h T c = ca_h T l) (ht : T c = 8) (hno : ∀ j, l < j → j < c → T j = 8 → ca_h T j ≠ ca_h T l) : ∃ m, c + 1 < m ∧ m + 1 < h ∧ T m = 9 ∧ ca_V T n l c ∧ ca_V T n (c + 1) m ∧ ca_V T n (m + 1) h ∧ ca_Z T (c + 1) = (c, c) :: ca_Z T l ∧ ca_Z T m = (c, c) :: ca_Z T l ∧ ca_Z T (m + 1) = ca_Z T l ∧ ca_W T m = 1 := by
  obtain ⟨v1, v2, v3, v4, v5, v6⟩ := id hV
  have r := ca_rule hA (i := c) (by omega)
  have hs : ca_W T c = 1 ∧ ca_W T (c + 1) = 0 ∧ ca_Z T (c + 1) = (c, c) :: ca_Z T c := by
    rcases r with ⟨_, t, _⟩ | ⟨_, t, _⟩ | ⟨_, t, _⟩ | ⟨_, t, _⟩ | ⟨_, t, _⟩ | ⟨_, t, _⟩ | ⟨w, _, w', z⟩ | ⟨_, t, _⟩ | ⟨_, t, _⟩ | ⟨_, t, _⟩ | ⟨_, t, _⟩
    all_goals first | exact ⟨w, w', z⟩ | omega
  have hZ := ca_top hA hV (by omega) (by omega) (by omega) hh hno
  have hz1 : ca_Z T (c + 1) = (c, c) :: ca_Z T l := by rw [hs.2.2, hZ]
  obtain ⟨m, m1, m2, m3, m4, m5, m6⟩ := ca_life hA (a := c + 1) (H := h) v2 hz1 (fun ⟨E, z⟩ => ca_lenne (v5.symm.trans z)) (by omega)
  have m7 : T m = 9 ∧ ca_Z T (m + 1) = ca_Z T l ∧ ca_W T (m + 1) = 0 := by
    rcases m6 with ⟨a, b, c', d⟩ | ⟨a, b, c', d⟩ | ⟨a, b, c', d⟩
    · exact ⟨a, c', d⟩
    · exact absurd b (by show ¬ 20 ≤ T c; omega)
    · exact absurd b (by show ¬ (T c = 9 ∨ T c = 6 ∨ T c = 5); omega)
  have cm : c + 1 ≠ m := by intro y; rw [y] at hs; omega
  have mh : m + 1 ≠ h := by intro y; rw [y] at m7; omega
  refine ⟨m, by omega, by omega, m7.1, ⟨h1, by omega, v3, hs.1, hZ, fun i a b => v6 i a (by omega)⟩, ⟨by omega, by omega, hs.2.1, m5, m3.trans hz1.symm, fun i a b => ?_⟩, ⟨by omega, v2, m7.2.2, v4, v5.trans m7.2.1.symm, fun i a b => ?_⟩, hz1, m3, m7.2.1, m5⟩
  · rw [hz1]; exact m4 i a b
  · rw [m7.2.1]; exact v6 i (by omega) b
/-- no operator of the span's own level -/
def ca_N (T : Nat → Nat) (l h : Nat) : Prop := ∀ j, l < j → j < h → ca_h T j = ca_h T l → T j ≠ 8 ∧ (ca_W T j = 1 → ¬ (10 ≤ T j ∧ T j ≤ 18 ∧ T j ≠ 12))
theorem ca_tail (hA : ca_S T n = some (1, [])) (hV : ca_V T n l h) (hN : ca_N T l h) : ∀ (d i : Nat), i + d = h → l < i → ca_W T i = 1 → ca_Z T i = ca_Z T l → d ≠ 0 → (T (h - 1) = 1 ∨ T (h - 1) = 2) ∧ ca_W T (h - 1) = 1 ∧ ca_Z T (h - 1) = ca_Z T l ∧ l + 1 < h := by
  obtain ⟨v1, v2, v3, v4, v5, v6⟩ := id hV
  intro d
  induction d with
  | zero => intro i _ _ _ _ z; exact absurd rfl z
  | succ d ih =>
    intro i hi hl hw hZ _
    have hh : ca_h T i = ca_h T l := by unfold ca_h; rw [hZ, hw, v3]; rfl
    obtain ⟨n8, nop⟩ := hN i hl (by omega) hh
    have nop' := nop hw
    have step : (T i = 1 ∨ T i = 2) ∧ ca_W T (i + 1) = 1 ∧ ca_Z T (i + 1) = ca_Z T i := by
      rcases ca_rule hA (i := i) (by omega) with ⟨a, _⟩ | ⟨a, _⟩ | ⟨a, _⟩ | ⟨a, _⟩ | ⟨a, _⟩ | ⟨_, t, w', z⟩ | ⟨_, t, _⟩ | ⟨_, t, _, e, r, z1, _, z⟩ | ⟨_, t, _, e, r, z1, _, z⟩ | ⟨_, t, _, e, r, z1, _, z⟩ | ⟨_, t, _⟩
      all_goals first | exact ⟨t, w', z⟩ | omega | skip
      · obtain ⟨E, hE⟩ := v6 (i + 1) (by omega) (by omega)
        exact (ca_lenne (e := e) (E := []) (R := ca_Z T l) (by
          exfalso
          have := congrArg List.length (hZ.symm.trans z1)
          have h3 := congrArg List.length (z.symm.trans hE)
          rw [List.length_cons] at this
          rw [List.length_append] at h3
          omega)).elim
      · exfalso
        obtain ⟨E, hE⟩ := v6 (i + 1) (by omega) (by omega)
        have h5 : (i, e.2) :: r = E ++ ca_Z T l := z.symm.trans hE
        have h6 : ca_Z T l = e :: r := hZ.symm.trans z1
        rw [h6] at h5
        have h7 := congrArg List.length h5
        rw [List.length_append, List.length_cons, List.length_cons] at h7
        have : E = [] := List.length_eq_zero_iff.mp (by omega)
        rw [this, List.nil_append] at h5
        have h8 := (ca_ent hA (i := i) (by omega) [] e r z1).1
        have h9 : i = e.1 := congrArg Prod.fst (List.cons.inj h5).1
        omega
      · exfalso
        obtain ⟨E, hE⟩ := v6 (i + 1) (by omega) (by omega)
        have := congrArg List.length (hZ.symm.trans z1)
        have h3 := congrArg List.length (z.symm.trans hE)
        rw [List.length_cons] at this
        rw [List.length_append] at h3
        omega
    by_cases d0 : d = 0
    · have : i = h - 1 := by omega
      rw [← this]
      exact ⟨step.1, hw, hZ, by omega⟩
    · exact ih (i + 1) (by omega) (by omega) step.2.1 (step.2.2.trans hZ) d0
/-- a bracket of the span's own level closes at the span's end, or only properties follow -/
theorem ca_prim (hA : ca_S T n = some (1, [])) (hV : ca_V T n l h) (hN : ca_N T l h) {i : Nat} (hl : l < i) (hi : i ≤ h) (hw : ca_W T i = 1) (hZ : ca_Z T i = ca_Z T l) : i = h ∨ ((T (h - 1) = 1 ∨ T (h - 1) = 2) ∧ l + 1 < h ∧ ca_V T n l (h - 1)) := by
  obtain ⟨v1, v2, v3, v4, v5, v6⟩ := id hV
  by_cases z : i = h
  · exact Or.inl z
  · obtain ⟨a, b, c, d⟩ := ca_tail hA hV hN (h - i) i (by omega) hl hw hZ (by omega)
    exact Or.inr ⟨a, d, by omega, by omega, v3, b, c, fun j x y => v6 j x (by omega)⟩
end
