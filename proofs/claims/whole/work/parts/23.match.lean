/-- the automaton's state before token i -/
def ca_W (T : Nat → Nat) (i : Nat) : Nat := match ca_S T i with
  | some x => x.1
  | none => 9
def ca_Z (T : Nat → Nat) (i : Nat) : List (Nat × Nat) := match ca_S T i with
  | some x => x.2
  | none => []
/-- one step, by its cases -/
def ca_R (T : Nat → Nat) (i w : Nat) (s : List (Nat × Nat)) (w' : Nat) (s' : List (Nat × Nat)) : Prop :=
  (w = 2 ∧ T i = 6 ∧ w' = 0 ∧ s' = s) ∨
  (w = 0 ∧ (T i = 0 ∨ T i = 3 ∨ T i = 4 ∨ T i = 19) ∧ w' = 1 ∧ s' = s) ∨
  (w = 0 ∧ (T i = 12 ∨ T i = 16) ∧ w' = 0 ∧ s' = s) ∨
  (w = 0 ∧ T i = 6 ∧ w' = 0 ∧ s' = (i, i) :: s) ∨
  (w = 0 ∧ (T i = 5 ∨ 20 ≤ T i) ∧ w' = 2 ∧ s' = (i, i) :: s) ∨
  (w = 1 ∧ (T i = 1 ∨ T i = 2) ∧ w' = 1 ∧ s' = s) ∨
  (w = 1 ∧ T i = 8 ∧ w' = 0 ∧ s' = (i, i) :: s) ∨
  (w = 1 ∧ T i = 9 ∧ w' = 0 ∧ ∃ e r, s = e :: r ∧ T e.1 = 8 ∧ s' = r) ∨
  (w = 1 ∧ T i = 9 ∧ w' = 0 ∧ ∃ e r, s = e :: r ∧ 20 ≤ T e.1 ∧ s' = (i, e.2) :: r) ∨
  (w = 1 ∧ T i = 7 ∧ w' = 1 ∧ ∃ e r, s = e :: r ∧ (T e.1 = 9 ∨ T e.1 = 6 ∨ T e.1 = 5) ∧ s' = r) ∨
  (w = 1 ∧ (10 ≤ T i ∧ T i ≤ 18 ∧ T i ≠ 12) ∧ w' = 0 ∧ s' = s)
theorem ca_inv {T : Nat → Nat} {i w : Nat} {s : List (Nat × Nat)} {w' : Nat} {s' : List (Nat × Nat)} (hw : w < 3) (h : ca_st T i w s = some (w', s')) : ca_R T i w s w' s' := by
  unfold ca_st at h
  by_cases w2 : w = 2
  · rw [if_pos w2] at h
    by_cases t6 : T i = 6
    · rw [if_pos t6] at h; cases h; exact Or.inl ⟨w2, t6, rfl, rfl⟩
    · rw [if_neg t6] at h; cases h
  rw [if_neg w2] at h
  by_cases w0 : w = 0
  · rw [if_pos w0] at h
    by_cases t1 : T i = 0 ∨ T i = 3 ∨ T i = 4 ∨ T i = 19
    · rw [if_pos t1] at h; cases h; exact Or.inr (Or.inl ⟨w0, t1, rfl, rfl⟩)
    rw [if_neg t1] at h
    by_cases t2 : T i = 12 ∨ T i = 16
    · rw [if_pos t2] at h; cases h; exact Or.inr (Or.inr (Or.inl ⟨w0, t2, rfl, rfl⟩))
    rw [if_neg t2] at h
    by_cases t3 : T i = 6
    · rw [if_pos t3] at h; cases h; exact Or.inr (Or.inr (Or.inr (Or.inl ⟨w0, t3, rfl, rfl⟩)))
    rw [if_neg t3] at h
    by_cases t4 : T i = 5 ∨ 20 ≤ T i
    · rw [if_pos t4] at h; cases h; exact Or.inr (Or.inr (Or.inr (Or.inr (Or.inl ⟨w0, t4, rfl, rfl⟩))))
    rw [if_neg t4] at h; cases h
  rw [if_neg w0] at h
  have w1 : w = 1 := by omega
  by_cases t1 : T i = 1 ∨ T i = 2
  · rw [if_pos t1] at h; cases h; exact Or.inr (Or.inr (Or.inr (Or.inr (Or.inr (Or.inl ⟨w1, t1, rfl, rfl⟩)))))
  rw [if_neg t1] at h
  by_cases t2 : T i = 8
  · rw [if_pos t2] at h; cases h; exact Or.inr (Or.inr (Or.inr (Or.inr (Or.inr (Or.inr (Or.inl ⟨w1, t2, rfl, rfl⟩))))))
  rw [if_neg t2] at h
  by_cases t3 : T i = 9
  · rw [if_pos t3] at h
    cases s with
    | nil => cases h
    | cons e r =>
      dsimp only at h
      by_cases e8 : T e.1 = 8
      · rw [if_pos e8] at h; cases h; exact Or.inr (Or.inr (Or.inr (Or.inr (Or.inr (Or.inr (Or.inr (Or.inl ⟨w1, t3, rfl, e, _, rfl, e8, rfl⟩)))))))
      rw [if_neg e8] at h
      by_cases e20 : 20 ≤ T e.1
      · rw [if_pos e20] at h; cases h; exact Or.inr (Or.inr (Or.inr (Or.inr (Or.inr (Or.inr (Or.inr (Or.inr (Or.inl ⟨w1, t3, rfl, e, _, rfl, e20, rfl⟩))))))))
      rw [if_neg e20] at h; cases h
  rw [if_neg t3] at h
  by_cases t4 : T i = 7
  · rw [if_pos t4] at h
    cases s with
    | nil => cases h
    | cons e r =>
      dsimp only at h
      by_cases e8 : T e.1 = 9 ∨ T e.1 = 6 ∨ T e.1 = 5
      · rw [if_pos e8] at h; cases h; exact Or.inr (Or.inr (Or.inr (Or.inr (Or.inr (Or.inr (Or.inr (Or.inr (Or.inr (Or.inl ⟨w1, t4, rfl, e, _, rfl, e8, rfl⟩)))))))))
      rw [if_neg e8] at h; cases h
  rw [if_neg t4] at h
  by_cases t5 : 10 ≤ T i ∧ T i ≤ 18 ∧ T i ≠ 12
  · rw [if_pos t5] at h; cases h; exact Or.inr (Or.inr (Or.inr (Or.inr (Or.inr (Or.inr (Or.inr (Or.inr (Or.inr (Or.inr ⟨w1, t5, rfl, rfl⟩)))))))))
  rw [if_neg t5] at h; cases h
section
variable {T : Nat → Nat} {n : Nat}
theorem ca_ex (hA : ca_S T n = some (1, [])) : ∀ (d i : Nat), i + d = n → ∃ y, ca_S T i = some y := by
  intro d
  induction d with
  | zero => intro i hi; rw [show i = n by omega]; exact ⟨_, hA⟩
  | succ d ih =>
    intro i hi
    obtain ⟨y, hy⟩ := ih (i + 1) (by omega)
    cases h : ca_S T i with
    | none =>
      have : ca_S T (i + 1) = none := by
        show (match ca_S T i with | none => none | some x => ca_st T i x.1 x.2) = _
        rw [h]
      rw [this] at hy; cases hy
    | some x => exact ⟨x, rfl⟩
theorem ca_some (hA : ca_S T n = some (1, [])) {i : Nat} (hi : i ≤ n) : ca_S T i = some (ca_W T i, ca_Z T i) := by
  obtain ⟨y, hy⟩ := ca_ex hA (n - i) i (by omega)
  unfold ca_W ca_Z
  rw [hy]
theorem ca_stp (hA : ca_S T n = some (1, [])) {i : Nat} (hi : i < n) : ca_st T i (ca_W T i) (ca_Z T i) = some (ca_W T (i + 1), ca_Z T (i + 1)) := by
  have h := ca_some hA (i := i + 1) (by omega)
  rw [← h]
  show _ = (match ca_S T i with | none => none | some x => ca_st T i x.1 x.2)
  rw [ca_some hA (i := i) (by omega)]
theorem ca_Wn (hA : ca_S T n = some (1, [])) : ca_W T n = 1 := by unfold ca_W; rw [hA]
theorem ca_Zn (hA : ca_S T n = some (1, [])) : ca_Z T n = [] := by unfold ca_Z; rw [hA]
theorem ca_W0 : ca_W T 0 = 0 := rfl
theorem ca_Z0 : ca_Z T 0 = [] := rfl
theorem ca_W3 (hA : ca_S T n = some (1, [])) : ∀ {i : Nat}, i ≤ n → ca_W T i < 3 := by
  intro i
  induction i with
  | zero => intro _; rw [ca_W0]; omega
  | succ i ih =>
    intro hi
    have h := ca_inv (ih (by omega)) (ca_stp hA (i := i) (by omega))
    unfold ca_R at h
    omega
theorem ca_rule (hA : ca_S T n = some (1, [])) {i : Nat} (hi : i < n) : ca_R T i (ca_W T i) (ca_Z T i) (ca_W T (i + 1)) (ca_Z T (i + 1)) := ca_inv (ca_W3 hA (by omega)) (ca_stp hA hi)
/-- where an entry of the stack comes from -/
theorem ca_ent (hA : ca_S T n = some (1, [])) : ∀ {i : Nat}, i ≤ n → ∀ (E : List (Nat × Nat)) (e : Nat × Nat) (R : List (Nat × Nat)), ca_Z T i = E ++ e :: R → e.1 < i ∧ ca_Z T (e.1 + 1) = e :: R ∧ (∀ j, e.1 < j → j ≤ i → ∃ E', ca_Z T j = E' ++ e :: R) ∧ (T e.1 ≠ 9 → e.2 = e.1 ∧ ca_Z T e.1 = R) ∧ (T e.1 = 9 → 20 ≤ T e.2 ∧ ca_Z T e.1 = (e.2, e.2) :: R ∧ e.2 < e.1) := by
  intro i
  induction i with
  | zero =>
    intro _ E e R h
    rw [ca_Z0] at h
    cases E <;> cases h
  | succ i ih =>
    intro hi E e R h
    have old : ∀ E0, ca_Z T i = E0 ++ e :: R → (e.1 < i + 1 ∧ ca_Z T (e.1 + 1) = e :: R ∧ (∀ j, e.1 < j → j ≤ i + 1 → ∃ E', ca_Z T j = E' ++ e :: R) ∧ (T e.1 ≠ 9 → e.2 = e.1 ∧ ca_Z T e.1 = R) ∧ (T e.1 = 9 → 20 ≤ T e.2 ∧ ca_Z T e.1 = (e.2, e.2) :: R ∧ e.2 < e.1)) := by
      intro E0 h0
      obtain ⟨a1, a2, a3, a4⟩ := ih (by omega) E0 e R h0
      refine ⟨by omega, a2, fun j hj hj2 => ?_, a4⟩
      by_cases z : j = i + 1
      · rw [z]; exact ⟨E, h⟩
      · exact a3 j hj (by omega)
    have new : ∀ x r, ca_Z T (i + 1) = x :: r → x.1 = i → (∀ E0, E = x :: E0 → ∃ E1, ca_Z T i = E1 ++ e :: R) → ((T i ≠ 9 → x.2 = x.1 ∧ ca_Z T i = r) ∧ (T i = 9 → 20 ≤ T x.2 ∧ ca_Z T i = (x.2, x.2) :: r ∧ x.2 < x.1)) → (e.1 < i + 1 ∧ ca_Z T (e.1 + 1) = e :: R ∧ (∀ j, e.1 < j → j ≤ i + 1 → ∃ E', ca_Z T j = E' ++ e :: R) ∧ (T e.1 ≠ 9 → e.2 = e.1 ∧ ca_Z T e.1 = R) ∧ (T e.1 = 9 → 20 ≤ T e.2 ∧ ca_Z T e.1 = (e.2, e.2) :: R ∧ e.2 < e.1)) := by
      intro x r hx hxi hE hp
      cases E with
      | nil =>
        rw [List.nil_append] at h
        have hh := hx.symm.trans h
        cases hh
        rw [hxi]
        refine ⟨by omega, h, fun j hj hj2 => ?_, ?_⟩
        · have : j = i + 1 := by omega
          rw [this]; exact ⟨[], h⟩
        · rw [hxi] at hp; exact hp
      | cons y E0 =>
        have hh := hx.symm.trans h
        rw [List.cons_append] at hh
        have h1 : x = y := (List.cons.inj hh).1
        obtain ⟨E1, hE1⟩ := hE E0 (by rw [h1])
        exact old E1 hE1
    rcases ca_rule hA (i := i) (by omega) with ⟨_, _, _, z⟩ | ⟨_, _, _, z⟩ | ⟨_, _, _, z⟩ | ⟨_, t, _, z⟩ | ⟨_, t, _, z⟩ | ⟨_, _, _, z⟩ | ⟨_, t, _, z⟩ | ⟨_, _, _, e0, r, z1, _, z⟩ | ⟨_, t, _, e0, r, z1, t2, z⟩ | ⟨_, _, _, e0, r, z1, _, z⟩ | ⟨_, _, _, z⟩
    · exact old E (by rw [← z]; exact h)
    · exact old E (by rw [← z]; exact h)
    · exact old E (by rw [← z]; exact h)
    · refine new _ _ z rfl (fun E0 hE => ?_) ⟨fun _ => ⟨rfl, rfl⟩, fun y => absurd (t.symm.trans y) (by decide)⟩
      subst hE
      exact ⟨E0, (List.cons.inj (z.symm.trans h)).2⟩
    · refine new _ _ z rfl (fun E0 hE => ?_) ⟨fun _ => ⟨rfl, rfl⟩, fun y => absurd t (by omega)⟩
      subst hE
      exact ⟨E0, (List.cons.inj (z.symm.trans h)).2⟩
    · exact old E (by rw [← z]; exact h)
    · refine new _ _ z rfl (fun E0 hE => ?_) ⟨fun _ => ⟨rfl, rfl⟩, fun y => absurd (t.symm.trans y) (by decide)⟩
      subst hE
      exact ⟨E0, (List.cons.inj (z.symm.trans h)).2⟩
    · exact old (e0 :: E) (by rw [z1, ← z, h, List.cons_append])
    · obtain ⟨a1, a2, a3, a4, a5⟩ := ih (by omega) [] e0 r z1
      have a6 := a4 (by omega)
      refine new _ _ z rfl (fun E0 hE => ?_) ⟨fun y => absurd t y, fun _ => ⟨by show 20 ≤ T e0.2; rw [a6.1]; exact t2, ?_, by show e0.2 < i; omega⟩⟩
      · subst hE
        exact ⟨e0 :: E0, by rw [z1, (List.cons.inj (z.symm.trans h)).2]; rfl⟩
      · show ca_Z T i = (e0.2, e0.2) :: r
        rw [z1]
        exact congrArg (fun y => y :: r) (Prod.ext a6.1.symm rfl)
    · exact old (e0 :: E) (by rw [z1, ← z, h, List.cons_append])
    · exact old E (by rw [← z]; exact h)
/-- the token that takes an entry away, or moves it on -/
theorem ca_life (hA : ca_S T n = some (1, [])) {a H : Nat} {e : Nat × Nat} {B : List (Nat × Nat)} (hH : H ≤ n) (hZ : ca_Z T a = e :: B) (hn : ¬ ∃ E, ca_Z T H = E ++ e :: B) (haH : a ≤ H) :
    ∃ m, a ≤ m ∧ m < H ∧ ca_Z T m = e :: B ∧ (∀ i, a ≤ i → i ≤ m → ∃ E, ca_Z T i = E ++ e :: B) ∧ ca_W T m = 1 ∧
      ((T m = 9 ∧ T e.1 = 8 ∧ ca_Z T (m + 1) = B ∧ ca_W T (m + 1) = 0) ∨ (T m = 9 ∧ 20 ≤ T e.1 ∧ ca_Z T (m + 1) = (m, e.2) :: B ∧ ca_W T (m + 1) = 0) ∨ (T m = 7 ∧ (T e.1 = 9 ∨ T e.1 = 6 ∨ T e.1 = 5) ∧ ca_Z T (m + 1) = B ∧ ca_W T (m + 1) = 1)) := by
  have go : ∀ (d i : Nat), i + d = H → a ≤ i → (∀ j, a ≤ j → j ≤ i → ∃ E, ca_Z T j = E ++ e :: B) → ∃ m, a ≤ m ∧ m < H ∧ ca_Z T m = e :: B ∧ (∀ i, a ≤ i → i ≤ m → ∃ E, ca_Z T i = E ++ e :: B) ∧ ca_W T m = 1 ∧
      ((T m = 9 ∧ T e.1 = 8 ∧ ca_Z T (m + 1) = B ∧ ca_W T (m + 1) = 0) ∨ (T m = 9 ∧ 20 ≤ T e.1 ∧ ca_Z T (m + 1) = (m, e.2) :: B ∧ ca_W T (m + 1) = 0) ∨ (T m = 7 ∧ (T e.1 = 9 ∨ T e.1 = 6 ∨ T e.1 = 5) ∧ ca_Z T (m + 1) = B ∧ ca_W T (m + 1) = 1)) := by
    intro d
    induction d with
    | zero =>
      intro i hi hai hs
      exact absurd (hs i hai (Nat.le_refl _)) (by rw [show i = H by omega]; exact hn)
    | succ d ih =>
      intro i hi hai hs
      by_cases hx : ∃ E, ca_Z T (i + 1) = E ++ e :: B
      · refine ih (i + 1) (by omega) (by omega) (fun j hj hj2 => ?_)
        by_cases z : j = i + 1
        · rw [z]; exact hx
        · exact hs j hj (by omega)
      · obtain ⟨E, hE⟩ := hs i hai (Nat.le_refl _)
        have same : ca_Z T (i + 1) ≠ ca_Z T i := fun z => hx ⟨E, z.trans hE⟩
        have pushed : ∀ x, ca_Z T (i + 1) ≠ x :: ca_Z T i := fun x z => hx ⟨x :: E, by rw [z, hE, List.cons_append]⟩
        have pop : ∀ e0 r, ca_Z T i = e0 :: r → (¬ ∃ E1, r = E1 ++ e :: B) → e0 = e ∧ r = B := by
          intro e0 r z1 hr
          cases E with
          | nil =>
            have h2 := List.cons.inj (z1.symm.trans hE)
            exact h2
          | cons y E0 => exact absurd ⟨E0, (List.cons.inj (z1.symm.trans hE)).2⟩ hr
        rcases ca_rule hA (i := i) (by omega) with ⟨_, _, _, z⟩ | ⟨_, _, _, z⟩ | ⟨_, _, _, z⟩ | ⟨_, t, _, z⟩ | ⟨_, t, _, z⟩ | ⟨_, _, _, z⟩ | ⟨_, t, _, z⟩ | ⟨w1, t, w2, e0, r, z1, t1, z⟩ | ⟨w1, t, w2, e0, r, z1, t1, z⟩ | ⟨w1, t, w2, e0, r, z1, t1, z⟩ | ⟨_, _, _, z⟩
        · exact absurd z same
        · exact absurd z same
        · exact absurd z same
        · exact absurd z (pushed _)
        · exact absurd z (pushed _)
        · exact absurd z same
        · exact absurd z (pushed _)
        · obtain ⟨p1, p2⟩ := pop e0 r z1 (fun ⟨E1, y⟩ => hx ⟨E1, z.trans y⟩)
          subst p1 p2
          exact ⟨i, hai, by omega, z1, hs, w1, Or.inl ⟨t, t1, z, w2⟩⟩
        · obtain ⟨p1, p2⟩ := pop e0 r z1 (fun ⟨E1, y⟩ => hx ⟨(i, e0.2) :: E1, by rw [z, y, List.cons_append]⟩)
          subst p1 p2
          exact ⟨i, hai, by omega, z1, hs, w1, Or.inr (Or.inl ⟨t, t1, z, w2⟩)⟩
        · obtain ⟨p1, p2⟩ := pop e0 r z1 (fun ⟨E1, y⟩ => hx ⟨E1, z.trans y⟩)
          subst p1 p2
          exact ⟨i, hai, by omega, z1, hs, w1, Or.inr (Or.inr ⟨t, t1, z, w2⟩)⟩
        · exact absurd z same
  refine go (H - a) a (by omega) (Nat.le_refl _) (fun j hj hj2 => ?_)
  rw [show j = a by omega]
  exact ⟨[], hZ⟩
/-- how many entries are no ? -/
def ca_c (T : Nat → Nat) : List (Nat × Nat) → Nat
  | [] => 0
  | e :: r => (if T e.1 = 8 then 0 else 1) + ca_c T r
theorem ca_c_app (T : Nat → Nat) : ∀ (E R : List (Nat × Nat)), ca_c T (E ++ R) = ca_c T E + ca_c T R
  | [], R => by rw [List.nil_append]; show _ = 0 + _; omega
  | e :: r, R => by
    rw [List.cons_append]
    show _ + ca_c T (r ++ R) = _ + ca_c T r + _
    rw [ca_c_app T r R]; omega
/-- the depth of brackets before token i -/
def ca_h (T : Nat → Nat) (i : Nat) : Nat := ca_c T (ca_Z T i) - (if ca_W T i = 2 then 1 else 0)
theorem ca_w2 (hA : ca_S T n = some (1, [])) {i : Nat} (hi : i ≤ n) (hw : ca_W T i = 2) : ∃ j, i = j + 1 ∧ ca_Z T i = (j, j) :: ca_Z T j ∧ (T j = 5 ∨ 20 ≤ T j) := by
  cases i with
  | zero => rw [ca_W0] at hw; omega
  | succ j =>
    have h := ca_rule hA (i := j) (by omega)
    unfold ca_R at h
    rcases h with ⟨_, _, z, _⟩ | ⟨_, _, z, _⟩ | ⟨_, _, z, _⟩ | ⟨_, _, z, _⟩ | ⟨_, t, _, z⟩ | ⟨_, _, z, _⟩ | ⟨_, _, z, _⟩ | ⟨_, _, z, _⟩ | ⟨_, _, z, _⟩ | ⟨_, _, z, _⟩ | ⟨_, _, z, _⟩
    all_goals first | (rw [z] at hw; omega) | exact ⟨j, rfl, z, t⟩
theorem ca_hs (hA : ca_S T n = some (1, [])) {i : Nat} (hi : i < n) : ca_h T (i + 1) + (if T i = 7 then 1 else 0) = ca_h T i + (if T i = 6 then 1 else 0) := by
  have h2 : ca_W T i = 2 → 1 ≤ ca_c T (ca_Z T i) := by
    intro hw
    obtain ⟨j, _, z, t⟩ := ca_w2 hA (by omega) hw
    rw [z]
    show 1 ≤ (if T j = 8 then 0 else 1) + _
    rw [if_neg (by omega)]; omega
  unfold ca_h
  rcases ca_rule hA hi with ⟨w, t, w', z⟩ | ⟨w, t, w', z⟩ | ⟨w, t, w', z⟩ | ⟨w, t, w', z⟩ | ⟨w, t, w', z⟩ | ⟨w, t, w', z⟩ | ⟨w, t, w', z⟩ | ⟨w, t, w', e, r, z1, t1, z⟩ | ⟨w, t, w', e, r, z1, t1, z⟩ | ⟨w, t, w', e, r, z1, t1, z⟩ | ⟨w, t, w', z⟩
  · have := h2 w
    rw [w, w', z, t, if_pos rfl, if_neg (by decide), if_neg (by decide), if_pos rfl]; omega
  · rw [w, w', z, if_neg (by omega), if_neg (by omega), if_neg (by omega), if_neg (by omega)]
  · rw [w, w', z, if_neg (by omega), if_neg (by omega), if_neg (by omega)]
  · rw [w, w', z, t, if_neg (by decide), if_neg (by decide), if_pos rfl]
    show (if T i = 8 then 0 else 1) + _ - 0 + 0 = _
    rw [if_neg (by omega)]; omega
  · rw [w, w', z, if_pos rfl, if_neg (by omega), if_neg (by omega), if_neg (by omega)]
    show (if T i = 8 then 0 else 1) + _ - 1 + 0 = _
    rw [if_neg (by omega)]; omega
  · rw [w, w', z, if_neg (by omega), if_neg (by omega), if_neg (by omega)]
  · rw [w, w', z, if_neg (by omega), if_neg (by omega), if_neg (by omega), if_neg (by omega)]
    show (if T i = 8 then 0 else 1) + _ - 0 + 0 = _
    rw [if_pos t]; omega
  · rw [w, w', z, z1, if_neg (by omega), if_neg (by omega), if_neg (by omega), if_neg (by omega)]
    show _ = (if T e.1 = 8 then 0 else 1) + _ - 0 + 0
    rw [if_pos t1]; omega
  · rw [w, w', z, z1, if_neg (by omega), if_neg (by omega), if_neg (by omega), if_neg (by omega)]
    show (if T i = 8 then 0 else 1) + _ - 0 + 0 = (if T e.1 = 8 then 0 else 1) + _ - 0 + 0
    rw [if_neg (by omega), if_neg (by omega)]
  · rw [w, w', z, z1, if_neg (by omega), if_pos t, if_neg (by omega)]
    show _ = (if T e.1 = 8 then 0 else 1) + _ - 0 + 0
    rw [if_neg (by omega)]; omega
  · rw [w, w', z, if_neg (by omega), if_neg (by omega), if_neg (by omega), if_neg (by omega)]
end
