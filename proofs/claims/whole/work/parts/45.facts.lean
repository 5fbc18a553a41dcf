theorem cs_L_op {T : Nat → Nat} {tv : Nat → Int32} {n : Nat} (hT : ∀ i, i < n → T i < 23) : ∀ {f l u : Nat} {t v : Int32} {p : Nat} {ch : List (Nat × Nat)}, cs_L T tv n f l u t v p ch → ∃ t', t' < 24 ∧ t = nI t' ∧ t' ≠ 6 ∧ t' ≠ 7 ∧ t' ≠ 9 := by
  intro f
  induction f with
  | zero => intro l u t v p ch h; exact absurd h id
  | succ f ih =>
    intro l u t v p ch h
    obtain ⟨hV, h⟩ := h
    have v1 := hV.1
    have v2 := hV.2.1
    rcases h with ⟨_, _, _, _, h⟩ | ⟨h1, h2, h3, _, h5, h6⟩ | ⟨h2, _, _, h3, _, h5, h6, h7, _⟩ | ⟨h1, _, _, _, _, h3, h4, h5, h6, h7⟩ | ⟨m, h1, _, _, _, _, _, _, _, h3, _, h5, h6, h7, h8⟩ | ⟨h1, _, _, h5, h6, h7, _⟩ | ⟨c, h0, h00, _, h2, _, h3, _, h5, h6, h7, h8, _⟩ | ⟨c, m, _, _, _, _, _, _, _, _, _, _, h3, _, h5, h6, h7, h8, h9⟩
    · exact ih h
    · exact ⟨T l, by omega, h3, by omega, by omega, by omega⟩
    · exact ⟨T (u - 1), by omega, h3, by omega, by omega, by omega⟩
    · exact ⟨5, by omega, h3, by omega, by omega, by omega⟩
    · have := hT l (by omega)
      exact ⟨T l, by omega, h3, by omega, by omega, by omega⟩
    · rcases h1 with ⟨_, z⟩ | ⟨_, z⟩
      · exact ⟨12, by omega, z, by omega, by omega, by omega⟩
      · exact ⟨23, by omega, z, by omega, by omega, by omega⟩
    · have := h2.2.2
      exact ⟨T c, by omega, h3, by omega, by omega, by omega⟩
    · exact ⟨8, by omega, h3, by omega, by omega, by omega⟩
section
variable {yo yn ya yc : Nat → Int32} {yp : Nat → Nat → Nat} {N : Nat}
theorem cq_cl {k : Nat} (hop : ∀ j, j < N → ∃ t, t < 24 ∧ yo j = nI t ∧ t ≠ 6 ∧ t ≠ 7 ∧ t ≠ 9) (hk : k < N) : (yo k = 0 ∨ yo k = 3 ∨ yo k = 4 ∨ yo k = 19) ∨ (yo k = 1 ∨ yo k = 2 ∨ yo k = 5) ∨ (yo k = 12 ∨ yo k = 23) ∨ yo k = 8 ∨ (yo k = 10 ∨ yo k = 11) ∨ (yo k = 20 ∨ yo k = 21 ∨ yo k = 22) ∨ (yo k = 13 ∨ yo k = 14 ∨ yo k = 15 ∨ yo k = 16 ∨ yo k = 17 ∨ yo k = 18) := by
  obtain ⟨t, h1, h2, h3, h4, h5⟩ := hop k hk
  have c : t = 0 ∨ t = 1 ∨ t = 2 ∨ t = 3 ∨ t = 4 ∨ t = 5 ∨ t = 8 ∨ t = 10 ∨ t = 11 ∨ t = 12 ∨ t = 13 ∨ t = 14 ∨ t = 15 ∨ t = 16 ∨ t = 17 ∨ t = 18 ∨ t = 19 ∨ t = 20 ∨ t = 21 ∨ t = 22 ∨ t = 23 := by omega
  rcases c with rfl | rfl | rfl | rfl | rfl | rfl | rfl | rfl | rfl | rfl | rfl | rfl | rfl | rfl | rfl | rfl | rfl | rfl | rfl | rfl | rfl <;> rw [h2] <;> decide
theorem cq_in (hN : N ≤ 40) (hop : ∀ j, j < N → ∃ t, t < 24 ∧ yo j = nI t ∧ t ≠ 6 ∧ t ≠ 7 ∧ t ≠ 9) (hP : ∀ k i, k < N → i < gr_ar (yo k) → k < yp k i ∧ yp k i < N) : ∀ (d k : Nat), k < N → N - k ≤ d → ∀ (a : Nat) (x : cm_I), x ∈ cn_c yo yn ya yc yp k a → x.1 = 5 → ∃ j, j < N ∧ yo j = 5 ∧ yn j = x.2.1 := by
  intro d
  induction d with
  | zero => intro k hk hd; omega
  | succ d ih =>
    intro k hk hd a x hx h5
    have kid : ∀ i, i < gr_ar (yo k) → ∀ a2, x ∈ cn_c yo yn ya yc yp (yp k i) a2 → ∃ j, j < N ∧ yo j = 5 ∧ yn j = x.2.1 := by
      intro i hi a2 hm
      obtain ⟨p1, p2⟩ := hP k i hk hi
      exact ih (yp k i) p2 (by omega) a2 x hm h5
    have gd : ∀ i, i < gr_ar (yo k) → k < yp k i ∧ yp k i < 40 := fun i hi => ⟨(hP k i hk hi).1, by have := (hP k i hk hi).2; omega⟩
    rcases cq_cl hop hk with z | z | z | z | z | z | z
    · rw [cn_c_leaf z, List.mem_singleton] at hx
      rw [hx] at h5
      have h5' : yo k = 5 := h5
      rw [h5'] at z
      exact absurd z (by decide)
    · have har : gr_ar (yo k) = 1 := cm_ar1 (by rcases z with y | y | y <;> rw [y] <;> decide)
      rw [cn_c_un (gd 0 (by omega)) z, List.mem_append, List.mem_singleton] at hx
      rcases hx with hx | hx
      · exact kid 0 (by omega) _ hx
      · rw [hx] at h5 ⊢
        exact ⟨k, hk, h5, rfl⟩
    · have har : gr_ar (yo k) = 1 := cm_ar1 (by rcases z with y | y <;> rw [y] <;> decide)
      rw [cn_c_si (gd 0 (by omega)) z, List.mem_append, List.mem_singleton] at hx
      rcases hx with hx | hx
      · exact kid 0 (by omega) _ hx
      · rw [hx] at h5
        have h5' : yo k = 5 := h5
        rw [h5'] at z
        exact absurd z (by decide)
    · have har : gr_ar (yo k) = 3 := by rw [z]; decide
      rw [cn_c_if (gd 0 (by omega)) (gd 1 (by omega)) (gd 2 (by omega)) z] at hx
      unfold cn_seq at hx
      rw [List.mem_append, List.mem_cons, List.mem_append, List.mem_cons] at hx
      rcases hx with hx | hx | hx | hx | hx
      · exact kid 0 (by omega) _ hx
      · rw [hx] at h5; exact absurd h5 (by show ¬ (8 : Int32) = 5; decide)
      · exact kid 1 (by omega) _ hx
      · rw [hx] at h5; exact absurd h5 (by show ¬ (9 : Int32) = 5; decide)
      · exact kid 2 (by omega) _ hx
    · have har : gr_ar (yo k) = 2 := cm_ar2 (by rcases z with y | y <;> rw [y] <;> decide)
      rw [cn_c_lo (gd 0 (by omega)) (gd 1 (by omega)) z] at hx
      unfold cn_seq at hx
      rw [List.mem_append, List.mem_cons] at hx
      rcases hx with hx | hx | hx
      · exact kid 0 (by omega) _ hx
      · rw [hx] at h5
        have h5' : yo k = 5 := h5
        rw [h5'] at z
        exact absurd z (by decide)
      · exact kid 1 (by omega) _ hx
    · have har : gr_ar (yo k) = 2 := cm_ar2 (by rcases z with y | y | y <;> rw [y] <;> decide)
      rw [cn_c_qn (gd 0 (by omega)) (gd 1 (by omega)) z] at hx
      unfold cn_seq at hx
      rw [List.mem_append, List.mem_cons, List.mem_append, List.mem_singleton] at hx
      rcases hx with hx | hx | hx | hx
      · exact kid 0 (by omega) _ hx
      · rw [hx] at h5
        have h5' : yo k = 5 := h5
        rw [h5'] at z
        exact absurd z (by decide)
      · exact kid 1 (by omega) _ hx
      · rw [hx] at h5; exact absurd h5 (by show ¬ (24 : Int32) = 5; decide)
    · have har : gr_ar (yo k) = 2 := cm_ar2 (by rcases z with y | y | y | y | y | y <;> rw [y] <;> decide)
      rw [cn_c_bi (gd 0 (by omega)) (gd 1 (by omega)) z] at hx
      unfold cn_seq at hx
      rw [List.mem_append, List.mem_append, List.mem_singleton] at hx
      rcases hx with hx | hx | hx
      · exact kid 0 (by omega) _ hx
      · exact kid 1 (by omega) _ hx
      · rw [hx] at h5
        have h5' : yo k = 5 := h5
        rw [h5'] at z
        exact absurd z (by decide)
theorem cq_kid (hN : N ≤ 40) (hop : ∀ j, j < N → ∃ t, t < 24 ∧ yo j = nI t ∧ t ≠ 6 ∧ t ≠ 7 ∧ t ≠ 9) (hP : ∀ k i, k < N → i < gr_ar (yo k) → k < yp k i ∧ yp k i < N) {k i : Nat} (hk : k < N) (hi : i < gr_ar (yo k)) (a : Nat) : ∃ a2, ∀ x, x ∈ cn_c yo yn ya yc yp (yp k i) a2 → x ∈ cn_c yo yn ya yc yp k a := by
  have gd : ∀ i, i < gr_ar (yo k) → k < yp k i ∧ yp k i < 40 := fun i hi => ⟨(hP k i hk hi).1, by have := (hP k i hk hi).2; omega⟩
  rcases cq_cl hop hk with z | z | z | z | z | z | z
  · have har : gr_ar (yo k) = 0 := if_pos z
    omega
  · have har : gr_ar (yo k) = 1 := cm_ar1 (by rcases z with y | y | y <;> rw [y] <;> decide)
    have : i = 0 := by omega
    subst this
    exact ⟨a, fun x hx => by rw [cn_c_un (gd 0 hi) z]; exact List.mem_append.mpr (Or.inl hx)⟩
  · have har : gr_ar (yo k) = 1 := cm_ar1 (by rcases z with y | y <;> rw [y] <;> decide)
    have : i = 0 := by omega
    subst this
    exact ⟨a, fun x hx => by rw [cn_c_si (gd 0 hi) z]; exact List.mem_append.mpr (Or.inl hx)⟩
  · have har : gr_ar (yo k) = 3 := by rw [z]; decide
    have c : i = 0 ∨ i = 1 ∨ i = 2 := by omega
    rw [cn_c_if (gd 0 (by omega)) (gd 1 (by omega)) (gd 2 (by omega)) z]
    unfold cn_seq
    rcases c with rfl | rfl | rfl
    · exact ⟨_, fun x hx => List.mem_append.mpr (Or.inl hx)⟩
    · exact ⟨_, fun x hx => List.mem_append.mpr (Or.inr (List.mem_cons_of_mem _ (List.mem_append.mpr (Or.inl hx))))⟩
    · exact ⟨_, fun x hx => List.mem_append.mpr (Or.inr (List.mem_cons_of_mem _ (List.mem_append.mpr (Or.inr (List.mem_cons_of_mem _ hx)))))⟩
  · have har : gr_ar (yo k) = 2 := cm_ar2 (by rcases z with y | y <;> rw [y] <;> decide)
    have c : i = 0 ∨ i = 1 := by omega
    rw [cn_c_lo (gd 0 (by omega)) (gd 1 (by omega)) z]
    unfold cn_seq
    rcases c with rfl | rfl
    · exact ⟨_, fun x hx => List.mem_append.mpr (Or.inl hx)⟩
    · exact ⟨_, fun x hx => List.mem_append.mpr (Or.inr (List.mem_cons_of_mem _ hx))⟩
  · have har : gr_ar (yo k) = 2 := cm_ar2 (by rcases z with y | y | y <;> rw [y] <;> decide)
    have c : i = 0 ∨ i = 1 := by omega
    rw [cn_c_qn (gd 0 (by omega)) (gd 1 (by omega)) z]
    unfold cn_seq
    rcases c with rfl | rfl
    · exact ⟨_, fun x hx => List.mem_append.mpr (Or.inl hx)⟩
    · exact ⟨_, fun x hx => List.mem_append.mpr (Or.inr (List.mem_cons_of_mem _ (List.mem_append.mpr (Or.inl hx))))⟩
  · have har : gr_ar (yo k) = 2 := cm_ar2 (by rcases z with y | y | y | y | y | y <;> rw [y] <;> decide)
    have c : i = 0 ∨ i = 1 := by omega
    rw [cn_c_bi (gd 0 (by omega)) (gd 1 (by omega)) z]
    unfold cn_seq
    rcases c with rfl | rfl
    · exact ⟨_, fun x hx => List.mem_append.mpr (Or.inl hx)⟩
    · exact ⟨_, fun x hx => List.mem_append.mpr (Or.inr (List.mem_append.mpr (Or.inl hx)))⟩
theorem cq_all (hN : N ≤ 40) (hop : ∀ j, j < N → ∃ t, t < 24 ∧ yo j = nI t ∧ t ≠ 6 ∧ t ≠ 7 ∧ t ≠ 9) (hP : ∀ k i, k < N → i < gr_ar (yo k) → k < yp k i ∧ yp k i < N) (hroot : ∀ j, 0 < j → j < N → ∃ q i, q < j ∧ i < gr_ar (yo q) ∧ i < 3 ∧ j = yp q i) : ∀ j, j < N → ∃ a, ∀ x, x ∈ cn_c yo yn ya yc yp j a → x ∈ cn_c yo yn ya yc yp 0 0 := by
  intro j
  induction j using Nat.strongRecOn with
  | _ j ih =>
    intro hj
    by_cases z : j = 0
    · subst z; exact ⟨0, fun x hx => hx⟩
    · obtain ⟨q, i, q1, q2, q3, q4⟩ := hroot j (by omega) hj
      obtain ⟨a, ha⟩ := ih q q1 (by omega)
      obtain ⟨a2, ha2⟩ := cq_kid (yn := yn) (ya := ya) (yc := yc) hN hop hP (by omega : q < N) q2 a
      rw [← q4] at ha2
      exact ⟨a2, fun x hx => ha x (ha2 x hx)⟩
theorem cq_calls (hN : N ≤ 40) (hop : ∀ j, j < N → ∃ t, t < 24 ∧ yo j = nI t ∧ t ≠ 6 ∧ t ≠ 7 ∧ t ≠ 9) (hP : ∀ k i, k < N → i < gr_ar (yo k) → k < yp k i ∧ yp k i < N) (hroot : ∀ j, 0 < j → j < N → ∃ q i, q < j ∧ i < gr_ar (yo q) ∧ i < 3 ∧ j = yp q i) (h0 : 0 < N) (v : Nat) : (∃ c, c < (cn_c yo yn ya yc yp 0 0).length ∧ (ci_x (cn_c yo yn ya yc yp 0 0) c).1 = 5 ∧ (ci_x (cn_c yo yn ya yc yp 0 0) c).2.1 = nI v) ↔ ∃ j, j < N ∧ yo j = 5 ∧ yn j = nI v := by
  constructor
  · rintro ⟨c, c1, c2, c3⟩
    have hx : ci_x (cn_c yo yn ya yc yp 0 0) c ∈ cn_c yo yn ya yc yp 0 0 := by
      unfold ci_x
      rw [List.getElem?_eq_getElem c1]
      exact List.getElem_mem c1
    obtain ⟨j, j1, j2, j3⟩ := cq_in hN hop hP N 0 h0 (by omega) 0 _ hx c2
    exact ⟨j, j1, j2, j3.trans c3⟩
  · rintro ⟨j, j1, j2, j3⟩
    obtain ⟨a, ha⟩ := cq_all (yn := yn) (ya := ya) (yc := yc) hN hop hP hroot j j1
    have har : gr_ar (yo j) = 1 := by rw [j2]; decide
    have g0 := hP j 0 j1 (by omega)
    have hm : (yo j, yn j, 0, ya j) ∈ cn_c yo yn ya yc yp 0 0 := ha _ (by rw [cn_c_un ⟨g0.1, by omega⟩ (Or.inr (Or.inr j2))]; exact List.mem_append.mpr (Or.inr (List.mem_singleton.mpr rfl)))
    obtain ⟨c, c1, c2⟩ := List.getElem_of_mem hm
    refine ⟨c, c1, ?_, ?_⟩
    · rw [ci_get (List.getElem?_eq_getElem c1), c2]; exact j2
    · rw [ci_get (List.getElem?_eq_getElem c1), c2]; exact j3
end
theorem cz_ms_or {g : Nat → Nat} {n : Nat} : ∀ N, (∀ j, j < N → g j = 100 ∨ g j < n) → cz_ms g N = 100 ∨ cz_ms g N < n
  | 0, _ => Or.inl rfl
  | N + 1, h => by
    have a := cz_ms_or N (fun j hj => h j (by omega))
    have b := h N (by omega)
    show min (cz_ms g N) (g N) = 100 ∨ min (cz_ms g N) (g N) < n
    omega
/-- what the table of nodes says of each node -/
theorem cl_facts {T : Nat → Nat} {tv : Nat → Int32} {n N : Nat} (hn : n ≤ 40) (hT : ∀ i, i < n → T i < 23) (hT6 : ∀ i, i < n → T i = 1 ∨ T i = 2 ∨ T i = 5 → ∃ x, x < 6 ∧ tv i = nI x) {lN hN bN cN : Nat → Nat} {op nm ay prt ylo yhi : Nat → Int32} (hI : cl_I T tv n N N lN hN bN cN op nm ay prt ylo yhi) :
    N ≤ n ∧ 0 < N ∧ (∀ j i, j < N → i < gr_ar (op (240 + j)) → prt ((240 + j) * 3 + i) = nI (240 + (bN j + i)) ∧ j < bN j + i ∧ bN j + i < N) ∧ (∀ j, j < N → op (240 + j) = 5 → ∃ x, x < 6 ∧ nm (240 + j) = nI x) ∧ (∀ j, j < N → ∃ t, t < 24 ∧ op (240 + j) = nI t ∧ t ≠ 6 ∧ t ≠ 7 ∧ t ≠ 9) ∧ (∀ j, j < N → ∃ p, p < n ∧ ay (240 + j) = nI p) ∧ (∀ j, 0 < j → j < N → ∃ q i, q < j ∧ i < gr_ar (op (240 + q)) ∧ i < 3 ∧ j = bN q + i) := by
  obtain ⟨i1, i2, i3, i3a, i3b, i4, i5, i6⟩ := hI
  refine ⟨by omega, i1, fun j i hj hi => ?_, fun j hj h5 => ?_, fun j hj => ?_, fun j hj => ?_, fun j h0 hj => ?_⟩
  · obtain ⟨p, ch, f, q1, q2, q3, q4, q5, q6⟩ := i5 j hj
    have e := (cs_L_ar hT q1).1
    have il : i < ch.length := by omega
    obtain ⟨r1, _, _⟩ := q6 i _ (List.getElem?_eq_getElem il)
    exact ⟨r1, by omega, by omega⟩
  · obtain ⟨p, ch, f, q1, q2, q3, q4, q5, q6⟩ := i5 j hj
    obtain ⟨i, a, b, c⟩ := (cs_L_ar hT q1).2 h5
    obtain ⟨x, hx, ex⟩ := hT6 i a (by omega)
    exact ⟨x, hx, c.trans ex⟩
  · obtain ⟨p, ch, f, q1, q2, q3, q4, q5, q6⟩ := i5 j hj
    exact cs_L_op hT q1
  · obtain ⟨p, ch, f, q1, q2, q3, q4, q5, q6⟩ := i5 j hj
    exact ⟨p, (cs_L_ch q1).2.2.2, q2⟩
  · obtain ⟨q, i, a1, a2, a3⟩ := i6 j h0 hj
    obtain ⟨p, ch, f, q1, q2, q3, q4, q5, q6⟩ := i5 q a1
    have e := (cs_L_ar hT q1).1
    have l3 := (cs_L_ch q1).2.1
    exact ⟨q, i, by omega, by omega, by omega, a3⟩
