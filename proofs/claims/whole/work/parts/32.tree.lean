/-- node k stands for the tokens l .. u-1; w: how strongly its operator binds; B: the bound variables -/
def cg_G (T : Nat → Nat) (tv yo yn ya yc : Nat → Int32) (yp : Nat → Nat → Nat) (nn : Nat) : Nat → (Nat → Prop) → Nat → Nat → Nat → Nat → Prop
  | 0 => fun _ _ _ _ _ => False
  | f + 1 => fun B k w l u => k < nn ∧ l < u ∧ (
      (u = l + 1 ∧ (T l = 0 ∨ T l = 3 ∨ T l = 19 ∨ (T l = 4 ∧ ∃ v, v < 3 ∧ tv l = nI v ∧ B v)) ∧ yo k = nI (T l) ∧ yn k = tv l ∧ ya k = nI l ∧ w = 8) ∨
      (∃ c, u = c + 1 ∧ (T c = 1 ∨ T c = 2) ∧ (∃ x, x < 6 ∧ tv c = nI x) ∧ yo k = nI (T c) ∧ yn k = tv c ∧ ya k = nI c ∧ cg_G T tv yo yn ya yc yp nn f B (yp k 0) 8 l c ∧ w = 8) ∨
      (∃ c w', u = c + 1 ∧ T l = 6 ∧ T c = 7 ∧ ca_o T c = l ∧ (l = 0 ∨ ¬ (T (l - 1) = 5 ∨ 20 ≤ T (l - 1))) ∧ cg_G T tv yo yn ya yc yp nn f B k w' (l + 1) c ∧ 1 ≤ w' ∧ w = 8) ∨
      (∃ c w' x, u = c + 1 ∧ T l = 5 ∧ T (l + 1) = 6 ∧ T c = 7 ∧ ca_o T c = l ∧ x < 6 ∧ tv l = nI x ∧ yo k = 5 ∧ yn k = tv l ∧ ya k = nI l ∧ cg_G T tv yo yn ya yc yp nn f B (yp k 0) w' (l + 2) c ∧ 1 ≤ w' ∧ w = 8) ∨
      (∃ c m w1 w2 v, u = c + 1 ∧ 20 ≤ T l ∧ T l < 23 ∧ T (l + 1) = 6 ∧ T m = 9 ∧ ca_o T m = l ∧ T c = 7 ∧ ca_o T c = l ∧ v < 3 ∧ tv l = nI v ∧ ¬ B v ∧ yo k = nI (T l) ∧ yn k = tv l ∧ ya k = nI l ∧ cg_G T tv yo yn ya yc yp nn f B (yp k 0) w1 (l + 2) m ∧ 1 ≤ w1 ∧ cg_G T tv yo yn ya yc yp nn f (fun x => x = v ∨ B x) (yp k 1) w2 (m + 1) c ∧ 1 ≤ w2 ∧ w = 8) ∨
      (∃ w', (T l = 12 ∧ yo k = 12 ∨ T l = 16 ∧ yo k = 23 ∧ (l = 0 ∨ ¬ (T (l - 1) ≤ 4 ∨ T (l - 1) = 7 ∨ T (l - 1) = 19))) ∧ ya k = nI l ∧ cg_G T tv yo yn ya yc yp nn f B (yp k 0) w' (l + 1) u ∧ 7 ≤ w' ∧ w = 7) ∨
      (∃ c w1 w2, 10 ≤ T c ∧ T c ≤ 18 ∧ T c ≠ 12 ∧ 0 < c ∧ (T (c - 1) ≤ 4 ∨ T (c - 1) = 7 ∨ T (c - 1) = 19) ∧ yo k = nI (T c) ∧ ya k = nI c ∧ cg_G T tv yo yn ya yc yp nn f B (yp k 0) w1 l c ∧ cg_G T tv yo yn ya yc yp nn f B (yp k 1) w2 (c + 1) u ∧ w = ca_wt (T c) + 1 ∧ w ≤ w1 ∧ w < w2) ∨
      (∃ c m w1 w2 w3, T c = 8 ∧ T m = 9 ∧ ca_o T m = c ∧ yo k = 8 ∧ ya k = nI c ∧ yc k = nI m ∧ cg_G T tv yo yn ya yc yp nn f B (yp k 0) w1 l c ∧ 2 ≤ w1 ∧ cg_G T tv yo yn ya yc yp nn f B (yp k 1) w2 (c + 1) m ∧ 1 ≤ w2 ∧ cg_G T tv yo yn ya yc yp nn f B (yp k 2) w3 (m + 1) u ∧ 1 ≤ w3 ∧ w = 1))
/-- all operators of the span's own level bind at least as strongly as q -/
def cg_LB (T : Nat → Nat) (l u q : Nat) : Prop := q ≤ 8 ∧ (2 ≤ q → ∀ j, l < j → j < u → T j = 8 → ca_h T j ≠ ca_h T l) ∧ (∀ j, l < j → j < u → ca_op T l j → q ≤ ca_wt (T j) + 1) ∧ (q = 8 → T l ≠ 12 ∧ T l ≠ 16)
def cg_B (T : Nat → Nat) (tv : Nat → Int32) (l : Nat) : Nat → Prop := fun v => v < 3 ∧ ca_B T tv (ca_Z T l) (nI v)
section
variable {T : Nat → Nat} {tv : Nat → Int32} {n : Nat}
theorem ca_wt_op {t : Nat} (h : 10 ≤ t ∧ t ≤ 18 ∧ t ≠ 12) : 1 ≤ ca_wt t ∧ ca_wt t ≤ 5 := by
  have e : t = 10 ∨ t = 11 ∨ t = 13 ∨ t = 14 ∨ t = 15 ∨ t = 16 ∨ t = 17 ∨ t = 18 := by omega
  rcases e with rfl | rfl | rfl | rfl | rfl | rfl | rfl | rfl <;> decide
theorem cg_LB1 {l u : Nat} : cg_LB T l u 1 := ⟨by omega, fun z => absurd z (by omega), fun j _ _ _ => by omega, fun z => absurd z (by omega)⟩
theorem cg_Be {a b : Nat} (h : ca_Z T b = ca_Z T a) : cg_B T tv b = cg_B T tv a := by unfold cg_B; rw [h]
theorem cg_Bs {a b : Nat} {e : Nat × Nat} (h : ca_Z T b = e :: ca_Z T a) (ht : T e.1 ≠ 9) : cg_B T tv b = cg_B T tv a := by
  unfold cg_B
  funext v
  rw [h, ca_B_cons]
  exact propext ⟨fun ⟨x, y⟩ => ⟨x, y.resolve_left (fun z => ht z.1)⟩, fun ⟨x, y⟩ => ⟨x, Or.inr y⟩⟩
theorem cg_Bq {a b m v : Nat} (h : ca_Z T b = (m, a) :: ca_Z T a) (ht : T m = 9) (hv : v < 3) (ev : tv a = nI v) : cg_B T tv b = (fun x => x = v ∨ cg_B T tv a x) := by
  unfold cg_B
  funext x
  rw [h, ca_B_cons]
  refine propext ⟨fun ⟨h1, h2⟩ => ?_, fun h => ?_⟩
  · rcases h2 with ⟨_, h3⟩ | h3
    · exact Or.inl ((nI_eq (by omega) (by omega)).1 (h3.symm.trans ev))
    · exact Or.inr ⟨h1, h3⟩
  · rcases h with h | ⟨h1, h2⟩
    · subst h; exact ⟨hv, Or.inl ⟨ht, ev⟩⟩
    · exact ⟨h1, Or.inr h2⟩
theorem cg_opn (hA : ca_S T n = some (1, [])) {i : Nat} (hi : i ≤ n) {e : Nat × Nat} {r : List (Nat × Nat)} (z : ca_Z T i = e :: r) : ca_o T i = e.2 := by
  unfold ca_o
  rw [ca_some hA hi, z]
theorem cg_w0 (hA : ca_S T n = some (1, [])) {l : Nat} (hl : l < n) (hw : ca_W T l = 0) : (l = 0 ∨ ¬ (T (l - 1) = 5 ∨ 20 ≤ T (l - 1))) ∧ (l = 0 ∨ ¬ (T (l - 1) ≤ 4 ∨ T (l - 1) = 7 ∨ T (l - 1) = 19)) := by
  by_cases z : l = 0
  · exact ⟨Or.inl z, Or.inl z⟩
  · obtain ⟨j, rfl⟩ : ∃ j, l = j + 1 := ⟨l - 1, by omega⟩
    have r := ca_rule hA (i := j) (by omega)
    unfold ca_R at r
    rw [Nat.add_sub_cancel]
    refine ⟨Or.inr ?_, Or.inr ?_⟩
    · omega
    · omega
theorem cg_all (hA : ca_S T n = some (1, [])) (hn : n ≤ 40) (hT23 : ∀ i, i < n → T i < 23) (hTv : ∀ i, i < n → T i = 4 ∨ 20 ≤ T i → ∃ v, v < 3 ∧ tv i = nI v) (hT6 : ∀ i, i < n → T i = 1 ∨ T i = 2 ∨ T i = 5 → ∃ x, x < 6 ∧ tv i = nI x) (hD : ca_D T tv n) {N : Nat} {lN hN bN cN : Nat → Nat} {op nm ay prt ylo yhi : Nat → Int32} (hI : cl_I T tv n N N lN hN bN cN op nm ay prt ylo yhi) :
    ∀ (d j l u f p : Nat) (ch : List (Nat × Nat)), j < N → u - l ≤ d → cs_L T tv n f l u (op (240 + j)) (nm (240 + j)) p ch → ay (240 + j) = nI p → (∀ (i : Nat) (c : Nat × Nat), ch[i]? = some c → bN j + i < N ∧ lN (bN j + i) = c.1 ∧ hN (bN j + i) = c.2) → ∀ q, cg_LB T l u q → ∃ w, q ≤ w ∧ cg_G T tv (fun j => op (240 + j)) (fun j => nm (240 + j)) (fun j => ay (240 + j)) (fun j => nI (hN (bN j + 1))) (fun j i => bN j + i) N d (cg_B T tv l) j w l u := by
  intro d
  induction d with
  | zero =>
    intro j l u f p ch hj hd hL
    cases f with
    | zero => exact absurd hL id
    | succ f => have := hL.1.1; omega
  | succ d ih =>
    intro j l u f p ch hj hd hL hay hch q hq
    cases f with
    | zero => exact absurd hL id
    | succ f =>
      obtain ⟨hV, hL⟩ := hL
      have v1 := hV.1
      have v2 := hV.2.1
      have v3 := hV.2.2.1
      obtain ⟨w01, w02⟩ := cg_w0 hA (by omega : l < n) v3
      -- the child i of node j, with its span
      have child : ∀ (i : Nat) (c : Nat × Nat), ch[i]? = some c → c.2 - c.1 ≤ d → ∀ q', cg_LB T c.1 c.2 q' → ∃ w, q' ≤ w ∧ cg_G T tv (fun j => op (240 + j)) (fun j => nm (240 + j)) (fun j => ay (240 + j)) (fun j => nI (hN (bN j + 1))) (fun j i => bN j + i) N d (cg_B T tv c.1) (bN j + i) w c.1 c.2 := by
        intro i c hc hcd q' hq'
        obtain ⟨e1, e2, e3⟩ := hch i c hc
        obtain ⟨p', ch', f', b1, b2, b3, b4, b5, b6⟩ := hI.2.2.2.2.2.2.1 (bN j + i) e1
        rw [e2, e3] at b1
        refine ih (bN j + i) c.1 c.2 f' p' ch' e1 hcd b1 b2 (fun i' c' hc' => ?_) q' hq'
        have il : i' < ch'.length := by
          by_cases h : i' < ch'.length
          · exact h
          · rw [List.getElem?_eq_none (by omega)] at hc'; cases hc'
        exact ⟨by omega, (b6 i' c' hc').2⟩
      rcases hL with ⟨h1, h2, h3, h4, h5⟩ | ⟨h1, h2, h3, h4, h5, h6⟩ | ⟨h1, h2, h3, h4, h5, h6, h7, h8, h9, h10⟩ | ⟨h1, h2, h3, h4, h5, h6, h7, h8, h9, h10⟩ | ⟨m, h1, h2, h3, h4, h5, h6, h7, h8, h9, h10, h11, h12, h13, h14⟩ | ⟨h1, h2, h3, h4, h5, h6, h7⟩ | ⟨c, h1, h2, h3, h4, h5, h6, h7, h8, h9, h10, h11, h12⟩ | ⟨c, m, h1, h2, h3, h4, h5, h6, h7, h8, h9, h10, h11, h12, h13, h14, h15, h16, h17⟩
      · -- brackets
        have u2 : u - 1 ≤ n := by omega
        obtain ⟨w', hw1, hw2⟩ := ih j (l + 1) (u - 1) f p ch hj (by omega) h5 hay hch 1 cg_LB1
        rw [cg_Bs h4 (by show T l ≠ 9; omega)] at hw2
        exact ⟨8, hq.1, hj, v1, Or.inr (Or.inr (Or.inl ⟨u - 1, w', by omega, h1, h2, cg_opn hA u2 h3, w01, hw2, hw1, rfl⟩))⟩
      · -- a leaf
        refine ⟨8, hq.1, hj, v1, Or.inl ⟨h1, ?_, h3, h4, by rw [← h5]; exact hay, rfl⟩⟩
        rcases h2 with z | z | z | z
        · exact Or.inl z
        · exact Or.inr (Or.inl z)
        · obtain ⟨v, hv, ev⟩ := hTv l (by omega) (Or.inl z)
          refine Or.inr (Or.inr (Or.inr ⟨z, v, hv, ev, hv, ?_⟩))
          rw [← ev]; exact (hD l (by omega)).1 z
        · exact Or.inr (Or.inr (Or.inl z))
      · -- a property
        subst h7
        obtain ⟨w', hw1, hw2⟩ := child 0 _ rfl (by show u - 1 - l ≤ d; omega) 8 ⟨by omega, fun _ j a b t z => (h3 j a (by have : j < u - 1 := b; omega) z).1 t, fun j a b z => absurd z.2.2 ((h3 j a (by have : j < u - 1 := b; omega) z.1).2 z.2.1), fun _ => ⟨h9, h10⟩⟩
        have w8 : w' = 8 := by
          cases d with
          | zero => exact absurd hw2 id
          | succ d =>
            obtain ⟨_, _, hw3⟩ := hw2
            rcases hw3 with ⟨_, _, _, _, _, z⟩ | ⟨_, _, _, _, _, _, _, _, z⟩ | ⟨_, _, _, _, _, _, _, _, _, z⟩ | ⟨_, _, _, _, _, _, _, _, _, _, _, _, _, _, _, z⟩ | ⟨_, _, _, _, _, _, _, _, _, _, _, _, _, _, _, _, _, _, _, _, _, _, _, z⟩ | ⟨_, _, _, _, _, z⟩ | ⟨c, _, _, y1, y2, y3, _, _, _, _, _, _, z, _, _⟩ | ⟨_, _, _, _, _, _, _, _, _, _, _, _, _, _, _, _, _, z⟩
            all_goals first | exact z | omega | skip
            have := ca_wt_op ⟨y1, y2, y3⟩
            omega
        rw [w8] at hw2
        refine ⟨8, hq.1, hj, v1, Or.inr (Or.inl ⟨u - 1, by omega, h1, hT6 (u - 1) (by omega) (by omega), h4, h5, by rw [← h6]; exact hay, hw2, rfl⟩)⟩
      · -- a call
        subst h9
        obtain ⟨x, hx, ex⟩ := hT6 l (by omega) (by omega)
        obtain ⟨w', hw1, hw2⟩ := child 0 _ rfl (by show u - 1 - (l + 2) ≤ d; omega) 1 cg_LB1
        have e : cg_B T tv (l + 2) = cg_B T tv l := cg_Bs h5 (by show T l ≠ 9; omega)
        have hw3 : cg_G T tv (fun j => op (240 + j)) (fun j => nm (240 + j)) (fun j => ay (240 + j)) (fun j => nI (hN (bN j + 1))) (fun j i => bN j + i) N d (cg_B T tv (l + 2)) (bN j + 0) w' (l + 2) (u - 1) := hw2
        rw [e] at hw3
        exact ⟨8, hq.1, hj, v1, Or.inr (Or.inr (Or.inr (Or.inl ⟨u - 1, w', x, by omega, h1, h2, h3, cg_opn hA (by omega) h4, hx, ex, h6, h7, by rw [← h8]; exact hay, hw3, hw1, rfl⟩)))⟩
      · -- a quantifier
        subst h12
        obtain ⟨v, hv, ev⟩ := hTv l (by omega) (Or.inr h1)
        have k1 := h13.1
        have k2 := h14.1
        have k3 := h14.2.1
        obtain ⟨w1, hw1, hw1'⟩ := child 0 _ rfl (by show m - (l + 2) ≤ d; omega) 1 cg_LB1
        obtain ⟨w2, hw2, hw2'⟩ := child 1 _ rfl (by show u - 1 - (m + 1) ≤ d; omega) 1 cg_LB1
        have e1 : cg_B T tv (l + 2) = cg_B T tv l := cg_Bs h6 (by show T l ≠ 9; omega)
        have e2 : cg_B T tv (m + 1) = (fun x => x = v ∨ cg_B T tv l x) := cg_Bq h7 h3 hv ev
        have g1 : cg_G T tv (fun j => op (240 + j)) (fun j => nm (240 + j)) (fun j => ay (240 + j)) (fun j => nI (hN (bN j + 1))) (fun j i => bN j + i) N d (cg_B T tv (l + 2)) (bN j + 0) w1 (l + 2) m := hw1'
        have g2 : cg_G T tv (fun j => op (240 + j)) (fun j => nm (240 + j)) (fun j => ay (240 + j)) (fun j => nI (hN (bN j + 1))) (fun j i => bN j + i) N d (cg_B T tv (m + 1)) (bN j + 1) w2 (m + 1) (u - 1) := hw2'
        rw [e1] at g1
        rw [e2] at g2
        refine ⟨8, hq.1, hj, v1, Or.inr (Or.inr (Or.inr (Or.inr (Or.inl ⟨u - 1, m, w1, w2, v, by omega, h1, hT23 l (by omega), h2, h3, cg_opn hA (by omega) h5, h4, cg_opn hA (by omega) h8, hv, ev, fun z => ?_, h9, h10, by rw [← h11]; exact hay, g1, hw1, g2, hw2, rfl⟩))))⟩
        have := (hD l (by omega)).2 h1
        rw [ev] at this
        exact this z.2
      · -- one side alone
        subst h5
        have hh : ca_h T (l + 1) = ca_h T l := by
          have := ca_hs hA (i := l) (by omega)
          rw [if_neg (by omega), if_neg (by omega)] at this; omega
        have hLB : cg_LB T (l + 1) u 7 := by
          refine ⟨by omega, fun _ j a b t z => ?_, fun j a b z => ?_, fun z => absurd z (by omega)⟩
          · exact (h2 j (by omega) b (by omega)).1 t
          · have z1 := z.1
            exact absurd z.2.2 ((h2 j (by omega) b (by omega)).2 z.2.1)
        obtain ⟨w', hw1, hw2⟩ := child 0 _ rfl (by show u - (l + 1) ≤ d; omega) 7 hLB
        have e : cg_B T tv (l + 1) = cg_B T tv l := cg_Be h7
        have g1 : cg_G T tv (fun j => op (240 + j)) (fun j => nm (240 + j)) (fun j => ay (240 + j)) (fun j => nI (hN (bN j + 1))) (fun j i => bN j + i) N d (cg_B T tv (l + 1)) (bN j + 0) w' (l + 1) u := hw2
        rw [e] at g1
        have q7 : q ≤ 7 := by
          have a1 := hq.1
          have a2 := hq.2.2.2
          by_cases z : q = 8
          · have := a2 z; omega
          · omega
        refine ⟨7, q7, hj, v1, Or.inr (Or.inr (Or.inr (Or.inr (Or.inr (Or.inl ⟨w', ?_, by rw [← h4]; exact hay, g1, hw1, rfl⟩)))))⟩
        rcases h1 with ⟨a, b⟩ | ⟨a, b⟩
        · exact Or.inl ⟨a, b⟩
        · exact Or.inr ⟨a, b, w02⟩
      · -- an operator between two sides
        subst h9
        have k1 := h10.1
        have k2 := h11.1
        have hh : ca_h T (c + 1) = ca_h T l := by
          have := ca_hs hA (i := c) (by omega)
          have t1 := h4.2.2
          rw [if_neg (by omega), if_neg (by omega)] at this
          have := h4.1
          omega
        have h55 := (ca_wt_op h4.2.2).2
        have hLB : cg_LB T l c (ca_wt (T c) + 1) := ⟨by omega, fun _ j a b t z => h3 j a (by omega) t z, fun j a b z => by have := (h5 j a (by omega) z).1; omega, fun z => absurd z (by omega)⟩
        obtain ⟨w1, hw1, hw1'⟩ := child 0 _ rfl (by show c - l ≤ d; omega) (ca_wt (T c) + 1) hLB
        obtain ⟨w2, hw2, hw2'⟩ := child 1 _ rfl (by show u - (c + 1) ≤ d; omega) (ca_wt (T c) + 2) ⟨by omega, fun _ j a b t z => h3 j (by have : c + 1 < j := a; omega) b t (by have z' : ca_h T j = ca_h T (c + 1) := z; omega), fun j a b z => by
          have a' : c + 1 < j := a
          have z1 : ca_h T j = ca_h T (c + 1) := z.1
          have := (h5 j (by omega) b ⟨by omega, z.2⟩).2 (by omega)
          omega, fun z => absurd z (by omega)⟩
        have e2 : cg_B T tv (c + 1) = cg_B T tv l := cg_Be h12
        have g1 : cg_G T tv (fun j => op (240 + j)) (fun j => nm (240 + j)) (fun j => ay (240 + j)) (fun j => nI (hN (bN j + 1))) (fun j i => bN j + i) N d (cg_B T tv l) (bN j + 0) w1 l c := hw1'
        have g2 : cg_G T tv (fun j => op (240 + j)) (fun j => nm (240 + j)) (fun j => ay (240 + j)) (fun j => nI (hN (bN j + 1))) (fun j i => bN j + i) N d (cg_B T tv (c + 1)) (bN j + 1) w2 (c + 1) u := hw2'
        rw [e2] at g2
        have qw : q ≤ ca_wt (T c) + 1 := hq.2.2.1 c h1 h2 h4
        have en := (ca_end hA (i := c) (by omega) (by omega)).1 h4.2.1
        exact ⟨ca_wt (T c) + 1, qw, hj, v1, Or.inr (Or.inr (Or.inr (Or.inr (Or.inr (Or.inr (Or.inl ⟨c, w1, w2, h4.2.2.1, h4.2.2.2.1, h4.2.2.2.2, by omega, en, h6, by rw [← h8]; exact hay, g1, g2, rfl, hw1, by omega⟩))))))⟩
      · -- a choice
        subst h14
        have k1 := h15.1
        have k2 := h16.1
        have k3 := h17.1
        obtain ⟨w1, hw1, hw1'⟩ := child 0 _ rfl (by show c - l ≤ d; omega) 2 ⟨by omega, fun _ j a b t z => h7 j a b t z, fun j a b z => by
          have := ca_wt_op z.2.2
          omega, fun z => absurd z (by omega)⟩
        obtain ⟨w2, hw2, hw2'⟩ := child 1 _ rfl (by show m - (c + 1) ≤ d; omega) 1 cg_LB1
        obtain ⟨w3, hw3, hw3'⟩ := child 2 _ rfl (by show u - (m + 1) ≤ d; omega) 1 cg_LB1
        have e2 : cg_B T tv (c + 1) = cg_B T tv l := cg_Bs h9 (by show T c ≠ 9; omega)
        have e3 : cg_B T tv (m + 1) = cg_B T tv l := cg_Be h10
        have g1 : cg_G T tv (fun j => op (240 + j)) (fun j => nm (240 + j)) (fun j => ay (240 + j)) (fun j => nI (hN (bN j + 1))) (fun j i => bN j + i) N d (cg_B T tv l) (bN j + 0) w1 l c := hw1'
        have g2 : cg_G T tv (fun j => op (240 + j)) (fun j => nm (240 + j)) (fun j => ay (240 + j)) (fun j => nI (hN (bN j + 1))) (fun j i => bN j + i) N d (cg_B T tv (c + 1)) (bN j + 1) w2 (c + 1) m := hw2'
        have g3 : cg_G T tv (fun j => op (240 + j)) (fun j => nm (240 + j)) (fun j => ay (240 + j)) (fun j => nI (hN (bN j + 1))) (fun j i => bN j + i) N d (cg_B T tv (m + 1)) (bN j + 2) w3 (m + 1) u := hw3'
        rw [e2] at g2
        rw [e3] at g3
        have q1 : q ≤ 1 := by
          have a2 := hq.2.1
          by_cases z : 2 ≤ q
          · exact absurd h6 (a2 z c h3 (by omega) h1)
          · omega
        have ym : nI (hN (bN j + 1)) = nI m := by rw [(hch 1 _ rfl).2.2]
        exact ⟨1, q1, hj, v1, Or.inr (Or.inr (Or.inr (Or.inr (Or.inr (Or.inr (Or.inr ⟨c, m, w1, w2, w3, h1, h2, cg_opn hA (by omega) h8, h11, by rw [← h13]; exact hay, ym, g1, hw1, g2, hw2, g3, hw3, rfl⟩))))))⟩
end
