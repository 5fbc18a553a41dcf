theorem cs_L_ar {T : Nat → Nat} {tv : Nat → Int32} {n : Nat} (hT : ∀ i, i < n → T i < 23) : ∀ {f l u : Nat} {t v : Int32} {p : Nat} {ch : List (Nat × Nat)}, cs_L T tv n f l u t v p ch → ch.length = gr_ar t ∧ (t = 5 → ∃ i, i < n ∧ T i = 5 ∧ v = tv i) := by
  intro f
  induction f with
  | zero => intro l u t v p ch h; exact absurd h id
  | succ f ih =>
    intro l u t v p ch h
    obtain ⟨hV, h⟩ := h
    have v1 := hV.1
    have v2 := hV.2.1
    rcases h with ⟨_, _, _, _, h⟩ | ⟨h1, h2, h3, _, h5, h6⟩ | ⟨h2, _, _, h3, _, h5, h6, h7, _⟩ | ⟨h1, _, _, _, _, h3, h4, h5, h6, h7⟩ | ⟨m, h1, _, _, _, _, _, _, _, h3, _, h5, h6, h7, h8⟩ | ⟨h1, _, _, h5, h6, h7, _⟩ | ⟨c, h0, h00, _, h2, _, h3, _, h5, h6, h7, h8, _⟩ | ⟨c, m, _, _, _, _, _, _, _, _, _, _, h3, _, h5, h6, h7, h8, h9⟩
    · exact ih h
    · subst h6 h3
      rcases h2 with z | z | z | z <;> rw [z] <;> exact ⟨rfl, fun y => absurd y (by decide)⟩
    · subst h6 h3
      rcases h2 with z | z <;> rw [z] <;> exact ⟨rfl, fun y => absurd y (by decide)⟩
    · subst h6 h3
      exact ⟨rfl, fun _ => ⟨l, by omega, h1, h4⟩⟩
    · subst h6 h3
      have := hT l (by omega)
      have z3 : T l = 20 ∨ T l = 21 ∨ T l = 22 := by omega
      rcases z3 with z | z | z <;> rw [z] <;> exact ⟨rfl, fun y => absurd y (by decide)⟩
    · subst h6
      rcases h1 with ⟨_, z⟩ | ⟨_, z⟩ <;> rw [z] <;> exact ⟨rfl, fun y => absurd y (by decide)⟩
    · subst h6 h3
      have := h2.2.2
      have z3 : T c = 10 ∨ T c = 11 ∨ T c = 13 ∨ T c = 14 ∨ T c = 15 ∨ T c = 16 ∨ T c = 17 ∨ T c = 18 := by omega
      rcases z3 with z | z | z | z | z | z | z | z <;> rw [z] <;> exact ⟨rfl, fun y => absurd y (by decide)⟩
    · subst h6 h3
      exact ⟨rfl, fun y => absurd y (by decide)⟩
/-- least demand not met among the first k nodes -/
def cz_ms (g : Nat → Nat) : Nat → Nat
  | 0 => 100
  | k + 1 => min (cz_ms g k) (g k)
theorem cz_ms_le (g : Nat → Nat) : ∀ (N j : Nat), j < N → cz_ms g N ≤ g j
  | 0, j, h => absurd h (by omega)
  | N + 1, j, h => by
    show min (cz_ms g N) (g N) ≤ g j
    by_cases z : j = N
    · subst z; exact Nat.min_le_right _ _
    · exact Nat.le_trans (Nat.min_le_left _ _) (cz_ms_le g N j (by omega))
theorem cz_ms_100 (g : Nat → Nat) : ∀ N, cz_ms g N ≤ 100
  | 0 => Nat.le_refl _
  | N + 1 => Nat.le_trans (Nat.min_le_left _ _) (cz_ms_100 g N)
theorem cz_ms_ge (g : Nat → Nat) (m : Nat) (hm : m ≤ 100) : ∀ N, (∀ j, j < N → m ≤ g j) → m ≤ cz_ms g N
  | 0, _ => hm
  | N + 1, h => by
    show m ≤ min (cz_ms g N) (g N)
    have a := cz_ms_ge g m hm N (fun j hj => h j (by omega))
    have b := h N (by omega)
    omega
section
variable {ob pl sts res era usd sp lv ret out : Int32} {ycls prp lst siz dnd opd yrk rn op nm ay prt ylo yhi sN sP sX sK it vr tk tv : Nat → Int32} {n N : Nat} {yp : Nat → Nat → Nat}
theorem cz_step (hN : N ≤ 40) (hY : ∀ j i, j < N → i < gr_ar (op (240 + j)) → prt ((240 + j) * 3 + i) = nI (240 + yp j i) ∧ j < yp j i ∧ yp j i < N) (hY5 : ∀ j, j < N → op (240 + j) = 5 → ∃ x, x < 6 ∧ nm (240 + j) = nI x) {j i : Nat} (hj : j < N) (hi : i < gr_ar (op (240 + j))) (h3 : i < 3) : cn_b (fun j => op (240 + j)) (fun j => nm (240 + j)) (fun j => ay (240 + j)) yrk yp j ≤ cn_b (fun j => op (240 + j)) (fun j => nm (240 + j)) (fun j => ay (240 + j)) yrk yp (yp j i) := by
  obtain ⟨y1, y2, y3⟩ := hY j i hj hi
  have e : cn_b (fun j => op (240 + j)) (fun j => nm (240 + j)) (fun j => ay (240 + j)) yrk yp j = min (cn_s (fun j => op (240 + j)) (fun j => nm (240 + j)) (fun j => ay (240 + j)) yrk yp j) (min (if h : 0 < gr_ar (op (240 + j)) ∧ j < yp j 0 ∧ yp j 0 < 40 then cn_b (fun j => op (240 + j)) (fun j => nm (240 + j)) (fun j => ay (240 + j)) yrk yp (yp j 0) else 100) (min (if h : 1 < gr_ar (op (240 + j)) ∧ j < yp j 1 ∧ yp j 1 < 40 then cn_b (fun j => op (240 + j)) (fun j => nm (240 + j)) (fun j => ay (240 + j)) yrk yp (yp j 1) else 100) (if h : 2 < gr_ar (op (240 + j)) ∧ j < yp j 2 ∧ yp j 2 < 40 then cn_b (fun j => op (240 + j)) (fun j => nm (240 + j)) (fun j => ay (240 + j)) yrk yp (yp j 2) else 100))) := by
    conv => lhs; rw [cn_b]
  rw [e]
  have c : i = 0 ∨ i = 1 ∨ i = 2 := by omega
  rcases c with rfl | rfl | rfl
  · rw [dif_pos ⟨hi, y2, by omega⟩]
    exact Nat.le_trans (Nat.min_le_right _ _) (Nat.min_le_left _ _)
  · rw [dif_pos (c := 1 < gr_ar (op (240 + j)) ∧ j < yp j 1 ∧ yp j 1 < 40) ⟨hi, y2, by omega⟩]
    exact Nat.le_trans (Nat.min_le_right _ _) (Nat.le_trans (Nat.min_le_right _ _) (Nat.min_le_left _ _))
  · rw [dif_pos (c := 2 < gr_ar (op (240 + j)) ∧ j < yp j 2 ∧ yp j 2 < 40) ⟨hi, y2, by omega⟩]
    exact Nat.le_trans (Nat.min_le_right _ _) (Nat.le_trans (Nat.min_le_right _ _) (Nat.min_le_right _ _))
theorem cz_b (hN : N ≤ 40) (hY : ∀ j i, j < N → i < gr_ar (op (240 + j)) → prt ((240 + j) * 3 + i) = nI (240 + yp j i) ∧ j < yp j i ∧ yp j i < N) (hY5 : ∀ j, j < N → op (240 + j) = 5 → ∃ x, x < 6 ∧ nm (240 + j) = nI x) (ha : ∀ j, j < N → cn_s (fun j => op (240 + j)) (fun j => nm (240 + j)) (fun j => ay (240 + j)) yrk yp j ≤ 100) (hroot : ∀ j, 0 < j → j < N → ∃ q i, q < j ∧ i < gr_ar (op (240 + q)) ∧ i < 3 ∧ j = yp q i) (h0 : 0 < N) : cn_b (fun j => op (240 + j)) (fun j => nm (240 + j)) (fun j => ay (240 + j)) yrk yp 0 = cz_ms (cn_s (fun j => op (240 + j)) (fun j => nm (240 + j)) (fun j => ay (240 + j)) yrk yp) N := by
  have up : ∀ j, j < N → cn_b (fun j => op (240 + j)) (fun j => nm (240 + j)) (fun j => ay (240 + j)) yrk yp 0 ≤ cn_b (fun j => op (240 + j)) (fun j => nm (240 + j)) (fun j => ay (240 + j)) yrk yp j := by
    intro j
    induction j using Nat.strongRecOn with
    | _ j ih =>
      intro hj
      by_cases z : j = 0
      · rw [z]; exact Nat.le_refl _
      · obtain ⟨q, i, q1, q2, q3, q4⟩ := hroot j (by omega) hj
        have a := ih q q1 (by omega)
        have b := cz_step (yrk := yrk) (ay := ay) hN hY hY5 (by omega : q < N) q2 q3
        rw [← q4] at b
        omega
  have dn : ∀ d j, j < N → N - j ≤ d → cz_ms (cn_s (fun j => op (240 + j)) (fun j => nm (240 + j)) (fun j => ay (240 + j)) yrk yp) N ≤ cn_b (fun j => op (240 + j)) (fun j => nm (240 + j)) (fun j => ay (240 + j)) yrk yp j := by
    intro d
    induction d with
    | zero => intro j hj hd; omega
    | succ d ih =>
      intro j hj hd
      have e : cn_b (fun j => op (240 + j)) (fun j => nm (240 + j)) (fun j => ay (240 + j)) yrk yp j = min (cn_s (fun j => op (240 + j)) (fun j => nm (240 + j)) (fun j => ay (240 + j)) yrk yp j) (min (if h : 0 < gr_ar (op (240 + j)) ∧ j < yp j 0 ∧ yp j 0 < 40 then cn_b (fun j => op (240 + j)) (fun j => nm (240 + j)) (fun j => ay (240 + j)) yrk yp (yp j 0) else 100) (min (if h : 1 < gr_ar (op (240 + j)) ∧ j < yp j 1 ∧ yp j 1 < 40 then cn_b (fun j => op (240 + j)) (fun j => nm (240 + j)) (fun j => ay (240 + j)) yrk yp (yp j 1) else 100) (if h : 2 < gr_ar (op (240 + j)) ∧ j < yp j 2 ∧ yp j 2 < 40 then cn_b (fun j => op (240 + j)) (fun j => nm (240 + j)) (fun j => ay (240 + j)) yrk yp (yp j 2) else 100))) := by
        conv => lhs; rw [cn_b]
      have m100 := cz_ms_100 (cn_s (fun j => op (240 + j)) (fun j => nm (240 + j)) (fun j => ay (240 + j)) yrk yp) N
      have ms := cz_ms_le (cn_s (fun j => op (240 + j)) (fun j => nm (240 + j)) (fun j => ay (240 + j)) yrk yp) N j hj
      have kid : ∀ i, cz_ms (cn_s (fun j => op (240 + j)) (fun j => nm (240 + j)) (fun j => ay (240 + j)) yrk yp) N ≤ (if h : i < gr_ar (op (240 + j)) ∧ j < yp j i ∧ yp j i < 40 then cn_b (fun j => op (240 + j)) (fun j => nm (240 + j)) (fun j => ay (240 + j)) yrk yp (yp j i) else 100) := by
        intro i
        by_cases z : i < gr_ar (op (240 + j)) ∧ j < yp j i ∧ yp j i < 40
        · rw [dif_pos z]
          obtain ⟨y1, y2, y3⟩ := hY j i hj z.1
          exact ih (yp j i) y3 (by omega)
        · rw [dif_neg z]; exact m100
      rw [e]
      exact Nat.le_min.mpr ⟨ms, Nat.le_min.mpr ⟨kid 0, Nat.le_min.mpr ⟨kid 1, kid 2⟩⟩⟩
  refine Nat.le_antisymm (cz_ms_ge _ _ ?_ N (fun j hj => Nat.le_trans (up j hj) cn_b_le)) (dn N 0 h0 (by omega))
  exact Nat.le_trans cn_b_le (ha 0 h0)
theorem cz_kind (hN : N ≤ 40) (hY : ∀ j i, j < N → i < gr_ar (op (240 + j)) → prt ((240 + j) * 3 + i) = nI (240 + yp j i) ∧ j < yp j i ∧ yp j i < N) (hY5 : ∀ j, j < N → op (240 + j) = 5 → ∃ x, x < 6 ∧ nm (240 + j) = nI x) : ∀ (d k : Nat) {post : Int32 → Prop}, k < N → N - k ≤ d → post (cn_k (fun j => op (240 + j)) (fun j => nm (240 + j)) yrk yp k) → wY_kindOf_2 post ob (nI n) pl (nI (240 + N)) sts res era usd sp lv ret out ycls prp lst siz dnd (tk) (tv) opd yrk rn op nm ay prt ylo yhi sN sP sX sK it vr (d + 1) (nI (240 + k)) := by
  intro d
  induction d with
  | zero => intro k post hk hd; omega
  | succ d ih =>
    intro k post hk hd hp
    have ck : (nI (240 + k)).toNatClampNeg = 240 + k := nI_clamp (by omega)
    have ik : vp_in (nI (240 + k)) 280 := vp_in_nI (by omega) (by decide)
    refine ⟨ik, ?_⟩
    rw [ck]
    rw [cn_k] at hp
    by_cases o8 : op (240 + k) = 8
    · rw [if_pos o8] at hp
      obtain ⟨y1, y2, y3⟩ := hY k 1 hk (by rw [o8]; decide)
      rw [dif_pos ⟨y2, by omega⟩] at hp
      have e3 : nI (240 + k) * 3 + 1 = nI ((240 + k) * 3 + 1) := gr_lin (240 + k) 3 1 rfl rfl
      exact br_t o8 ⟨by rw [e3]; exact vp_in_nI (by omega) (by decide), nm_r (e' := nI (240 + yp k 1)) (by rw [e3, nI_clamp (by omega)]; exact y1) (ih (yp k 1) y3 (by omega) hp)⟩
    · rw [if_neg o8] at hp
      refine br_f o8 ⟨ik, nm_e ?_⟩
      by_cases o5 : op (240 + k) = 5
      · rw [if_pos o5] at hp
        obtain ⟨x, hx, ex⟩ := hY5 k hk o5
        exact br_t o5 ⟨ik, by rw [ex]; exact vp_in_nI hx (by decide), hp⟩
      · rw [if_neg o5] at hp
        refine br_f o5 ?_
        by_cases o3 : op (240 + k) = 3
        · rw [if_pos (Or.inl o3)] at hp; exact br_t o3 hp
        by_cases o4 : op (240 + k) = 4
        · rw [if_pos (Or.inr (Or.inl o4))] at hp; exact br_f o3 (br_t o4 hp)
        by_cases o19 : op (240 + k) = 19
        · rw [if_pos (Or.inr (Or.inr o19))] at hp; exact br_f o3 (br_f o4 (br_t o19 hp))
        rw [if_neg (by intro z; rcases z with z | z | z <;> contradiction)] at hp
        refine br_f o3 (br_f o4 (br_f o19 ?_))
        have l79 : op (240 + k) = 1 ∨ op (240 + k) = 2 → wY_kindOf_79 post (nI (240 + k)) ob (nI n) pl (nI (240 + N)) sts res era usd sp lv ret out ycls prp lst siz dnd (tk) (tv) opd yrk rn op nm ay prt ylo yhi sN sP sX sK it vr := by
          intro z
          rw [if_pos z] at hp
          refine ⟨ik, ?_⟩
          rw [ck]
          by_cases y : 2 < nm (240 + k)
          · rw [if_pos y] at hp
            refine br_t y ⟨ik, ?_⟩
            by_cases x : nm (240 + k) = 3
            · rw [if_pos x] at hp; exact br_t x hp
            · rw [if_neg x] at hp; exact br_f x hp
          · rw [if_neg y] at hp
            exact br_f y hp
        by_cases o1 : op (240 + k) = 1
        · exact br_t o1 (l79 (Or.inl o1))
        by_cases o2 : op (240 + k) = 2
        · exact br_f o1 (br_t o2 (l79 (Or.inr o2)))
        rw [if_neg (by intro z; rcases z with z | z <;> contradiction)] at hp
        refine br_f o1 (br_f o2 ?_)
        have l121 : ¬ (10 ≤ op (240 + k) ∧ op (240 + k) ≤ 14) → wY_kindOf_121 post (op (240 + k)) ob (nI n) pl (nI (240 + N)) sts res era usd sp lv ret out ycls prp lst siz dnd (tk) (tv) opd yrk rn op nm ay prt ylo yhi sN sP sX sK it vr := by
          intro z
          by_cases o20 : op (240 + k) = 20
          · rw [if_pos (Or.inr (Or.inl o20))] at hp; exact br_t o20 hp
          by_cases o21 : op (240 + k) = 21
          · rw [if_pos (Or.inr (Or.inr o21))] at hp; exact br_f o20 (br_t o21 hp)
          rw [if_neg (by intro y; rcases y with y | y | y <;> contradiction)] at hp
          exact br_f o20 (br_f o21 hp)
        by_cases l10 : op (240 + k) < 10
        · exact br_t l10 (l121 (fun z => (Int32.not_le.mpr l10) z.1))
        · refine br_f l10 ?_
          by_cases l14 : op (240 + k) ≤ 14
          · rw [if_pos (Or.inl ⟨Int32.not_lt.mp l10, l14⟩)] at hp
            exact br_t l14 hp
          · exact br_f l14 (l121 (fun z => l14 z.2))
theorem cz_kindOf (hN : N ≤ 40) (hY : ∀ j i, j < N → i < gr_ar (op (240 + j)) → prt ((240 + j) * 3 + i) = nI (240 + yp j i) ∧ j < yp j i ∧ yp j i < N) (hY5 : ∀ j, j < N → op (240 + j) = 5 → ∃ x, x < 6 ∧ nm (240 + j) = nI x) {k : Nat} {post : Int32 → Prop} (hk : k < N) (hp : post (cn_k (fun j => op (240 + j)) (fun j => nm (240 + j)) yrk yp k)) : wpY_kindOf post (ob, nI n, pl, nI (240 + N), sts, res, era, usd, sp, lv, ret, out, ycls, prp, lst, siz, dnd, tk, tv, opd, yrk, rn, op, nm, ay, prt, ylo, yhi, sN, sP, sX, sK, it, vr) (nI (240 + k)) := ⟨_, cz_kind hN hY hY5 N k hk (by omega) hp⟩
theorem cn_ok_leaf {yo yn rk : Nat → Int32} {yp : Nat → Nat → Nat} {k : Nat} (h : yo k = 0 ∨ yo k = 3 ∨ yo k = 4 ∨ yo k = 19) : cn_ok yo yn rk yp k = true := by unfold cn_ok; rw [if_pos h]
theorem cz_t {b : Bool} {post : Int32 → Prop} (h : b = true) (hp : post (if b = true then 1 else 0)) : post 1 := by rw [if_pos h] at hp; exact hp
theorem cz_f {b : Bool} {post : Int32 → Prop} (h : b = false) (hp : post (if b = true then 1 else 0)) : post 0 := by rw [h, if_neg (by decide)] at hp; exact hp
theorem cz_yes {x y : Int32} {post : Int32 → Prop} (hp : post (if decide (x = y) = true then 1 else 0)) : (x = y → post 1) ∧ (¬ x = y → post 0) := by
  by_cases z : x = y
  · rw [decide_eq_true z] at hp; exact br_t z hp
  · rw [decide_eq_false z] at hp; exact br_f z hp
theorem cz_yes2 {x y x' y' : Int32} {post : Int32 → Prop} (hp : post (if decide (x = y ∧ x' = y') = true then 1 else 0)) : (x = y → ((x' = y' → post 1) ∧ (¬ x' = y' → post 0))) ∧ (¬ x = y → post 0) := by
  by_cases z : x = y
  · refine br_t z ?_
    by_cases z' : x' = y'
    · rw [decide_eq_true ⟨z, z'⟩] at hp; exact br_t z' hp
    · rw [decide_eq_false (fun q => z' q.2)] at hp; exact br_f z' hp
  · rw [decide_eq_false (fun q => z q.1)] at hp; exact br_f z hp
theorem cz_content (hN : N ≤ 40) (hY : ∀ j i, j < N → i < gr_ar (op (240 + j)) → prt ((240 + j) * 3 + i) = nI (240 + yp j i) ∧ j < yp j i ∧ yp j i < N) (hY5 : ∀ j, j < N → op (240 + j) = 5 → ∃ x, x < 6 ∧ nm (240 + j) = nI x) (hop : ∀ j, j < N → ∃ t, t < 24 ∧ op (240 + j) = nI t) (hno : ∀ j, j < N → op (240 + j) ≠ 6 ∧ op (240 + j) ≠ 7 ∧ op (240 + j) ≠ 9) {k : Nat} {post : Int32 → Prop} (hk : k < N) (hp : post (if cn_ok (fun j => op (240 + j)) (fun j => nm (240 + j)) yrk yp k = true then 1 else 0)) : wpY_content post (ob, nI n, pl, nI (240 + N), sts, res, era, usd, sp, lv, ret, out, ycls, prp, lst, siz, dnd, tk, tv, opd, yrk, rn, op, nm, ay, prt, ylo, yhi, sN, sP, sX, sK, it, vr) (nI (240 + k)) := by
  have ck : (nI (240 + k)).toNatClampNeg = 240 + k := nI_clamp (by omega)
  have ik : vp_in (nI (240 + k)) 280 := vp_in_nI (by omega) (by decide)
  have e0 : nI (240 + k) * 3 = nI ((240 + k) * 3) := gr_mul (240 + k) 3 rfl
  have e1 : nI ((240 + k) * 3) + 1 = nI ((240 + k) * 3 + 1) := nI_1 _
  have e2 : nI ((240 + k) * 3) + 2 = nI ((240 + k) * 3 + 2) := nI_add _ 2
  obtain ⟨t, ht, eo⟩ := hop k hk
  have c : t = 0 ∨ t = 1 ∨ t = 2 ∨ t = 3 ∨ t = 4 ∨ t = 5 ∨ t = 6 ∨ t = 7 ∨ t = 8 ∨ t = 9 ∨ t = 10 ∨ t = 11 ∨ t = 12 ∨ t = 13 ∨ t = 14 ∨ t = 15 ∨ t = 16 ∨ t = 17 ∨ t = 18 ∨ t = 19 ∨ t = 20 ∨ t = 21 ∨ t = 22 ∨ t = 23 := by omega
  have kid : ∀ i, i < gr_ar (op (240 + k)) → yp k i < N ∧ prt ((240 + k) * 3 + i) = nI (240 + yp k i) := fun i hi => ⟨(hY k i hk hi).2.2, (hY k i hk hi).1⟩
  refine ⟨ik, nm_r (e' := nI t) (by rw [ck]; exact eo) ?_⟩
  rw [eo] at kid
  rcases c with rfl | rfl | rfl | rfl | rfl | rfl | rfl | rfl | rfl | rfl | rfl | rfl | rfl | rfl | rfl | rfl | rfl | rfl | rfl | rfl | rfl | rfl | rfl | rfl
  · rw [cn_ok_leaf (yo := (fun j => op (240 + j))) (k := k) (Or.inl eo)] at hp
    exact br_t rfl hp
  · rw [cn_ok_un (yo := (fun j => op (240 + j))) (k := k) (Or.inl eo)] at hp
    obtain ⟨a1, a2⟩ := kid 0 (by decide)
    refine br_f (by decide) (br_f (by decide) (br_f (by decide) (br_f (by decide) (⟨by rw [e0]; exact vp_in_nI (by omega) (by decide), ?_⟩))))
    rw [e0, nI_clamp (n := (240 + k) * 3) (by omega), show prt ((240 + k) * 3) = nI (240 + yp k 0) from a2]
    refine cz_kindOf hN hY hY5 a1 ?_
    exact br_t rfl (cz_yes hp)
  · rw [cn_ok_un (yo := (fun j => op (240 + j))) (k := k) (Or.inr (Or.inl eo))] at hp
    obtain ⟨a1, a2⟩ := kid 0 (by decide)
    refine br_f (by decide) (br_f (by decide) (br_f (by decide) (br_f (by decide) (⟨by rw [e0]; exact vp_in_nI (by omega) (by decide), ?_⟩))))
    rw [e0, nI_clamp (n := (240 + k) * 3) (by omega), show prt ((240 + k) * 3) = nI (240 + yp k 0) from a2]
    refine cz_kindOf hN hY hY5 a1 ?_
    exact br_f (by decide) (br_t rfl (cz_yes hp))
  · rw [cn_ok_leaf (yo := (fun j => op (240 + j))) (k := k) (Or.inr (Or.inl eo))] at hp
    exact br_f (by decide) (br_t rfl hp)
  · rw [cn_ok_leaf (yo := (fun j => op (240 + j))) (k := k) (Or.inr (Or.inr (Or.inl eo)))] at hp
    exact br_f (by decide) (br_f (by decide) (br_t rfl hp))
  · rw [cn_ok_un (yo := (fun j => op (240 + j))) (k := k) (Or.inr (Or.inr eo))] at hp
    obtain ⟨a1, a2⟩ := kid 0 (by decide)
    refine br_f (by decide) (br_f (by decide) (br_f (by decide) (br_f (by decide) (⟨by rw [e0]; exact vp_in_nI (by omega) (by decide), ?_⟩))))
    rw [e0, nI_clamp (n := (240 + k) * 3) (by omega), show prt ((240 + k) * 3) = nI (240 + yp k 0) from a2]
    refine cz_kindOf hN hY hY5 a1 ?_
    exact br_f (by decide) (br_f (by decide) (br_t rfl (cz_yes hp)))
  · exact absurd eo (hno k hk).1
  · exact absurd eo (hno k hk).2.1
  · rw [cn_ok_8 (yo := (fun j => op (240 + j))) (k := k) eo] at hp
    obtain ⟨a1, a2⟩ := kid 0 (by decide)
    refine br_f (by decide) (br_f (by decide) (br_f (by decide) (br_f (by decide) (⟨by rw [e0]; exact vp_in_nI (by omega) (by decide), ?_⟩))))
    rw [e0, nI_clamp (n := (240 + k) * 3) (by omega), show prt ((240 + k) * 3) = nI (240 + yp k 0) from a2]
    refine cz_kindOf hN hY hY5 a1 ?_
    obtain ⟨b1, b2⟩ := kid 1 (by decide)
    refine br_f (by decide) (br_f (by decide) (br_f (by decide) (br_f (by decide) (br_f (by decide) (⟨by rw [e1]; exact vp_in_nI (by omega) (by decide), ?_⟩)))))
    rw [e1, nI_clamp (n := (240 + k) * 3 + 1) (by omega), b2]
    refine cz_kindOf hN hY hY5 b1 ?_
    refine br_t (by decide) ?_
    refine br_t rfl ?_
    obtain ⟨c1, c2⟩ := kid 2 (by decide)
    have h2 := cz_yes2 (x := cn_k (fun j => op (240 + j)) (fun j => nm (240 + j)) yrk yp (yp k 0)) (y := 2) (x' := cn_k (fun j => op (240 + j)) (fun j => nm (240 + j)) yrk yp (yp k 1)) (y' := cn_k (fun j => op (240 + j)) (fun j => nm (240 + j)) yrk yp (yp k 2)) hp
    refine ⟨fun z => ⟨by rw [e2]; exact vp_in_nI (by omega) (by decide), ?_⟩, h2.2⟩
    rw [e2, nI_clamp (n := (240 + k) * 3 + 2) (by omega), c2]
    exact cz_kindOf hN hY hY5 c1 (h2.1 z)
  · exact absurd eo (hno k hk).2.2
  · rw [cn_ok_lo (yo := (fun j => op (240 + j))) (k := k) (Or.inl eo)] at hp
    obtain ⟨a1, a2⟩ := kid 0 (by decide)
    refine br_f (by decide) (br_f (by decide) (br_f (by decide) (br_f (by decide) (⟨by rw [e0]; exact vp_in_nI (by omega) (by decide), ?_⟩))))
    rw [e0, nI_clamp (n := (240 + k) * 3) (by omega), show prt ((240 + k) * 3) = nI (240 + yp k 0) from a2]
    refine cz_kindOf hN hY hY5 a1 ?_
    obtain ⟨b1, b2⟩ := kid 1 (by decide)
    refine br_f (by decide) (br_f (by decide) (br_f (by decide) (br_f (by decide) (br_f (by decide) (⟨by rw [e1]; exact vp_in_nI (by omega) (by decide), ?_⟩)))))
    rw [e1, nI_clamp (n := (240 + k) * 3 + 1) (by omega), b2]
    refine cz_kindOf hN hY hY5 b1 ?_
    refine br_t (by decide) ?_
    exact br_f (by decide) (br_f (by decide) (br_t rfl (cz_yes2 hp)))
  · rw [cn_ok_lo (yo := (fun j => op (240 + j))) (k := k) (Or.inr eo)] at hp
    obtain ⟨a1, a2⟩ := kid 0 (by decide)
    refine br_f (by decide) (br_f (by decide) (br_f (by decide) (br_f (by decide) (⟨by rw [e0]; exact vp_in_nI (by omega) (by decide), ?_⟩))))
    rw [e0, nI_clamp (n := (240 + k) * 3) (by omega), show prt ((240 + k) * 3) = nI (240 + yp k 0) from a2]
    refine cz_kindOf hN hY hY5 a1 ?_
    obtain ⟨b1, b2⟩ := kid 1 (by decide)
    refine br_f (by decide) (br_f (by decide) (br_f (by decide) (br_f (by decide) (br_f (by decide) (⟨by rw [e1]; exact vp_in_nI (by omega) (by decide), ?_⟩)))))
    rw [e1, nI_clamp (n := (240 + k) * 3 + 1) (by omega), b2]
    refine cz_kindOf hN hY hY5 b1 ?_
    refine br_t (by decide) ?_
    exact br_f (by decide) (br_f (by decide) (br_f (by decide) (br_t rfl (cz_yes2 hp))))
  · rw [cn_ok_12 (yo := (fun j => op (240 + j))) (k := k) eo] at hp
    obtain ⟨a1, a2⟩ := kid 0 (by decide)
    refine br_f (by decide) (br_f (by decide) (br_f (by decide) (br_f (by decide) (⟨by rw [e0]; exact vp_in_nI (by omega) (by decide), ?_⟩))))
    rw [e0, nI_clamp (n := (240 + k) * 3) (by omega), show prt ((240 + k) * 3) = nI (240 + yp k 0) from a2]
    refine cz_kindOf hN hY hY5 a1 ?_
    exact br_f (by decide) (br_f (by decide) (br_f (by decide) (br_f (by decide) (br_t rfl (cz_yes hp)))))
  · rw [cn_ok_13 (yo := (fun j => op (240 + j))) (k := k) eo] at hp
    obtain ⟨a1, a2⟩ := kid 0 (by decide)
    refine br_f (by decide) (br_f (by decide) (br_f (by decide) (br_f (by decide) (⟨by rw [e0]; exact vp_in_nI (by omega) (by decide), ?_⟩))))
    rw [e0, nI_clamp (n := (240 + k) * 3) (by omega), show prt ((240 + k) * 3) = nI (240 + yp k 0) from a2]
    refine cz_kindOf hN hY hY5 a1 ?_
    obtain ⟨b1, b2⟩ := kid 1 (by decide)
    refine br_f (by decide) (br_f (by decide) (br_f (by decide) (br_f (by decide) (br_f (by decide) (⟨by rw [e1]; exact vp_in_nI (by omega) (by decide), ?_⟩)))))
    rw [e1, nI_clamp (n := (240 + k) * 3 + 1) (by omega), b2]
    refine cz_kindOf hN hY hY5 b1 ?_
    refine br_t (by decide) ?_
    refine br_f (by decide) (br_t rfl ?_)
    by_cases z : cn_k (fun j => op (240 + j)) (fun j => nm (240 + j)) yrk yp (yp k 0) = cn_k (fun j => op (240 + j)) (fun j => nm (240 + j)) yrk yp (yp k 1)
    · refine br_t z ?_
      by_cases z4 : cn_k (fun j => op (240 + j)) (fun j => nm (240 + j)) yrk yp (yp k 0) = 4
      · exact br_t z4 (cz_f (decide_eq_false (fun q => q.2 z4)) hp)
      · exact br_f z4 (cz_t (decide_eq_true ⟨z, z4⟩) hp)
    · exact br_f z (cz_f (decide_eq_false (fun q => z q.1)) hp)
  · rw [cn_ok_ar (yo := (fun j => op (240 + j))) (k := k) (Or.inl eo)] at hp
    obtain ⟨a1, a2⟩ := kid 0 (by decide)
    refine br_f (by decide) (br_f (by decide) (br_f (by decide) (br_f (by decide) (⟨by rw [e0]; exact vp_in_nI (by omega) (by decide), ?_⟩))))
    rw [e0, nI_clamp (n := (240 + k) * 3) (by omega), show prt ((240 + k) * 3) = nI (240 + yp k 0) from a2]
    refine cz_kindOf hN hY hY5 a1 ?_
    obtain ⟨b1, b2⟩ := kid 1 (by decide)
    refine br_f (by decide) (br_f (by decide) (br_f (by decide) (br_f (by decide) (br_f (by decide) (⟨by rw [e1]; exact vp_in_nI (by omega) (by decide), ?_⟩)))))
    rw [e1, nI_clamp (n := (240 + k) * 3 + 1) (by omega), b2]
    refine cz_kindOf hN hY hY5 b1 ?_
    refine br_t (by decide) ?_
    exact br_f (by decide) (br_f (by decide) (br_f (by decide) (br_f (by decide) (cz_yes2 hp))))
  · rw [cn_ok_ar (yo := (fun j => op (240 + j))) (k := k) (Or.inr (Or.inl eo))] at hp
    obtain ⟨a1, a2⟩ := kid 0 (by decide)
    refine br_f (by decide) (br_f (by decide) (br_f (by decide) (br_f (by decide) (⟨by rw [e0]; exact vp_in_nI (by omega) (by decide), ?_⟩))))
    rw [e0, nI_clamp (n := (240 + k) * 3) (by omega), show prt ((240 + k) * 3) = nI (240 + yp k 0) from a2]
    refine cz_kindOf hN hY hY5 a1 ?_
    obtain ⟨b1, b2⟩ := kid 1 (by decide)
    refine br_f (by decide) (br_f (by decide) (br_f (by decide) (br_f (by decide) (br_f (by decide) (⟨by rw [e1]; exact vp_in_nI (by omega) (by decide), ?_⟩)))))
    rw [e1, nI_clamp (n := (240 + k) * 3 + 1) (by omega), b2]
    refine cz_kindOf hN hY hY5 b1 ?_
    refine br_t (by decide) ?_
    exact br_f (by decide) (br_f (by decide) (br_f (by decide) (br_f (by decide) (cz_yes2 hp))))
  · rw [cn_ok_ar (yo := (fun j => op (240 + j))) (k := k) (Or.inr (Or.inr (Or.inl eo)))] at hp
    obtain ⟨a1, a2⟩ := kid 0 (by decide)
    refine br_f (by decide) (br_f (by decide) (br_f (by decide) (br_f (by decide) (⟨by rw [e0]; exact vp_in_nI (by omega) (by decide), ?_⟩))))
    rw [e0, nI_clamp (n := (240 + k) * 3) (by omega), show prt ((240 + k) * 3) = nI (240 + yp k 0) from a2]
    refine cz_kindOf hN hY hY5 a1 ?_
    obtain ⟨b1, b2⟩ := kid 1 (by decide)
    refine br_f (by decide) (br_f (by decide) (br_f (by decide) (br_f (by decide) (br_f (by decide) (⟨by rw [e1]; exact vp_in_nI (by omega) (by decide), ?_⟩)))))
    rw [e1, nI_clamp (n := (240 + k) * 3 + 1) (by omega), b2]
    refine cz_kindOf hN hY hY5 b1 ?_
    refine br_t (by decide) ?_
    exact br_f (by decide) (br_f (by decide) (br_f (by decide) (br_f (by decide) (cz_yes2 hp))))
  · rw [cn_ok_ar (yo := (fun j => op (240 + j))) (k := k) (Or.inr (Or.inr (Or.inr (Or.inl eo))))] at hp
    obtain ⟨a1, a2⟩ := kid 0 (by decide)
    refine br_f (by decide) (br_f (by decide) (br_f (by decide) (br_f (by decide) (⟨by rw [e0]; exact vp_in_nI (by omega) (by decide), ?_⟩))))
    rw [e0, nI_clamp (n := (240 + k) * 3) (by omega), show prt ((240 + k) * 3) = nI (240 + yp k 0) from a2]
    refine cz_kindOf hN hY hY5 a1 ?_
    obtain ⟨b1, b2⟩ := kid 1 (by decide)
    refine br_f (by decide) (br_f (by decide) (br_f (by decide) (br_f (by decide) (br_f (by decide) (⟨by rw [e1]; exact vp_in_nI (by omega) (by decide), ?_⟩)))))
    rw [e1, nI_clamp (n := (240 + k) * 3 + 1) (by omega), b2]
    refine cz_kindOf hN hY hY5 b1 ?_
    refine br_t (by decide) ?_
    exact br_f (by decide) (br_f (by decide) (br_f (by decide) (br_f (by decide) (cz_yes2 hp))))
  · rw [cn_ok_ar (yo := (fun j => op (240 + j))) (k := k) (Or.inr (Or.inr (Or.inr (Or.inr eo))))] at hp
    obtain ⟨a1, a2⟩ := kid 0 (by decide)
    refine br_f (by decide) (br_f (by decide) (br_f (by decide) (br_f (by decide) (⟨by rw [e0]; exact vp_in_nI (by omega) (by decide), ?_⟩))))
    rw [e0, nI_clamp (n := (240 + k) * 3) (by omega), show prt ((240 + k) * 3) = nI (240 + yp k 0) from a2]
    refine cz_kindOf hN hY hY5 a1 ?_
    obtain ⟨b1, b2⟩ := kid 1 (by decide)
    refine br_f (by decide) (br_f (by decide) (br_f (by decide) (br_f (by decide) (br_f (by decide) (⟨by rw [e1]; exact vp_in_nI (by omega) (by decide), ?_⟩)))))
    rw [e1, nI_clamp (n := (240 + k) * 3 + 1) (by omega), b2]
    refine cz_kindOf hN hY hY5 b1 ?_
    refine br_t (by decide) ?_
    exact br_f (by decide) (br_f (by decide) (br_f (by decide) (br_f (by decide) (cz_yes2 hp))))
  · rw [cn_ok_leaf (yo := (fun j => op (240 + j))) (k := k) (Or.inr (Or.inr (Or.inr eo)))] at hp
    exact br_f (by decide) (br_f (by decide) (br_f (by decide) (br_t rfl hp)))
  · rw [cn_ok_qn (yo := (fun j => op (240 + j))) (k := k) (Or.inl eo)] at hp
    obtain ⟨a1, a2⟩ := kid 0 (by decide)
    refine br_f (by decide) (br_f (by decide) (br_f (by decide) (br_f (by decide) (⟨by rw [e0]; exact vp_in_nI (by omega) (by decide), ?_⟩))))
    rw [e0, nI_clamp (n := (240 + k) * 3) (by omega), show prt ((240 + k) * 3) = nI (240 + yp k 0) from a2]
    refine cz_kindOf hN hY hY5 a1 ?_
    obtain ⟨b1, b2⟩ := kid 1 (by decide)
    refine br_f (by decide) (br_f (by decide) (br_f (by decide) (br_f (by decide) (br_f (by decide) (⟨by rw [e1]; exact vp_in_nI (by omega) (by decide), ?_⟩)))))
    rw [e1, nI_clamp (n := (240 + k) * 3 + 1) (by omega), b2]
    refine cz_kindOf hN hY hY5 b1 ?_
    refine br_f (by decide) ?_
    have e22 : (if (fun j => op (240 + j)) k = 22 then (1 : Int32) else 2) = 2 := by show (if op (240 + k) = 22 then (1 : Int32) else 2) = 2; rw [eo]; rfl
    have h2 := cz_yes2 (x := cn_k (fun j => op (240 + j)) (fun j => nm (240 + j)) yrk yp (yp k 0)) (y := 4) (x' := cn_k (fun j => op (240 + j)) (fun j => nm (240 + j)) yrk yp (yp k 1)) hp
    rw [e22] at h2
    exact ⟨fun z => br_f (by decide) (h2.1 z), fun z => h2.2 z⟩
  · rw [cn_ok_qn (yo := (fun j => op (240 + j))) (k := k) (Or.inr (Or.inl eo))] at hp
    obtain ⟨a1, a2⟩ := kid 0 (by decide)
    refine br_f (by decide) (br_f (by decide) (br_f (by decide) (br_f (by decide) (⟨by rw [e0]; exact vp_in_nI (by omega) (by decide), ?_⟩))))
    rw [e0, nI_clamp (n := (240 + k) * 3) (by omega), show prt ((240 + k) * 3) = nI (240 + yp k 0) from a2]
    refine cz_kindOf hN hY hY5 a1 ?_
    obtain ⟨b1, b2⟩ := kid 1 (by decide)
    refine br_f (by decide) (br_f (by decide) (br_f (by decide) (br_f (by decide) (br_f (by decide) (⟨by rw [e1]; exact vp_in_nI (by omega) (by decide), ?_⟩)))))
    rw [e1, nI_clamp (n := (240 + k) * 3 + 1) (by omega), b2]
    refine cz_kindOf hN hY hY5 b1 ?_
    refine br_f (by decide) ?_
    have e22 : (if (fun j => op (240 + j)) k = 22 then (1 : Int32) else 2) = 2 := by show (if op (240 + k) = 22 then (1 : Int32) else 2) = 2; rw [eo]; rfl
    have h2 := cz_yes2 (x := cn_k (fun j => op (240 + j)) (fun j => nm (240 + j)) yrk yp (yp k 0)) (y := 4) (x' := cn_k (fun j => op (240 + j)) (fun j => nm (240 + j)) yrk yp (yp k 1)) hp
    rw [e22] at h2
    exact ⟨fun z => br_f (by decide) (h2.1 z), fun z => h2.2 z⟩
  · rw [cn_ok_qn (yo := (fun j => op (240 + j))) (k := k) (Or.inr (Or.inr eo))] at hp
    obtain ⟨a1, a2⟩ := kid 0 (by decide)
    refine br_f (by decide) (br_f (by decide) (br_f (by decide) (br_f (by decide) (⟨by rw [e0]; exact vp_in_nI (by omega) (by decide), ?_⟩))))
    rw [e0, nI_clamp (n := (240 + k) * 3) (by omega), show prt ((240 + k) * 3) = nI (240 + yp k 0) from a2]
    refine cz_kindOf hN hY hY5 a1 ?_
    obtain ⟨b1, b2⟩ := kid 1 (by decide)
    refine br_f (by decide) (br_f (by decide) (br_f (by decide) (br_f (by decide) (br_f (by decide) (⟨by rw [e1]; exact vp_in_nI (by omega) (by decide), ?_⟩)))))
    rw [e1, nI_clamp (n := (240 + k) * 3 + 1) (by omega), b2]
    refine cz_kindOf hN hY hY5 b1 ?_
    refine br_f (by decide) ?_
    have e22 : (if (fun j => op (240 + j)) k = 22 then (1 : Int32) else 2) = 1 := by show (if op (240 + k) = 22 then (1 : Int32) else 2) = 1; rw [eo]; rfl
    have h2 := cz_yes2 (x := cn_k (fun j => op (240 + j)) (fun j => nm (240 + j)) yrk yp (yp k 0)) (y := 4) (x' := cn_k (fun j => op (240 + j)) (fun j => nm (240 + j)) yrk yp (yp k 1)) hp
    rw [e22] at h2
    exact ⟨fun z => br_t rfl (h2.1 z), fun z => h2.2 z⟩
  · rw [cn_ok_23 (yo := (fun j => op (240 + j))) (k := k) eo] at hp
    obtain ⟨a1, a2⟩ := kid 0 (by decide)
    refine br_f (by decide) (br_f (by decide) (br_f (by decide) (br_f (by decide) (⟨by rw [e0]; exact vp_in_nI (by omega) (by decide), ?_⟩))))
    rw [e0, nI_clamp (n := (240 + k) * 3) (by omega), show prt ((240 + k) * 3) = nI (240 + yp k 0) from a2]
    refine cz_kindOf hN hY hY5 a1 ?_
    exact br_f (by decide) (br_f (by decide) (br_f (by decide) (br_t rfl (cz_yes hp))))
end
