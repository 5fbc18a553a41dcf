/-- an array with new cells from b on -/
def cs_ups (f : Nat → Int32) (b : Nat) : List Int32 → Nat → Int32
  | [] => f
  | x :: r => cs_ups (upd f b x) (b + 1) r
def cs_ids (nd : Nat) : Nat → List Int32
  | 0 => []
  | k + 1 => nI nd :: cs_ids (nd + 1) k
/-- the root of the span l .. u-1: its node's t, v, p and the spans of its children -/
def cs_L (T : Nat → Nat) (tv : Nat → Int32) (n : Nat) : Nat → Nat → Nat → Int32 → Int32 → Nat → List (Nat × Nat) → Prop
  | 0 => fun _ _ _ _ _ _ => False
  | f + 1 => fun l u t v p ch => ca_V T n l u ∧ (
      (T l = 6 ∧ T (u - 1) = 7 ∧ ca_Z T (u - 1) = (l, l) :: ca_Z T l ∧ ca_Z T (l + 1) = (l, l) :: ca_Z T l ∧ cs_L T tv n f (l + 1) (u - 1) t v p ch) ∨
      (u = l + 1 ∧ (T l = 0 ∨ T l = 3 ∨ T l = 4 ∨ T l = 19) ∧ t = nI (T l) ∧ v = tv l ∧ p = l ∧ ch = []) ∨
      ((T (u - 1) = 1 ∨ T (u - 1) = 2) ∧ l + 1 < u ∧ ca_N T l u ∧ t = nI (T (u - 1)) ∧ v = tv (u - 1) ∧ p = u - 1 ∧ ch = [(l, u - 1)] ∧ ca_V T n l (u - 1) ∧ T l ≠ 12 ∧ T l ≠ 16) ∨
      (T l = 5 ∧ T (l + 1) = 6 ∧ T (u - 1) = 7 ∧ ca_Z T (u - 1) = (l, l) :: ca_Z T l ∧ ca_Z T (l + 2) = (l, l) :: ca_Z T l ∧ t = 5 ∧ v = tv l ∧ p = l ∧ ch = [(l + 2, u - 1)] ∧ ca_V T n (l + 2) (u - 1)) ∨
      (∃ m, 20 ≤ T l ∧ T (l + 1) = 6 ∧ T m = 9 ∧ T (u - 1) = 7 ∧ ca_Z T m = (l, l) :: ca_Z T l ∧ ca_Z T (l + 2) = (l, l) :: ca_Z T l ∧ ca_Z T (m + 1) = (m, l) :: ca_Z T l ∧ ca_Z T (u - 1) = (m, l) :: ca_Z T l ∧ t = nI (T l) ∧ v = tv l ∧ p = l ∧ ch = [(l + 2, m), (m + 1, u - 1)] ∧ ca_V T n (l + 2) m ∧ ca_V T n (m + 1) (u - 1)) ∨
      ((T l = 12 ∧ t = 12 ∨ T l = 16 ∧ t = 23) ∧ ca_N T l u ∧ v = tv l ∧ p = l ∧ ch = [(l + 1, u)] ∧ ca_V T n (l + 1) u ∧ ca_Z T (l + 1) = ca_Z T l) ∨
      (∃ c, l < c ∧ c < u ∧ (∀ j, l < j → j < u → T j = 8 → ca_h T j ≠ ca_h T l) ∧ ca_op T l c ∧ (∀ j, l < j → j < u → ca_op T l j → ca_wt (T c) ≤ ca_wt (T j) ∧ (c < j → ca_wt (T c) < ca_wt (T j))) ∧ t = nI (T c) ∧ v = tv c ∧ p = c ∧ ch = [(l, c), (c + 1, u)] ∧ ca_V T n l c ∧ ca_V T n (c + 1) u ∧ ca_Z T (c + 1) = ca_Z T l) ∨
      (∃ c m, T c = 8 ∧ T m = 9 ∧ l < c ∧ c + 1 < m ∧ m + 1 < u ∧ ca_h T c = ca_h T l ∧ (∀ j, l < j → j < c → T j = 8 → ca_h T j ≠ ca_h T l) ∧ ca_Z T m = (c, c) :: ca_Z T l ∧ ca_Z T (c + 1) = (c, c) :: ca_Z T l ∧ ca_Z T (m + 1) = ca_Z T l ∧ t = 8 ∧ v = tv c ∧ p = c ∧ ch = [(l, c), (c + 1, m), (m + 1, u)] ∧ ca_V T n l c ∧ ca_V T n (c + 1) m ∧ ca_V T n (m + 1) u))
section
variable {ob pl sts res era usd sp lv ret out : Int32} {ycls prp lst siz dnd opd yrk rn op nm ay prt ylo yhi sN sP sX sK it vr tk tv : Nat → Int32} {n nd K : Nat} {T : Nat → Nat}
theorem cs_add {Q : Int32 → SY → Prop} {a b : Int32} (hd : nd < 280) (h : Q (nI nd) (ob, nI n, pl, nI (nd + 1), sts, res, era, usd, sp, lv, ret, out, ycls, prp, lst, siz, dnd, tk, tv, opd, yrk, rn, op, nm, ay, prt, upd ylo nd a, upd yhi nd b, sN, sP, sX, sK, it, vr)) : wpY_add Q (ob, nI n, pl, nI nd, sts, res, era, usd, sp, lv, ret, out, ycls, prp, lst, siz, dnd, tk, tv, opd, yrk, rn, op, nm, ay, prt, ylo, yhi, sN, sP, sX, sK, it, vr) a b := by
  have c : (nI nd).toNatClampNeg = nd := nI_clamp (by omega)
  exact ⟨vp_in_nI hd (by decide), nm_r (by rw [c]) ⟨vp_in_nI hd (by decide), nm_r (by rw [c]) (nm_r (nI_1 nd) h)⟩⟩
theorem cs_two {post : SY → Prop} {l u c : Nat} {z t s2 : Int32} (hK280 : K < 280) (hc40 : c < 40) (h8 : ¬ t = 8) (hd : nd + 2 ≤ 280) (hp : post (ob, nI n, pl, nI (nd + [(l, c), (c + 1, u)].length), sts, res, era, usd, sp, lv, ret, out, ycls, prp, lst, siz, dnd, tk, tv, opd, yrk, rn, upd op K z, upd nm K (tv c), upd ay K (nI c), cs_ups prt (K * 3) (cs_ids nd [(l, c), (c + 1, u)].length), cs_ups ylo nd ([(l, c), (c + 1, u)].map (fun c => nI c.1)), cs_ups yhi nd ([(l, c), (c + 1, u)].map (fun c => nI c.2)), sN, sP, sX, sK, it, vr)) : wY_split_239 post (nI K) (nI l) (nI u) (nI c) 1 s2 t z (nI K) ob (nI n) pl (nI nd) sts res era usd sp lv ret out ycls prp lst siz dnd (tk) (tv) opd yrk rn op nm ay prt ylo yhi sN sP sX sK it vr := by
  have cK : (nI K).toNatClampNeg = K := nI_clamp (by omega)
  have iK : vp_in (nI K) 280 := vp_in_nI hK280 (by decide)
  have k0 : nI K * 3 = nI (K * 3) := gr_mul K 3 rfl
  have k1 : nI K * 3 + 1 = nI (K * 3 + 1) := gr_lin K 3 1 rfl rfl
  have k2 : nI K * 3 + 2 = nI (K * 3 + 2) := gr_lin K 3 2 rfl rfl
  have j0 : (nI (K * 3)).toNatClampNeg = K * 3 := nI_clamp (by omega)
  have j1 : (nI (K * 3 + 1)).toNatClampNeg = K * 3 + 1 := nI_clamp (by omega)
  have j2 : (nI (K * 3 + 2)).toNatClampNeg = K * 3 + 2 := nI_clamp (by omega)
  have i0 : vp_in (nI K * 3) 840 := by rw [k0]; exact vp_in_nI (by omega) (by decide)
  have i1 : vp_in (nI K * 3 + 1) 840 := by rw [k1]; exact vp_in_nI (by omega) (by decide)
  have i2 : vp_in (nI K * 3 + 2) 840 := by rw [k2]; exact vp_in_nI (by omega) (by decide)
  refine ⟨iK, nm_r (e' := upd op K z) (by rw [cK]) ⟨vp_in_nI hc40 (by decide), iK, nm_r (e' := upd nm K (tv c)) (by rw [cK, nI_clamp (by omega)]) ⟨iK, nm_r (e' := upd ay K (nI c)) (by rw [cK]) ?_⟩⟩⟩
  refine br_f h8 (br_f (by decide) ?_)
  refine cs_add (by omega) ⟨i0, nm_r (e' := upd prt (K * 3) (nI nd)) (by rw [k0, j0]) ?_⟩
  rw [nI_1 c]
  exact cs_add (nd := nd + 1) (by omega) ⟨i1, nm_r (e' := upd (upd prt (K * 3) (nI nd)) (K * 3 + 1) (nI (nd + 1))) (by rw [k1, j1]) hp⟩
theorem cs_side {post : SY → Prop} {l u c : Nat} {z t : Int32} (hK280 : K < 280) (hc40 : c < 40) (h8 : ¬ t = 8) (hd : nd + 1 ≤ 280) (hp : post (ob, nI n, pl, nI (nd + [(l + 1, u)].length), sts, res, era, usd, sp, lv, ret, out, ycls, prp, lst, siz, dnd, tk, tv, opd, yrk, rn, upd op K z, upd nm K (tv c), upd ay K (nI c), cs_ups prt (K * 3) (cs_ids nd [(l + 1, u)].length), cs_ups ylo nd ([(l + 1, u)].map (fun c => nI c.1)), cs_ups yhi nd ([(l + 1, u)].map (fun c => nI c.2)), sN, sP, sX, sK, it, vr)) : wY_split_239 post (nI K) (nI l) (nI u) (nI c) 0 1 t z (nI K) ob (nI n) pl (nI nd) sts res era usd sp lv ret out ycls prp lst siz dnd (tk) (tv) opd yrk rn op nm ay prt ylo yhi sN sP sX sK it vr := by
  have cK : (nI K).toNatClampNeg = K := nI_clamp (by omega)
  have iK : vp_in (nI K) 280 := vp_in_nI hK280 (by decide)
  have k0 : nI K * 3 = nI (K * 3) := gr_mul K 3 rfl
  have k1 : nI K * 3 + 1 = nI (K * 3 + 1) := gr_lin K 3 1 rfl rfl
  have k2 : nI K * 3 + 2 = nI (K * 3 + 2) := gr_lin K 3 2 rfl rfl
  have j0 : (nI (K * 3)).toNatClampNeg = K * 3 := nI_clamp (by omega)
  have j1 : (nI (K * 3 + 1)).toNatClampNeg = K * 3 + 1 := nI_clamp (by omega)
  have j2 : (nI (K * 3 + 2)).toNatClampNeg = K * 3 + 2 := nI_clamp (by omega)
  have i0 : vp_in (nI K * 3) 840 := by rw [k0]; exact vp_in_nI (by omega) (by decide)
  have i1 : vp_in (nI K * 3 + 1) 840 := by rw [k1]; exact vp_in_nI (by omega) (by decide)
  have i2 : vp_in (nI K * 3 + 2) 840 := by rw [k2]; exact vp_in_nI (by omega) (by decide)
  refine ⟨iK, nm_r (e' := upd op K z) (by rw [cK]) ⟨vp_in_nI hc40 (by decide), iK, nm_r (e' := upd nm K (tv c)) (by rw [cK, nI_clamp (by omega)]) ⟨iK, nm_r (e' := upd ay K (nI c)) (by rw [cK]) ?_⟩⟩⟩
  refine br_f h8 (br_t rfl (br_f (by decide) ?_))
  rw [nI_1 l]
  exact cs_add (by omega) ⟨i0, nm_r (e' := upd prt (K * 3) (nI nd)) (by rw [k0, j0]) hp⟩
theorem cs_post {post : SY → Prop} {l u c : Nat} {z t : Int32} (hK280 : K < 280) (hc40 : c < 40) (ht : t = 1 ∨ t = 2) (hd : nd + 1 ≤ 280) (hp : post (ob, nI n, pl, nI (nd + [(l, c)].length), sts, res, era, usd, sp, lv, ret, out, ycls, prp, lst, siz, dnd, tk, tv, opd, yrk, rn, upd op K z, upd nm K (tv c), upd ay K (nI c), cs_ups prt (K * 3) (cs_ids nd [(l, c)].length), cs_ups ylo nd ([(l, c)].map (fun c => nI c.1)), cs_ups yhi nd ([(l, c)].map (fun c => nI c.2)), sN, sP, sX, sK, it, vr)) : wY_split_239 post (nI K) (nI l) (nI u) (nI c) 0 0 t z (nI K) ob (nI n) pl (nI nd) sts res era usd sp lv ret out ycls prp lst siz dnd (tk) (tv) opd yrk rn op nm ay prt ylo yhi sN sP sX sK it vr := by
  have cK : (nI K).toNatClampNeg = K := nI_clamp (by omega)
  have iK : vp_in (nI K) 280 := vp_in_nI hK280 (by decide)
  have k0 : nI K * 3 = nI (K * 3) := gr_mul K 3 rfl
  have k1 : nI K * 3 + 1 = nI (K * 3 + 1) := gr_lin K 3 1 rfl rfl
  have k2 : nI K * 3 + 2 = nI (K * 3 + 2) := gr_lin K 3 2 rfl rfl
  have j0 : (nI (K * 3)).toNatClampNeg = K * 3 := nI_clamp (by omega)
  have j1 : (nI (K * 3 + 1)).toNatClampNeg = K * 3 + 1 := nI_clamp (by omega)
  have j2 : (nI (K * 3 + 2)).toNatClampNeg = K * 3 + 2 := nI_clamp (by omega)
  have i0 : vp_in (nI K * 3) 840 := by rw [k0]; exact vp_in_nI (by omega) (by decide)
  have i1 : vp_in (nI K * 3 + 1) 840 := by rw [k1]; exact vp_in_nI (by omega) (by decide)
  have i2 : vp_in (nI K * 3 + 2) 840 := by rw [k2]; exact vp_in_nI (by omega) (by decide)
  refine ⟨iK, nm_r (e' := upd op K z) (by rw [cK]) ⟨vp_in_nI hc40 (by decide), iK, nm_r (e' := upd nm K (tv c)) (by rw [cK, nI_clamp (by omega)]) ⟨iK, nm_r (e' := upd ay K (nI c)) (by rw [cK]) ?_⟩⟩⟩
  have n8 : ¬ t = 8 := by rcases ht with rfl | rfl <;> decide
  refine br_f n8 (br_t rfl (br_t rfl ?_))
  have fin : wY_split_413 post (nI K) (nI l) (nI c) ob (nI n) pl (nI nd) sts res era usd sp lv ret out ycls prp lst siz dnd (tk) (tv) opd yrk rn (upd op K z) (upd nm K (tv c)) (upd ay K (nI c)) prt ylo yhi sN sP sX sK it vr := cs_add (by omega) ⟨i0, nm_r (e' := upd prt (K * 3) (nI nd)) (by rw [k0, j0]) hp⟩
  rcases ht with rfl | rfl
  · exact br_t rfl fin
  · exact br_f (by decide) (br_t rfl fin)
theorem cs_call {post : SY → Prop} {l u c : Nat} {z t : Int32} (hK280 : K < 280) (hc40 : c < 40) (ht : t = 5) (hu : 1 ≤ u) (hd : nd + 1 ≤ 280) (hp : post (ob, nI n, pl, nI (nd + [(l + 2, u - 1)].length), sts, res, era, usd, sp, lv, ret, out, ycls, prp, lst, siz, dnd, tk, tv, opd, yrk, rn, upd op K z, upd nm K (tv c), upd ay K (nI c), cs_ups prt (K * 3) (cs_ids nd [(l + 2, u - 1)].length), cs_ups ylo nd ([(l + 2, u - 1)].map (fun c => nI c.1)), cs_ups yhi nd ([(l + 2, u - 1)].map (fun c => nI c.2)), sN, sP, sX, sK, it, vr)) : wY_split_239 post (nI K) (nI l) (nI u) (nI c) 0 0 t z (nI K) ob (nI n) pl (nI nd) sts res era usd sp lv ret out ycls prp lst siz dnd (tk) (tv) opd yrk rn op nm ay prt ylo yhi sN sP sX sK it vr := by
  have cK : (nI K).toNatClampNeg = K := nI_clamp (by omega)
  have iK : vp_in (nI K) 280 := vp_in_nI hK280 (by decide)
  have k0 : nI K * 3 = nI (K * 3) := gr_mul K 3 rfl
  have k1 : nI K * 3 + 1 = nI (K * 3 + 1) := gr_lin K 3 1 rfl rfl
  have k2 : nI K * 3 + 2 = nI (K * 3 + 2) := gr_lin K 3 2 rfl rfl
  have j0 : (nI (K * 3)).toNatClampNeg = K * 3 := nI_clamp (by omega)
  have j1 : (nI (K * 3 + 1)).toNatClampNeg = K * 3 + 1 := nI_clamp (by omega)
  have j2 : (nI (K * 3 + 2)).toNatClampNeg = K * 3 + 2 := nI_clamp (by omega)
  have i0 : vp_in (nI K * 3) 840 := by rw [k0]; exact vp_in_nI (by omega) (by decide)
  have i1 : vp_in (nI K * 3 + 1) 840 := by rw [k1]; exact vp_in_nI (by omega) (by decide)
  have i2 : vp_in (nI K * 3 + 2) 840 := by rw [k2]; exact vp_in_nI (by omega) (by decide)
  refine ⟨iK, nm_r (e' := upd op K z) (by rw [cK]) ⟨vp_in_nI hc40 (by decide), iK, nm_r (e' := upd nm K (tv c)) (by rw [cK, nI_clamp (by omega)]) ⟨iK, nm_r (e' := upd ay K (nI c)) (by rw [cK]) ?_⟩⟩⟩
  subst ht
  obtain ⟨u', rfl⟩ : ∃ u', u = u' + 1 := ⟨u - 1, by omega⟩
  refine br_f (by decide) (br_t rfl (br_t rfl (br_f (by decide) (br_f (by decide) (br_t rfl ?_)))))
  rw [show nI l + 2 = nI (l + 2) from nI_add l 2, nI_pred u']
  exact cs_add (by omega) ⟨i0, nm_r (e' := upd prt (K * 3) (nI nd)) (by rw [k0, j0]) hp⟩
theorem cs_leaf {post : SY → Prop} {l u c : Nat} {z t : Int32} (hK280 : K < 280) (hc40 : c < 40) (ht : t = 0 ∨ t = 3 ∨ t = 4 ∨ t = 19) (hp : post (ob, nI n, pl, nI (nd + ([] : List (Nat × Nat)).length), sts, res, era, usd, sp, lv, ret, out, ycls, prp, lst, siz, dnd, tk, tv, opd, yrk, rn, upd op K z, upd nm K (tv c), upd ay K (nI c), cs_ups prt (K * 3) (cs_ids nd ([] : List (Nat × Nat)).length), cs_ups ylo nd (([] : List (Nat × Nat)).map (fun c => nI c.1)), cs_ups yhi nd (([] : List (Nat × Nat)).map (fun c => nI c.2)), sN, sP, sX, sK, it, vr)) : wY_split_239 post (nI K) (nI l) (nI u) (nI c) 0 0 t z (nI K) ob (nI n) pl (nI nd) sts res era usd sp lv ret out ycls prp lst siz dnd (tk) (tv) opd yrk rn op nm ay prt ylo yhi sN sP sX sK it vr := by
  have cK : (nI K).toNatClampNeg = K := nI_clamp (by omega)
  have iK : vp_in (nI K) 280 := vp_in_nI hK280 (by decide)
  have k0 : nI K * 3 = nI (K * 3) := gr_mul K 3 rfl
  have k1 : nI K * 3 + 1 = nI (K * 3 + 1) := gr_lin K 3 1 rfl rfl
  have k2 : nI K * 3 + 2 = nI (K * 3 + 2) := gr_lin K 3 2 rfl rfl
  have j0 : (nI (K * 3)).toNatClampNeg = K * 3 := nI_clamp (by omega)
  have j1 : (nI (K * 3 + 1)).toNatClampNeg = K * 3 + 1 := nI_clamp (by omega)
  have j2 : (nI (K * 3 + 2)).toNatClampNeg = K * 3 + 2 := nI_clamp (by omega)
  have i0 : vp_in (nI K * 3) 840 := by rw [k0]; exact vp_in_nI (by omega) (by decide)
  have i1 : vp_in (nI K * 3 + 1) 840 := by rw [k1]; exact vp_in_nI (by omega) (by decide)
  have i2 : vp_in (nI K * 3 + 2) 840 := by rw [k2]; exact vp_in_nI (by omega) (by decide)
  refine ⟨iK, nm_r (e' := upd op K z) (by rw [cK]) ⟨vp_in_nI hc40 (by decide), iK, nm_r (e' := upd nm K (tv c)) (by rw [cK, nI_clamp (by omega)]) ⟨iK, nm_r (e' := upd ay K (nI c)) (by rw [cK]) ?_⟩⟩⟩
  rcases ht with rfl | rfl | rfl | rfl <;> exact br_f (by decide) (br_t rfl (br_t rfl (br_f (by decide) (br_f (by decide) (br_f (by decide) (br_t (by decide) hp))))))
theorem cs_qnt {post : SY → Prop} {l u c : Nat} {z t : Int32} (hK280 : K < 280) (hc40 : c < 40) (hn : n ≤ 40) (hK : ∀ i, i < n → tk i = nI (T i) ∧ T i < 23) (hA : ca_S T n = some (1, [])) {m : Nat} {e : Nat × Nat} {R : List (Nat × Nat)} (hw : ca_W T (l + 2) = 0) (hB : ca_Z T (l + 2) = e :: R) (hsuf : ∀ i, l + 2 ≤ i → i ≤ m → ∃ E, ca_Z T i = E ++ e :: R) (hm : m < n) (him : l + 2 ≤ m) (hZm : ca_Z T m = e :: R) (hWm : ca_W T m = 1) (hTm : T m = 9) (ht : t = 20 ∨ t = 21 ∨ t = 22) (hu : 1 ≤ u) (hd : nd + 2 ≤ 280) (hp : post (ob, nI n, pl, nI (nd + [(l + 2, m), (m + 1, u - 1)].length), sts, res, era, usd, sp, lv, ret, out, ycls, prp, lst, siz, dnd, tk, tv, opd, yrk, rn, upd op K z, upd nm K (tv c), upd ay K (nI c), cs_ups prt (K * 3) (cs_ids nd [(l + 2, m), (m + 1, u - 1)].length), cs_ups ylo nd ([(l + 2, m), (m + 1, u - 1)].map (fun c => nI c.1)), cs_ups yhi nd ([(l + 2, m), (m + 1, u - 1)].map (fun c => nI c.2)), sN, sP, sX, sK, it, vr)) : wY_split_239 post (nI K) (nI l) (nI u) (nI c) 0 0 t z (nI K) ob (nI n) pl (nI nd) sts res era usd sp lv ret out ycls prp lst siz dnd (tk) (tv) opd yrk rn op nm ay prt ylo yhi sN sP sX sK it vr := by
  have cK : (nI K).toNatClampNeg = K := nI_clamp (by omega)
  have iK : vp_in (nI K) 280 := vp_in_nI hK280 (by decide)
  have k0 : nI K * 3 = nI (K * 3) := gr_mul K 3 rfl
  have k1 : nI K * 3 + 1 = nI (K * 3 + 1) := gr_lin K 3 1 rfl rfl
  have k2 : nI K * 3 + 2 = nI (K * 3 + 2) := gr_lin K 3 2 rfl rfl
  have j0 : (nI (K * 3)).toNatClampNeg = K * 3 := nI_clamp (by omega)
  have j1 : (nI (K * 3 + 1)).toNatClampNeg = K * 3 + 1 := nI_clamp (by omega)
  have j2 : (nI (K * 3 + 2)).toNatClampNeg = K * 3 + 2 := nI_clamp (by omega)
  have i0 : vp_in (nI K * 3) 840 := by rw [k0]; exact vp_in_nI (by omega) (by decide)
  have i1 : vp_in (nI K * 3 + 1) 840 := by rw [k1]; exact vp_in_nI (by omega) (by decide)
  have i2 : vp_in (nI K * 3 + 2) 840 := by rw [k2]; exact vp_in_nI (by omega) (by decide)
  refine ⟨iK, nm_r (e' := upd op K z) (by rw [cK]) ⟨vp_in_nI hc40 (by decide), iK, nm_r (e' := upd nm K (tv c)) (by rw [cK, nI_clamp (by omega)]) ⟨iK, nm_r (e' := upd ay K (nI c)) (by rw [cK]) ?_⟩⟩⟩
  obtain ⟨u', rfl⟩ : ∃ u', u = u' + 1 := ⟨u - 1, by omega⟩
  refine br_f (fun z => by rcases ht with rfl | rfl | rfl <;> exact absurd z (by decide)) (br_t rfl (br_t rfl (br_f (fun z => by rcases ht with rfl | rfl | rfl <;> exact absurd z (by decide)) (br_f (fun z => by rcases ht with rfl | rfl | rfl <;> exact absurd z (by decide)) (br_f (fun z => by rcases ht with rfl | rfl | rfl <;> exact absurd z (by decide)) (br_f (fun z => by rcases ht with rfl | rfl | rfl <;> exact absurd z (by decide)) ?_))))))
  rw [show nI l + 2 = nI (l + 2) from nI_add l 2, nI_pred u']
  refine cy_colon hn hK hA hw hB hsuf hm him hZm hWm hTm ?_
  refine cs_add (by omega) ⟨i0, nm_r (e' := upd prt (K * 3) (nI nd)) (by rw [k0, j0]) ?_⟩
  rw [nI_1 m]
  exact cs_add (nd := nd + 1) (by omega) ⟨i1, nm_r (e' := upd (upd prt (K * 3) (nI nd)) (K * 3 + 1) (nI (nd + 1))) (by rw [k1, j1]) hp⟩
theorem cs_if {post : SY → Prop} {l u c : Nat} {z t x5 x6 : Int32} (hK280 : K < 280) (hc40 : c < 40) (hn : n ≤ 40) (hK : ∀ i, i < n → tk i = nI (T i) ∧ T i < 23) (hA : ca_S T n = some (1, [])) {m : Nat} {e : Nat × Nat} {R : List (Nat × Nat)} (hw : ca_W T (c + 1) = 0) (hB : ca_Z T (c + 1) = e :: R) (hsuf : ∀ i, c + 1 ≤ i → i ≤ m → ∃ E, ca_Z T i = E ++ e :: R) (hm : m < n) (him : c + 1 ≤ m) (hZm : ca_Z T m = e :: R) (hWm : ca_W T m = 1) (hTm : T m = 9) (ht : t = 8) (hd : nd + 3 ≤ 280) (hp : post (ob, nI n, pl, nI (nd + [(l, c), (c + 1, m), (m + 1, u)].length), sts, res, era, usd, sp, lv, ret, out, ycls, prp, lst, siz, dnd, tk, tv, opd, yrk, rn, upd op K z, upd nm K (tv c), upd ay K (nI c), cs_ups prt (K * 3) (cs_ids nd [(l, c), (c + 1, m), (m + 1, u)].length), cs_ups ylo nd ([(l, c), (c + 1, m), (m + 1, u)].map (fun c => nI c.1)), cs_ups yhi nd ([(l, c), (c + 1, m), (m + 1, u)].map (fun c => nI c.2)), sN, sP, sX, sK, it, vr)) : wY_split_239 post (nI K) (nI l) (nI u) (nI c) x5 x6 t z (nI K) ob (nI n) pl (nI nd) sts res era usd sp lv ret out ycls prp lst siz dnd (tk) (tv) opd yrk rn op nm ay prt ylo yhi sN sP sX sK it vr := by
  have cK : (nI K).toNatClampNeg = K := nI_clamp (by omega)
  have iK : vp_in (nI K) 280 := vp_in_nI hK280 (by decide)
  have k0 : nI K * 3 = nI (K * 3) := gr_mul K 3 rfl
  have k1 : nI K * 3 + 1 = nI (K * 3 + 1) := gr_lin K 3 1 rfl rfl
  have k2 : nI K * 3 + 2 = nI (K * 3 + 2) := gr_lin K 3 2 rfl rfl
  have j0 : (nI (K * 3)).toNatClampNeg = K * 3 := nI_clamp (by omega)
  have j1 : (nI (K * 3 + 1)).toNatClampNeg = K * 3 + 1 := nI_clamp (by omega)
  have j2 : (nI (K * 3 + 2)).toNatClampNeg = K * 3 + 2 := nI_clamp (by omega)
  have i0 : vp_in (nI K * 3) 840 := by rw [k0]; exact vp_in_nI (by omega) (by decide)
  have i1 : vp_in (nI K * 3 + 1) 840 := by rw [k1]; exact vp_in_nI (by omega) (by decide)
  have i2 : vp_in (nI K * 3 + 2) 840 := by rw [k2]; exact vp_in_nI (by omega) (by decide)
  refine ⟨iK, nm_r (e' := upd op K z) (by rw [cK]) ⟨vp_in_nI hc40 (by decide), iK, nm_r (e' := upd nm K (tv c)) (by rw [cK, nI_clamp (by omega)]) ⟨iK, nm_r (e' := upd ay K (nI c)) (by rw [cK]) ?_⟩⟩⟩
  refine br_t ht ?_
  rw [nI_1 c]
  refine cy_colon hn hK hA hw hB hsuf hm him hZm hWm hTm ?_
  refine cs_add (by omega) ⟨i0, nm_r (e' := upd prt (K * 3) (nI nd)) (by rw [k0, j0]) ?_⟩
  refine cs_add (nd := nd + 1) (by omega) ⟨i1, nm_r (e' := upd (upd prt (K * 3) (nI nd)) (K * 3 + 1) (nI (nd + 1))) (by rw [k1, j1]) ?_⟩
  rw [nI_1 m]
  exact cs_add (nd := nd + 2) (by omega) ⟨i2, nm_r (e' := upd (upd (upd prt (K * 3) (nI nd)) (K * 3 + 1) (nI (nd + 1))) (K * 3 + 2) (nI (nd + 2))) (by rw [k2, j2]) hp⟩
end
