section
variable {oc tc cp lc sc kc dp vc er ep uu : Int32} {cls num lnk lsz lit fb tk tv rk rl ro ra rt rp oo co sk kd fr fn fi vs ll li lt : Nat → Int32}
theorem cd_adopt {post : SX → Prop} {r len : Nat} {kind : Int32} (hr : r < 6) (hl : rl 6 = nI len) (h40 : len ≤ 40) (H : ∀ ro' ra' rt' rp' : Nat → Int32, (∀ j, j < len → ro' (r * 40 + j) = ro (240 + j) ∧ ra' (r * 40 + j) = ra (240 + j) ∧ rt' (r * 40 + j) = rt (240 + j) ∧ rp' (r * 40 + j) = rp (240 + j)) → (∀ j, j < r * 40 ∨ r * 40 + 40 ≤ j → ro' j = ro j ∧ ra' j = ra j ∧ rt' j = rt j ∧ rp' j = rp j) → post (oc, 0, cp, lc, sc, kc, dp, vc, er, ep, uu, cls, num, lnk, lsz, lit, fb, tk, tv, upd rk r kind, upd rl r (nI len), ro', ra', rt', rp', oo, co, sk, kd, fr, fn, fi, vs, ll, li, lt)) : wpX_adoptDraft post (oc, tc, cp, lc, sc, kc, dp, vc, er, ep, uu, cls, num, lnk, lsz, lit, fb, tk, tv, rk, rl, ro, ra, rt, rp, oo, co, sk, kd, fr, fn, fi, vs, ll, li, lt) (nI r) kind := by
  have loop : ∀ (d c : Nat) (ro1 ra1 rt1 rp1 : Nat → Int32), c + d = len → (∀ j, j < c → ro1 (r * 40 + j) = ro (240 + j) ∧ ra1 (r * 40 + j) = ra (240 + j) ∧ rt1 (r * 40 + j) = rt (240 + j) ∧ rp1 (r * 40 + j) = rp (240 + j)) → (∀ j, j < r * 40 ∨ r * 40 + 40 ≤ j → ro1 j = ro j ∧ ra1 j = ra j ∧ rt1 j = rt j ∧ rp1 j = rp j) → wX_adoptDraft_8 post (nI r) kind (nI (r * 40)) oc tc cp lc sc kc dp vc er ep uu (d + 1) (nI c) cls num lnk lsz lit fb tk tv rk rl ro1 ra1 rt1 rp1 oo co sk kd fr fn fi vs ll li lt := by
    intro d
    induction d with
    | zero =>
      intro c ro1 ra1 rt1 rp1 hc h1 h2
      have hcl : c = len := by omega
      subst hcl
      refine br_t (by rw [hl]; exact nI_le (Nat.le_refl _) (by omega)) ⟨vp_in_nI (by omega) (by decide), nm_r (e' := upd rl r (nI c)) (by rw [nI_clamp (by omega), hl]) ⟨vp_in_nI (by omega) (by decide), nm_r (e' := upd rk r kind) (by rw [nI_clamp (by omega)]) (H ro1 ra1 rt1 rp1 h1 h2)⟩⟩
    | succ d ih =>
      intro c ro1 ra1 rt1 rp1 hc h1 h2
      have e1 : 240 + nI c = nI (240 + c) := nI_add 240 c
      have e2 : nI (r * 40) + nI c = nI (r * 40 + c) := nI_add _ _
      have c1 : (240 + nI c).toNatClampNeg = 240 + c := by rw [e1, nI_clamp (by omega)]
      have c2 : (nI (r * 40) + nI c).toNatClampNeg = r * 40 + c := by rw [e2, nI_clamp (by omega)]
      have i1 : vp_in (240 + nI c) 280 := by rw [e1]; exact vp_in_nI (by omega) (by decide)
      have i2 : vp_in (nI (r * 40) + nI c) 280 := by rw [e2]; exact vp_in_nI (by omega) (by decide)
      obtain ⟨g1, g2, g3, g4⟩ := h2 (240 + c) (by omega)
      refine br_f (by rw [hl]; exact nI_ge (by omega) (by omega)) ⟨i1, i2, nm_r (e' := upd ro1 (r * 40 + c) (ro (240 + c))) (by rw [c1, c2, g1]) ⟨i1, i2, nm_r (e' := upd ra1 (r * 40 + c) (ra (240 + c))) (by rw [c1, c2, g2]) ⟨i1, i2, nm_r (e' := upd rt1 (r * 40 + c) (rt (240 + c))) (by rw [c1, c2, g3]) ⟨i1, i2, nm_r (e' := upd rp1 (r * 40 + c) (rp (240 + c))) (by rw [c1, c2, g4]) (nm_r (nI_1 c) (ih (c + 1) _ _ _ _ (by omega) (fun j hj => ?_) (fun j hj => ?_)))⟩⟩⟩⟩
      · by_cases z : j = c
        · subst z; exact ⟨pk_us, pk_us, pk_us, pk_us⟩
        · rw [pk_un (by omega), pk_un (by omega), pk_un (by omega), pk_un (by omega)]; exact h1 j (by omega)
      · rw [pk_un (by omega), pk_un (by omega), pk_un (by omega), pk_un (by omega)]; exact h2 j hj
  exact nm_r (e' := nI (r * 40)) (gr_mul r 40 rfl) ⟨_, loop len 0 ro ra rt rp (by omega) (fun j hj => absurd hj (by omega)) (fun j _ => ⟨rfl, rfl, rfl, rfl⟩)⟩
end
section
variable {ob tks pl nds sts res era usd sp lv ret out : Int32} {ycls prp lst siz dnd tok val opd yrk rn op nm ay prt ylo yhi sN sP sX sK it vr : Nat → Int32}
theorem cd_sh (r k : Nat) : nI (240 + k) + (nI (r * 40) - 240) = nI (r * 40 + k) := by
  rw [← nI_add 240 k, ← nI_add (r * 40) k]
  show 240 + nI k + (nI (r * 40) - 240) = nI (r * 40) + nI k
  grind
theorem cd_ycopy {post : Int32 → SY → Prop} {r N : Nat} {kind : Int32} (hr : r < 6) (hN : N ≤ 40) (H : ∀ op' nm' ay' prt' : Nat → Int32, (∀ j, j < N → op' (r * 40 + j) = op (240 + j) ∧ nm' (r * 40 + j) = nm (240 + j) ∧ ay' (r * 40 + j) = ay (240 + j)) → (∀ j i, j < N → i < 3 → prt' ((r * 40 + j) * 3 + i) = prt ((240 + j) * 3 + i) + (nI (r * 40) - 240)) → (∀ j, j < r * 40 ∨ r * 40 + 40 ≤ j → op' j = op j ∧ nm' j = nm j ∧ ay' j = ay j) → (∀ j, j < r * 40 * 3 ∨ (r * 40 + 40) * 3 ≤ j → prt' j = prt j) → post 1 (ob, 0, (-1), nI (240 + N), sts, res, era, usd, sp, lv, ret, out, ycls, prp, lst, siz, dnd, tok, val, opd, upd yrk r kind, upd rn r (nI N), op', nm', ay', prt', ylo, yhi, sN, sP, sX, sK, it, vr)) : wY_compile_222 post (nI r) kind ob tks pl (nI (240 + N)) sts res era usd sp lv ret out ycls prp lst siz dnd tok val opd yrk rn op nm ay prt ylo yhi sN sP sX sK it vr := by
  have loop : ∀ (d k : Nat) (op1 nm1 ay1 prt1 : Nat → Int32), k + d = N → (∀ j, j < k → op1 (r * 40 + j) = op (240 + j) ∧ nm1 (r * 40 + j) = nm (240 + j) ∧ ay1 (r * 40 + j) = ay (240 + j)) → (∀ j i, j < k → i < 3 → prt1 ((r * 40 + j) * 3 + i) = prt ((240 + j) * 3 + i) + (nI (r * 40) - 240)) → (∀ j, j < r * 40 ∨ r * 40 + 40 ≤ j → op1 j = op j ∧ nm1 j = nm j ∧ ay1 j = ay j) → (∀ j, j < r * 40 * 3 ∨ (r * 40 + 40) * 3 ≤ j → prt1 j = prt j) → wY_compile_258 post (nI (r * 40) - 240) ob tks pl (nI (240 + N)) sts res era usd sp lv ret out (d + 1) (nI (240 + k)) ycls prp lst siz dnd tok val opd (upd yrk r kind) (upd rn r (nI N)) op1 nm1 ay1 prt1 ylo yhi sN sP sX sK it vr := by
    intro d
    induction d with
    | zero =>
      intro k op1 nm1 ay1 prt1 hk h1 h2 h3 h4
      have : k = N := by omega
      subst this
      exact br_t (nI_le (Nat.le_refl _) (by omega)) (H op1 nm1 ay1 prt1 h1 h2 h3 h4)
    | succ d ih =>
      intro k op1 nm1 ay1 prt1 hk h1 h2 h3 h4
      have ck : (nI (240 + k)).toNatClampNeg = 240 + k := nI_clamp (by omega)
      have ik : vp_in (nI (240 + k)) 280 := vp_in_nI (by omega) (by decide)
      have cs : (nI (240 + k) + (nI (r * 40) - 240)).toNatClampNeg = r * 40 + k := by rw [cd_sh, nI_clamp (by omega)]
      have is : vp_in (nI (240 + k) + (nI (r * 40) - 240)) 280 := by rw [cd_sh]; exact vp_in_nI (by omega) (by decide)
      obtain ⟨g1, g2, g3⟩ := h3 (240 + k) (by omega)
      have inner : ∀ (e i : Nat) (prt2 : Nat → Int32), i + e = 3 → (∀ j i', j < k → i' < 3 → prt2 ((r * 40 + j) * 3 + i') = prt ((240 + j) * 3 + i') + (nI (r * 40) - 240)) → (∀ i', i' < i → prt2 ((r * 40 + k) * 3 + i') = prt ((240 + k) * 3 + i') + (nI (r * 40) - 240)) → (∀ j, j < r * 40 * 3 ∨ (r * 40 + 40) * 3 ≤ j → prt2 j = prt j) → wY_compile_321 post (wY_compile_258 post (nI (r * 40) - 240) ob tks pl (nI (240 + N)) sts res era usd sp lv ret out (d + 1)) (nI (240 + k)) (nI (r * 40) - 240) ob tks pl (nI (240 + N)) sts res era usd sp lv ret out (e + 1) (nI i) ycls prp lst siz dnd tok val opd (upd yrk r kind) (upd rn r (nI N)) (upd op1 (r * 40 + k) (op (240 + k))) (upd nm1 (r * 40 + k) (nm (240 + k))) (upd ay1 (r * 40 + k) (ay (240 + k))) prt2 ylo yhi sN sP sX sK it vr := by
        intro e
        induction e with
        | zero =>
          intro i prt2 hi p1 p2 p3
          have : i = 3 := by omega
          subst this
          refine br_t (by decide) (nm_r (nI_1 (240 + k)) ?_)
          rw [show 240 + k + 1 = 240 + (k + 1) by omega]
          refine ih (k + 1) _ _ _ prt2 (by omega) (fun j hj => ?_) (fun j i' hj hi' => ?_) (fun j hj => ?_) p3
          · by_cases z : j = k
            · subst z; exact ⟨pk_us, pk_us, pk_us⟩
            · rw [pk_un (by omega), pk_un (by omega), pk_un (by omega)]; exact h1 j (by omega)
          · by_cases z : j = k
            · subst z; exact p2 i' hi'
            · exact p1 j i' (by omega) hi'
          · rw [pk_un (by omega), pk_un (by omega), pk_un (by omega)]; exact h3 j hj
        | succ e ihe =>
          intro i prt2 hi p1 p2 p3
          have e1 : nI (240 + k) * 3 + nI i = nI ((240 + k) * 3 + i) := gr_lin (240 + k) 3 i rfl rfl
          have e2 : (nI (240 + k) + (nI (r * 40) - 240)) * 3 + nI i = nI ((r * 40 + k) * 3 + i) := by rw [cd_sh]; exact gr_lin (r * 40 + k) 3 i rfl rfl
          refine br_f (nI_ge (b := 3) (by omega) (by decide)) ⟨by rw [e1]; exact vp_in_nI (by omega) (by decide), by rw [e2]; exact vp_in_nI (by omega) (by decide), nm_r (e' := upd prt2 ((r * 40 + k) * 3 + i) (prt ((240 + k) * 3 + i) + (nI (r * 40) - 240))) (by rw [e1, e2, nI_clamp (by omega), nI_clamp (by omega), p3 _ (by omega)]) (nm_r (nI_1 i) (ihe (i + 1) _ (by omega) (fun j i' hj hi' => ?_) (fun i' hi' => ?_) (fun j hj => ?_)))⟩
          · rw [pk_un (by omega)]; exact p1 j i' hj hi'
          · by_cases z : i' = i
            · subst z; exact pk_us
            · rw [pk_un (by omega)]; exact p2 i' (by omega)
          · rw [pk_un (by omega)]; exact p3 j hj
      refine br_f (nI_ge (by omega) (by omega)) ⟨ik, is, nm_r (e' := upd op1 (r * 40 + k) (op (240 + k))) (by rw [ck, cs, g1]) ⟨ik, is, nm_r (e' := upd nm1 (r * 40 + k) (nm (240 + k))) (by rw [ck, cs, g2]) ⟨ik, is, nm_r (e' := upd ay1 (r * 40 + k) (ay (240 + k))) (by rw [ck, cs, g3]) ⟨4, inner 3 0 prt1 (by omega) h2 (fun i' hi' => absurd hi' (by omega)) h4⟩⟩⟩⟩
  have cr : (nI r).toNatClampNeg = r := nI_clamp (by omega)
  refine ⟨vp_in_nI hr (by decide), nm_r (e' := upd yrk r kind) (by rw [cr]) ⟨vp_in_nI hr (by decide), nm_r (e' := upd rn r (nI N)) (by rw [cr, show (240 : Int32) = nI 240 from rfl, pk_sub (by omega), Nat.add_sub_cancel_left]) (nm_r (e' := nI (r * 40) - 240) (by rw [show nI r * 40 = nI (r * 40) from gr_mul r 40 rfl]) ⟨N + 1, loop N 0 op nm ay prt (by omega) (fun j hj => absurd hj (by omega)) (fun j i hj => absurd hj (by omega)) (fun j _ => ⟨rfl, rfl, rfl⟩) (fun j _ => rfl)⟩)⟩⟩
end
