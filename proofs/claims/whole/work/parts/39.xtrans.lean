def cx_J (T : Nat → Nat) (i : Nat) : Nat → Prop := fun o => ∃ j, j < i ∧ T j = 9 ∧ ca_o T j = o
theorem cx_J_n {T : Nat → Nat} {i x : Nat} (h : T i ≠ 9) (hx : cx_J T (i + 1) x) : cx_J T i x := by
  obtain ⟨j, h1, h2, h3⟩ := hx
  refine ⟨j, ?_, h2, h3⟩
  have : j ≠ i := by intro z; rw [z] at h2; exact h h2
  omega
section
variable {oc cp dp vc er ep uu lc sc kc : Int32} {cls num lnk lsz lit fb tk tv rk oo fr fn fi vs ll li lt rl ro ra rt rp co sk kd rl0 ro0 ra0 rt0 rp0 : Nat → Int32} {n b : Nat} {T : Nat → Nat} {J : Nat → Prop} {stk : List (Nat × Nat)} {ks : List Int32} {code : List cm_I} {lst : Nat}
theorem cx_aimk {post : SX → Prop} {i c : Nat} (hR : cx_R T J rl0 ro0 ra0 rt0 rp0 b stk ks code lst lc sc kc rl ro ra rt rp co sk kd) (hi : i < 40) (hco : co i = nI c) (hc : c < 40) (H : ∀ rt', cx_R T J rl0 ro0 ra0 rt0 rp0 b stk ks (cm_aim code c (nI code.length)) lst lc sc kc rl ro ra rt' rp co sk kd → post (oc, nI n, cp, lc, sc, kc, dp, vc, er, ep, uu, cls, num, lnk, lsz, lit, fb, tk, tv, rk, rl, ro, ra, rt', rp, oo, co, sk, kd, fr, fn, fi, vs, ll, li, lt)) : wpX_aimHere post (oc, nI n, cp, lc, sc, kc, dp, vc, er, ep, uu, cls, num, lnk, lsz, lit, fb, tk, tv, rk, rl, ro, ra, rt, rp, oo, co, sk, kd, fr, fn, fi, vs, ll, li, lt) (nI i) := by
  obtain ⟨h1, h2, h3, h4, h5, h6, h7, h8, h9, h10⟩ := hR
  have ci : co (nI i).toNatClampNeg = nI c := by rw [nI_clamp (by omega)]; exact hco
  have e : 240 + nI c = nI (240 + c) := nI_add 240 c
  refine ⟨vp_in_nI hi (by decide), by rw [ci, e]; exact vp_in_nI (by omega) (by decide), nm_r (e' := upd rt (240 + c) (nI code.length)) (by rw [ci, e, nI_clamp (by omega), h4]) (H _ ⟨h1, h2, h3, ?_, h5, h6, ?_, h8, h9, ?_⟩)⟩
  · rw [cm_aim_len]; exact h4
  · intro j x hx
    obtain ⟨y, y1, y2, y3, y4, y5⟩ := cm_aim_get code c _ j x hx
    obtain ⟨g1, g2, g3, g4⟩ := h7 j y y1
    rw [y2, y3, y4, y5]
    refine ⟨g1, g2, ?_, g4⟩
    by_cases z : j = c
    · rw [z, if_pos rfl, pk_us]
    · rw [if_neg z, pk_un (by omega)]; exact g3
  · intro j hj; rw [pk_un (by omega)]; exact h10 j hj
theorem cx_emitk {post : Int32 → SX → Prop} {p0 p1 p2 : Int32} (hR : cx_R T J rl0 ro0 ra0 rt0 rp0 b stk ks code lst lc sc kc rl ro ra rt rp co sk kd) (hc : code.length < 40) (H : ∀ rl' ro' ra' rt' rp', cx_R T J rl0 ro0 ra0 rt0 rp0 b stk ks (code ++ [(p0, p1, 0, p2)]) lst lc sc kc rl' ro' ra' rt' rp' co sk kd → post (nI code.length) (oc, nI n, cp, lc, sc, kc, dp, vc, er, ep, uu, cls, num, lnk, lsz, lit, fb, tk, tv, rk, rl', ro', ra', rt', rp', oo, co, sk, kd, fr, fn, fi, vs, ll, li, lt)) : wpX_emit post (oc, nI n, cp, lc, sc, kc, dp, vc, er, ep, uu, cls, num, lnk, lsz, lit, fb, tk, tv, rk, rl, ro, ra, rt, rp, oo, co, sk, kd, fr, fn, fi, vs, ll, li, lt) p0 p1 p2 := by
  obtain ⟨h1, h2, h3, h4, h5, h6, h7, h8, h9, h10⟩ := hR
  have e : 240 + nI code.length = nI (240 + code.length) := nI_add 240 code.length
  have c : (240 + nI code.length).toNatClampNeg = 240 + code.length := by rw [e, nI_clamp (by omega)]
  have i : vp_in (240 + nI code.length) 280 := by rw [e]; exact vp_in_nI (by omega) (by decide)
  refine nm_r (e' := nI code.length) h4 ⟨i, nm_r (by rw [c]) ⟨i, nm_r (by rw [c]) ⟨i, nm_r (by rw [c]) ⟨i, nm_r (by rw [c]) (nm_r (by rw [nI_1]) (H _ _ _ _ _ ⟨h1, h2, h3, ?_, h5, h6, ?_, h8, ?_, ?_⟩))⟩⟩⟩⟩
  · rw [pk_us, List.length_append]; rfl
  · intro j x hx
    by_cases z : j = code.length
    · subst z
      rw [List.getElem?_append_right (Nat.le_refl _), Nat.sub_self] at hx
      have := Option.some.inj hx
      rw [← this, pk_us, pk_us, pk_us, pk_us]
      exact ⟨rfl, rfl, rfl, rfl⟩
    · rw [pk_un (by omega), pk_un (by omega), pk_un (by omega), pk_un (by omega)]
      have jl : j < code.length := by
        by_cases y : j < code.length
        · exact y
        · rw [List.getElem?_eq_none (by rw [List.length_append]; show code.length + 1 ≤ j; omega)] at hx; cases hx
      rw [List.getElem?_append_left jl] at hx
      exact h7 j x hx
  · intro j hj; rw [pk_un (by omega)]; exact h9 j hj
  · intro j hj; rw [pk_un (by omega), pk_un (by omega), pk_un (by omega), pk_un (by omega)]; exact h10 j hj
theorem cx_nx {i : Nat} (hb : b ≤ i + 1) (h9 : T i ≠ 9) (hR : cx_R T (cx_J T i) rl0 ro0 ra0 rt0 rp0 b stk ks code lst lc sc kc rl ro ra rt rp co sk kd) : cx_R T (cx_J T (i + 1)) rl0 ro0 ra0 rt0 rp0 (i + 1) stk ks code lst lc sc kc rl ro ra rt rp co sk kd := by
  obtain ⟨h1, h2, h3, h4, h5, h6, h7, h8, h9', h10⟩ := hR
  exact ⟨h1, h2, h3, h4, cx_S_b hb (cx_S_J (fun x _ => cx_J_n h9) h5), h6, h7, h8, h9', h10⟩
theorem cx_opr (hn : n ≤ 40) (hK : ∀ i, i < n → tk i = nI (T i) ∧ T i < 23) {post : SX → Prop} {i : Nat} {k : Int32} (hi : i < n) (h9 : T i ≠ 9) (hR : cx_R T (cx_J T i) rl0 ro0 ra0 rt0 rp0 i stk ks code lst lc sc kc rl ro ra rt rp co sk kd) (hks : ks.length < 40) (hc : code.length < 40) (H : ∀ (lc' sc' kc' : Int32) (rl' ro' ra' rt' rp' co' sk' kd' : Nat → Int32), cx_R T (cx_J T (i + 1)) rl0 ro0 ra0 rt0 rp0 (i + 1) stk (k :: ks) (code ++ [(nI (T i), tv i, 0, nI i)]) lst lc' sc' kc' rl' ro' ra' rt' rp' co' sk' kd' → post (oc, nI n, cp, lc', sc', kc', dp, vc, er, ep, uu, cls, num, lnk, lsz, lit, fb, tk, tv, rk, rl', ro', ra', rt', rp', oo, co', sk', kd', fr, fn, fi, vs, ll, li, lt)) : wpX_translateOperand post (oc, nI n, cp, lc, sc, kc, dp, vc, er, ep, uu, cls, num, lnk, lsz, lit, fb, tk, tv, rk, rl, ro, ra, rt, rp, oo, co, sk, kd, fr, fn, fi, vs, ll, li, lt) (nI i) k := by
  obtain ⟨e1, e2, e3⟩ := cx_tk hn hK hi
  refine ⟨e3, e3, ?_⟩
  rw [e1, nI_clamp (n := i) (by omega)]
  refine cx_emit hR hc ?_
  intro lc1 sc1 kc1 rl1 ro1 ra1 rt1 rp1 co1 sk1 kd1 hR1
  obtain ⟨g1, g2, g3, g4, g5, g6, g7, g8, g9, g10⟩ := hR1
  subst g3
  exact ⟨vp_in_nI hks (by decide), nm_r (e' := upd kd1 ks.length k) (by rw [nI_clamp (by omega)]) (nm_r (nI_1 _) (H _ _ _ _ _ _ _ _ _ _ _ (cx_nx (by omega) h9 ⟨g1, g2, rfl, g4, g5, ⟨pk_us, cx_K_up (Nat.le_refl _) g6⟩, g7, g8, g9, g10⟩)))⟩
theorem cx_prp (hn : n ≤ 40) (hK : ∀ i, i < n → tk i = nI (T i) ∧ T i < 23) {post : SX → Prop} {i : Nat} {x : Int32} {r : List Int32} (hi : i < n) (h9 : T i ≠ 9) (hR : cx_R T (cx_J T i) rl0 ro0 ra0 rt0 rp0 i stk (x :: r) code lst lc sc kc rl ro ra rt rp co sk kd) (hks : r.length < 40) (hc : code.length < 40) (H : ∀ (lc' sc' kc' : Int32) (rl' ro' ra' rt' rp' co' sk' kd' : Nat → Int32), cx_R T (cx_J T (i + 1)) rl0 ro0 ra0 rt0 rp0 (i + 1) stk (cm_kp (tv i) :: r) (code ++ [(nI (T i), tv i, 0, nI i)]) (cm_dem (decide (x = 3)) i lst) lc' sc' kc' rl' ro' ra' rt' rp' co' sk' kd' → post (oc, nI n, cp, lc', sc', kc', dp, vc, er, ep, uu, cls, num, lnk, lsz, lit, fb, tk, tv, rk, rl', ro', ra', rt', rp', oo, co', sk', kd', fr, fn, fi, vs, ll, li, lt)) : wpX_translateProperty post (oc, nI n, cp, lc, sc, kc, dp, vc, er, ep, uu, cls, num, lnk, lsz, lit, fb, tk, tv, rk, rl, ro, ra, rt, rp, oo, co, sk, kd, fr, fn, fi, vs, ll, li, lt) (nI i) := by
  obtain ⟨e1, e2, e3⟩ := cx_tk hn hK hi
  obtain ⟨h1, h2, h3, h4, h5, h6, h7, h8, h9', h10⟩ := id hR
  have k1 : kc - 1 = nI r.length := by rw [h3]; exact nI_pred _
  have kx : kd (kc - 1).toNatClampNeg = x := by rw [k1, nI_clamp (by omega)]; exact h6.1
  refine ⟨e3, nm_r (e' := tv i) (by rw [nI_clamp (by omega)]) ⟨by rw [k1]; exact vp_in_nI hks (by decide), ?_⟩⟩
  rw [kx]
  have nxt : ∀ v : Int32, v = (if decide (x = 3) = true then 1 else 0) → wX_translateProperty_28 post (nI i) (tv i) v oc (nI n) cp lc sc kc dp vc er ep uu cls num lnk lsz lit fb tk tv rk rl ro ra rt rp oo co sk kd fr fn fi vs ll li lt := by
    intro v hv
    refine cx_dem hR hv (by omega) ?_
    intro lc1 sc1 kc1 rl1 ro1 ra1 rt1 rp1 co1 sk1 kd1 hR1
    refine ⟨e3, ?_⟩
    rw [e1]
    refine cx_emit hR1 hc ?_
    intro lc2 sc2 kc2 rl2 ro2 ra2 rt2 rp2 co2 sk2 kd2 hR2
    obtain ⟨g1, g2, g3, g4, g5, g6, g7, g8, g9, g10⟩ := hR2
    have k2 : kc2 - 1 = nI r.length := by rw [g3]; exact nI_pred _
    have ii : vp_in (kc2 - 1) 40 := by rw [k2]; exact vp_in_nI hks (by decide)
    have fin : ∀ K : Int32, K = cm_kp (tv i) → ∀ k9, k9 = upd kd2 (kc2 - 1).toNatClampNeg K → post (oc, nI n, cp, lc2, sc2, kc2, dp, vc, er, ep, uu, cls, num, lnk, lsz, lit, fb, tk, tv, rk, rl2, ro2, ra2, rt2, rp2, oo, co2, sk2, k9, fr, fn, fi, vs, ll, li, lt) := by
      intro K hKp k9 hk9
      rw [hk9, k2, nI_clamp (by omega)]
      refine H _ _ _ _ _ _ _ _ _ _ _ (cx_nx (by omega) h9 ⟨g1, g2, g3, g4, g5, ⟨?_, cx_K_up (Nat.le_refl _) g6.2⟩, g7, g8, g9, g10⟩)
      rw [← hKp]; exact pk_us
    unfold cm_kp at fin
    by_cases z : 3 ≤ tv i
    · rw [if_pos z] at fin
      refine br_t z ?_
      by_cases y : tv i = 3
      · rw [if_pos y] at fin
        exact br_t y ⟨ii, fun k9 hk9 => fin 3 rfl k9 hk9⟩
      · rw [if_neg y] at fin
        exact br_f y ⟨ii, fun k9 hk9 => fin 4 rfl k9 hk9⟩
    · rw [if_neg z] at fin
      exact br_f z ⟨ii, fun k9 hk9 => fin 1 rfl k9 hk9⟩
  exact cx_one (P := fun v => v = (if decide (x = 3) = true then 1 else 0)) (fun z => nxt 1 z) (fun z => nxt 0 z) rfl
theorem cx_isq (hn : n ≤ 40) (hK : ∀ i, i < n → tk i = nI (T i) ∧ T i < 23) {post : Int32 → Prop} {i : Nat} (hi : i < n) (h1 : 20 ≤ T i → post 1) (h0 : T i < 20 → post 0) : wpX_isQuantifier post (oc, nI n, cp, lc, sc, kc, dp, vc, er, ep, uu, cls, num, lnk, lsz, lit, fb, tk, tv, rk, rl, ro, ra, rt, rp, oo, co, sk, kd, fr, fn, fi, vs, ll, li, lt) (nI i) := by
  obtain ⟨e1, e2, e3⟩ := cx_tk hn hK hi
  have hT := (hK i hi).2
  refine ⟨e3, ?_⟩
  rw [e1]
  by_cases z : T i < 20
  · exact br_t (nI_lt (b := 20) z (by decide)) (h0 z)
  · exact br_f (nI_nlt (b := 20) (by omega) (by omega)) (h1 (by omega))
theorem cx_opn (hn : n ≤ 40) (hK : ∀ i, i < n → tk i = nI (T i) ∧ T i < 23) {post : SX → Prop} {i : Nat} (hi : i < n) (h6 : T i = 6) (hR : cx_R T (cx_J T i) rl0 ro0 ra0 rt0 rp0 i stk ks code lst lc sc kc rl ro ra rt rp co sk kd) (hs : stk.length < 40)
  (Ha : 0 < i ∧ (T (i - 1) = 5 ∨ 20 ≤ T (i - 1)) → ∀ (lc' sc' kc' : Int32) (rl' ro' ra' rt' rp' co' sk' kd' : Nat → Int32), cx_R T (cx_J T (i + 1)) rl0 ro0 ra0 rt0 rp0 (i + 1) stk ks code lst lc' sc' kc' rl' ro' ra' rt' rp' co' sk' kd' → post (oc, nI n, cp, lc', sc', kc', dp, vc, er, ep, uu, cls, num, lnk, lsz, lit, fb, tk, tv, rk, rl', ro', ra', rt', rp', oo, co', sk', kd', fr, fn, fi, vs, ll, li, lt))
  (Hp : ¬ (0 < i ∧ (T (i - 1) = 5 ∨ 20 ≤ T (i - 1))) → ∀ (lc' sc' kc' : Int32) (rl' ro' ra' rt' rp' co' sk' kd' : Nat → Int32), cx_R T (cx_J T (i + 1)) rl0 ro0 ra0 rt0 rp0 (i + 1) ((i, 0) :: stk) ks code lst lc' sc' kc' rl' ro' ra' rt' rp' co' sk' kd' → post (oc, nI n, cp, lc', sc', kc', dp, vc, er, ep, uu, cls, num, lnk, lsz, lit, fb, tk, tv, rk, rl', ro', ra', rt', rp', oo, co', sk', kd', fr, fn, fi, vs, ll, li, lt)) : wpX_translateOpen post (oc, nI n, cp, lc, sc, kc, dp, vc, er, ep, uu, cls, num, lnk, lsz, lit, fb, tk, tv, rk, rl, ro, ra, rt, rp, oo, co, sk, kd, fr, fn, fi, vs, ll, li, lt) (nI i) := by
  have push : (¬ (0 < i ∧ (T (i - 1) = 5 ∨ 20 ≤ T (i - 1)))) → wX_translateOpen_30 post (nI i) oc (nI n) cp lc sc kc dp vc er ep uu cls num lnk lsz lit fb tk tv rk rl ro ra rt rp oo co sk kd fr fn fi vs ll li lt := by
    intro z
    refine br_t rfl (cx_push (x := 0) hR hs (Nat.le_refl _) (fun y => absurd y (by omega)) ?_)
    intro lc1 sc1 kc1 rl1 ro1 ra1 rt1 rp1 co1 sk1 kd1 hR1
    exact Hp z _ _ _ _ _ _ _ _ _ _ _ (cx_nx (Nat.le_refl _) (by omega) hR1)
  have skip : (0 < i ∧ (T (i - 1) = 5 ∨ 20 ≤ T (i - 1))) → wX_translateOpen_26 post (nI i) oc (nI n) cp lc sc kc dp vc er ep uu cls num lnk lsz lit fb tk tv rk rl ro ra rt rp oo co sk kd fr fn fi vs ll li lt := fun z => br_f (by decide) (Ha z _ _ _ _ _ _ _ _ _ _ _ (cx_nx (by omega) (by omega) hR))
  by_cases i0 : i = 0
  · exact br_t (by rw [i0]; decide) (push (by omega))
  · refine br_f (nI_nle (by omega) (by omega)) ?_
    obtain ⟨j, rfl⟩ : ∃ j, i = j + 1 := ⟨i - 1, by omega⟩
    rw [Nat.add_sub_cancel] at push skip
    obtain ⟨e1, e2, e3⟩ := cx_tk hn hK (i := j) (by omega)
    rw [nI_pred]
    refine ⟨e3, ?_⟩
    by_cases t5 : T j = 5
    · exact br_t (by rw [e1, t5]; rfl) (skip ⟨by omega, Or.inl t5⟩)
    · refine br_f (e2 5 t5 (by decide)) (cx_isq hn hK (by omega) (fun z => br_f (by decide) (skip ⟨by omega, Or.inr z⟩)) (fun z => br_t rfl (push (by omega))))
theorem cx_jmp (hn : n ≤ 40) (hK : ∀ i, i < n → tk i = nI (T i) ∧ T i < 23) {post : SX → Prop} {i : Nat} (hi : i < n) (h8 : T i = 8 ∨ T i = 10 ∨ T i = 11) (hR : cx_R T (cx_J T i) rl0 ro0 ra0 rt0 rp0 i stk ks code lst lc sc kc rl ro ra rt rp co sk kd) (hs : stk.length < 40) (hc : code.length < 40) (H : ∀ (lc' sc' kc' : Int32) (rl' ro' ra' rt' rp' co' sk' kd' : Nat → Int32), cx_R T (cx_J T (i + 1)) rl0 ro0 ra0 rt0 rp0 (i + 1) ((i, code.length) :: stk) ks (code ++ [(nI (T i), 0, 0, nI i)]) lst lc' sc' kc' rl' ro' ra' rt' rp' co' sk' kd' → post (oc, nI n, cp, lc', sc', kc', dp, vc, er, ep, uu, cls, num, lnk, lsz, lit, fb, tk, tv, rk, rl', ro', ra', rt', rp', oo, co', sk', kd', fr, fn, fi, vs, ll, li, lt)) : wX_translate_156 post (nI i) oc (nI n) cp lc sc kc dp vc er ep uu cls num lnk lsz lit fb tk tv rk rl ro ra rt rp oo co sk kd fr fn fi vs ll li lt := by
  obtain ⟨e1, e2, e3⟩ := cx_tk hn hK hi
  refine ⟨e3, ?_⟩
  rw [e1]
  refine cx_emit hR hc ?_
  intro lc1 sc1 kc1 rl1 ro1 ra1 rt1 rp1 co1 sk1 kd1 hR1
  obtain ⟨g1, g2, g3, g4, g5, g6, g7, g8, g9, g10⟩ := hR1
  have hR2 : cx_R T (cx_J T i) rl0 ro0 ra0 rt0 rp0 i stk ks (code ++ [(nI (T i), 0, 0, nI i)]) lst lc1 sc1 kc1 rl1 ro1 ra1 rt1 rp1 (upd co1 i (nI code.length)) sk1 kd1 := ⟨g1, g2, g3, g4, cx_S_co (Nat.le_refl _) g5, g6, g7, g8, g9, g10⟩
  refine ⟨e3, nm_r (e' := upd co1 i (nI code.length)) (by rw [nI_clamp (by omega)]) (cx_push (x := code.length) hR2 hs (Nat.le_refl _) (fun _ => ⟨pk_us, hc⟩) ?_)⟩
  intro lc3 sc3 kc3 rl3 ro3 ra3 rt3 rp3 co3 sk3 kd3 hR3
  exact H _ _ _ _ _ _ _ _ _ _ _ (cx_nx (Nat.le_refl _) (by omega) hR3)
theorem cx_psh (hn : n ≤ 40) (hK : ∀ i, i < n → tk i = nI (T i) ∧ T i < 23) {post : SX → Prop} {i : Nat} (hi : i < n) (h9 : ¬ (8 ≤ T i ∧ T i ≤ 11)) (hJ : ¬ cx_J T i i) (hR : cx_R T (cx_J T i) rl0 ro0 ra0 rt0 rp0 i stk ks code lst lc sc kc rl ro ra rt rp co sk kd) (hs : stk.length < 40) (H : ∀ (lc' sc' kc' : Int32) (rl' ro' ra' rt' rp' co' sk' kd' : Nat → Int32), cx_R T (cx_J T (i + 1)) rl0 ro0 ra0 rt0 rp0 (i + 1) ((i, 0) :: stk) ks code lst lc' sc' kc' rl' ro' ra' rt' rp' co' sk' kd' → post (oc, nI n, cp, lc', sc', kc', dp, vc, er, ep, uu, cls, num, lnk, lsz, lit, fb, tk, tv, rk, rl', ro', ra', rt', rp', oo, co', sk', kd', fr, fn, fi, vs, ll, li, lt)) : wX_translate_182 post (nI i) oc (nI n) cp lc sc kc dp vc er ep uu cls num lnk lsz lit fb tk tv rk rl ro ra rt rp oo co sk kd fr fn fi vs ll li lt := by
  refine cx_push (x := 0) hR hs (Nat.le_refl _) (fun z => ?_) ?_
  · exact absurd z (fun y => y.elim h9 (fun x => hJ x.2))
  · intro lc1 sc1 kc1 rl1 ro1 ra1 rt1 rp1 co1 sk1 kd1 hR1
    exact H _ _ _ _ _ _ _ _ _ _ _ (cx_nx (Nat.le_refl _) (by omega) hR1)
theorem cx_col (hn : n ≤ 40) (hK : ∀ i, i < n → tk i = nI (T i) ∧ T i < 23) (hoo : ∀ j, j < n → T j = 7 ∨ T j = 9 → oo j = nI (ca_o T j) ∧ ca_o T j < j) {post : SX → Prop} {i x : Nat} {r : List (Nat × Nat)} (hi : i < n) (h9 : T i = 9) (hR : cx_R T (cx_J T i) rl0 ro0 ra0 rt0 rp0 i ((ca_o T i, x) :: r) ks code lst lc sc kc rl ro ra rt rp co sk kd) (hs : r.length < 40) (hc : code.length < 40)
  (Hq : 20 ≤ T (ca_o T i) → ∀ (lc' sc' kc' : Int32) (rl' ro' ra' rt' rp' co' sk' kd' : Nat → Int32), cx_R T (cx_J T (i + 1)) rl0 ro0 ra0 rt0 rp0 (i + 1) ((ca_o T i, code.length) :: r) ks (code ++ [(nI (T (ca_o T i)), tv (ca_o T i), 0, nI (ca_o T i))]) lst lc' sc' kc' rl' ro' ra' rt' rp' co' sk' kd' → post (oc, nI n, cp, lc', sc', kc', dp, vc, er, ep, uu, cls, num, lnk, lsz, lit, fb, tk, tv, rk, rl', ro', ra', rt', rp', oo, co', sk', kd', fr, fn, fi, vs, ll, li, lt))
  (Hi : T (ca_o T i) = 8 → ∀ (lc' sc' kc' : Int32) (rl' ro' ra' rt' rp' co' sk' kd' : Nat → Int32), cx_R T (cx_J T (i + 1)) rl0 ro0 ra0 rt0 rp0 (i + 1) ((i, code.length) :: r) ks (cm_aim (code ++ [(9, 0, 0, nI i)]) x (nI (code.length + 1))) lst lc' sc' kc' rl' ro' ra' rt' rp' co' sk' kd' → post (oc, nI n, cp, lc', sc', kc', dp, vc, er, ep, uu, cls, num, lnk, lsz, lit, fb, tk, tv, rk, rl', ro', ra', rt', rp', oo, co', sk', kd', fr, fn, fi, vs, ll, li, lt)) (ho8 : T (ca_o T i) = 8 ∨ 20 ≤ T (ca_o T i)) : wpX_translateColon post (oc, nI n, cp, lc, sc, kc, dp, vc, er, ep, uu, cls, num, lnk, lsz, lit, fb, tk, tv, rk, rl, ro, ra, rt, rp, oo, co, sk, kd, fr, fn, fi, vs, ll, li, lt) (nI i) := by
  obtain ⟨e1, e2, e3⟩ := cx_tk hn hK hi
  obtain ⟨o1, o2⟩ := hoo i hi (Or.inr h9)
  have hon : ca_o T i < n := by omega
  obtain ⟨f1, f2, f3⟩ := cx_tk hn hK hon
  refine ⟨e3, nm_r (e' := nI (ca_o T i)) (by rw [nI_clamp (by omega)]; exact o1) (cx_isq hn hK hon (fun z => ?_) (fun z => ?_))⟩
  · refine br_f (by decide) ⟨f3, f3, ?_⟩
    rw [f1, nI_clamp (n := ca_o T i) (by omega)]
    refine cx_emit hR hc ?_
    intro lc1 sc1 kc1 rl1 ro1 ra1 rt1 rp1 co1 sk1 kd1 hR1
    obtain ⟨g1, g2, g3, g4, g5, g6, g7, g8, g9, g10⟩ := hR1
    obtain ⟨s1, s2, s3, s4⟩ := g5
    refine ⟨f3, nm_r (e' := upd co1 (ca_o T i) (nI code.length)) rfl (Hq z _ _ _ _ _ _ _ _ _ _ _ ⟨g1, g2, g3, g4, ⟨by show ca_o T i < i + 1; omega, s2, fun _ => ⟨pk_us, hc⟩, ?_⟩, g6, g7, g8, g9, g10⟩)⟩
    refine cx_S_co (Nat.le_refl _) (cx_S_J (fun y hy hJ => ?_) s4)
    obtain ⟨j, j1, j2, j3⟩ := hJ
    refine ⟨j, ?_, j2, j3⟩
    have : j ≠ i := by
      intro q
      subst q
      have : y < ca_o T j := hy
      omega
    omega
  · have t8 : T (ca_o T i) = 8 := by omega
    refine br_t rfl (cx_emit hR hc ?_)
    intro lc1 sc1 kc1 rl1 ro1 ra1 rt1 rp1 co1 sk1 kd1 hR1
    obtain ⟨g1, g2, g3, g4, g5, g6, g7, g8, g9, g10⟩ := hR1
    obtain ⟨s1, s2, s3, s4⟩ := g5
    obtain ⟨c1, c2⟩ := s3 (Or.inl (by show 8 ≤ T (ca_o T i) ∧ T (ca_o T i) ≤ 11; omega))
    have hR2 : cx_R T (cx_J T i) rl0 ro0 ra0 rt0 rp0 i ((ca_o T i, x) :: r) ks (code ++ [(9, 0, 0, nI i)]) lst lc1 sc1 kc1 rl1 ro1 ra1 rt1 rp1 (upd co1 i (nI code.length)) sk1 kd1 := ⟨g1, g2, g3, g4, cx_S_co (Nat.le_refl _) ⟨s1, s2, s3, s4⟩, g6, g7, g8, g9, g10⟩
    refine ⟨e3, nm_r (e' := upd co1 i (nI code.length)) (by rw [nI_clamp (by omega)]) (cx_aimk hR2 (by omega) (c := x) (by rw [pk_un (by omega)]; exact c1) c2 (fun rt3 hR3 => ?_))⟩
    obtain ⟨q1, q2, q3, q4, q5, q6, q7, q8, q9, q10⟩ := hR3
    have k2 : sc1 - 1 = nI r.length := by rw [q2]; exact nI_pred _
    refine ⟨by rw [k2]; exact vp_in_nI hs (by decide), nm_r (e' := upd sk1 r.length (nI i)) (by rw [k2, nI_clamp (by omega)]) (Hi t8 _ _ _ _ _ _ _ _ _ _ _ ?_)⟩
    have ll : (code ++ [((9 : Int32), (0 : Int32), (0 : Int32), nI i)]).length = code.length + 1 := List.length_append
    rw [ll] at q4 q7
    refine ⟨q1, q2, q3, q4, ⟨by show i < i + 1; omega, pk_us, fun _ => ⟨pk_us, hc⟩, ?_⟩, q6, q7, q8, q9, q10⟩
    refine cx_S_sk (Nat.le_refl _) (cx_S_b (b := ca_o T i) (by show ca_o T i ≤ i; omega) (cx_S_J (fun y hy hJ => ?_) q5.2.2.2))
    obtain ⟨j, j1, j2, j3⟩ := hJ
    refine ⟨j, ?_, j2, j3⟩
    have : j ≠ i := by
      intro q
      subst q
      have : y < ca_o T j := hy
      omega
    omega
theorem cx_cls (hn : n ≤ 40) (hK : ∀ i, i < n → tk i = nI (T i) ∧ T i < 23) (hoo : ∀ j, j < n → T j = 7 ∨ T j = 9 → oo j = nI (ca_o T j) ∧ ca_o T j < j) {post : SX → Prop} {i x : Nat} {ck : Int32} {r : List (Nat × Nat)} (hi : i < n) (h7 : T i = 7) (hR : cx_R T (cx_J T i) rl0 ro0 ra0 rt0 rp0 i ((ca_o T i, x) :: r) ks code lst lc sc kc rl ro ra rt rp co sk kd) (hs : r.length < 40) (hks : ks.length ≤ 40)
  (Hc : T (ca_o T i) = 5 → ∃ y ks1, ks = y :: ks1 ∧ code.length < 40 ∧ (∀ (lc' sc' kc' : Int32) (rl' ro' ra' rt' rp' co' sk' kd' : Nat → Int32), cx_R T (cx_J T (i + 1)) rl0 ro0 ra0 rt0 rp0 (i + 1) r (ck :: ks1) (code ++ [(5, tv (ca_o T i), 0, nI (ca_o T i))]) (cm_dem (decide (y = 3)) (ca_o T i) lst) lc' sc' kc' rl' ro' ra' rt' rp' co' sk' kd' → post (oc, nI n, cp, lc', sc', kc', dp, vc, er, ep, uu, cls, num, lnk, lsz, lit, fb, tk, tv, rk, rl', ro', ra', rt', rp', oo, co', sk', kd', fr, fn, fi, vs, ll, li, lt)))
  (Hq : 20 ≤ T (ca_o T i) → cx_J T i (ca_o T i) ∧ ∃ y z ks1, ks = y :: z :: ks1 ∧ code.length < 40 ∧ (∀ (lc' sc' kc' : Int32) (rl' ro' ra' rt' rp' co' sk' kd' : Nat → Int32), cx_R T (cx_J T (i + 1)) rl0 ro0 ra0 rt0 rp0 (i + 1) r ((if T (ca_o T i) = 22 then 1 else 2) :: ks1) (cm_aim (code ++ [(24, nI x, 0, nI (ca_o T i))]) x (nI (code.length + 1))) (cm_dem (decide (z = 4 ∧ y = (if T (ca_o T i) = 22 then 1 else 2))) (ca_o T i) lst) lc' sc' kc' rl' ro' ra' rt' rp' co' sk' kd' → post (oc, nI n, cp, lc', sc', kc', dp, vc, er, ep, uu, cls, num, lnk, lsz, lit, fb, tk, tv, rk, rl', ro', ra', rt', rp', oo, co', sk', kd', fr, fn, fi, vs, ll, li, lt)))
  (Hp : T (ca_o T i) ≠ 5 → T (ca_o T i) < 20 → ∀ (lc' sc' kc' : Int32) (rl' ro' ra' rt' rp' co' sk' kd' : Nat → Int32), cx_R T (cx_J T (i + 1)) rl0 ro0 ra0 rt0 rp0 (i + 1) r ks code lst lc' sc' kc' rl' ro' ra' rt' rp' co' sk' kd' → post (oc, nI n, cp, lc', sc', kc', dp, vc, er, ep, uu, cls, num, lnk, lsz, lit, fb, tk, tv, rk, rl', ro', ra', rt', rp', oo, co', sk', kd', fr, fn, fi, vs, ll, li, lt)) : wpX_translateClose post (oc, nI n, cp, lc, sc, kc, dp, vc, er, ep, uu, cls, num, lnk, lsz, lit, fb, tk, tv, rk, rl, ro, ra, rt, rp, oo, co, sk, kd, fr, fn, fi, vs, ll, li, lt) (nI (ca_o T i)) ck := by
  obtain ⟨o1, o2⟩ := hoo i hi (Or.inl h7)
  have hon : ca_o T i < n := by omega
  obtain ⟨f1, f2, f3⟩ := cx_tk hn hK hon
  have hTo := (hK _ hon).2
  obtain ⟨h1, h2, h3, h4, h5, h6, h7', h8, h9, h10⟩ := id hR
  obtain ⟨s1, s2, s3, s4⟩ := h5
  have hRp : cx_R T (cx_J T i) rl0 ro0 ra0 rt0 rp0 i r ks code lst lc (nI r.length) kc rl ro ra rt rp co sk kd := ⟨h1, rfl, h3, h4, cx_S_b (by show ca_o T i ≤ i; omega) s4, h6, h7', h8, h9, h10⟩
  refine nm_r (e' := nI r.length) (by rw [h2]; exact nI_pred _) ⟨f3, ?_⟩
  by_cases t5 : T (ca_o T i) = 5
  · obtain ⟨y, ks1, ek, hc, H⟩ := Hc t5
    subst ek
    rw [List.length_cons] at hks
    have k1 : kc - 1 = nI ks1.length := by rw [h3]; exact nI_pred _
    have kx : kd (kc - 1).toNatClampNeg = y := by rw [k1, nI_clamp (by omega)]; exact h6.1
    refine br_t (by rw [f1, t5]; rfl) ⟨by rw [k1]; exact vp_in_nI (by omega) (by decide), ?_⟩
    rw [kx]
    have nxt : ∀ v : Int32, v = (if decide (y = 3) = true then 1 else 0) → wX_translateClose_41 post (nI (ca_o T i)) ck v oc (nI n) cp lc (nI r.length) kc dp vc er ep uu cls num lnk lsz lit fb tk tv rk rl ro ra rt rp oo co sk kd fr fn fi vs ll li lt := by
      intro v hv
      refine cx_dem hRp hv (by omega) ?_
      intro lc1 sc1 kc1 rl1 ro1 ra1 rt1 rp1 co1 sk1 kd1 hR1
      refine ⟨f3, ?_⟩
      rw [nI_clamp (n := ca_o T i) (by omega)]
      refine cx_emit hR1 hc ?_
      intro lc2 sc2 kc2 rl2 ro2 ra2 rt2 rp2 co2 sk2 kd2 hR2
      obtain ⟨g1, g2, g3, g4, g5, g6, g7, g8, g9, g10⟩ := hR2
      have k2 : kc2 - 1 = nI ks1.length := by rw [g3]; exact nI_pred _
      exact ⟨by rw [k2]; exact vp_in_nI (by omega) (by decide), nm_r (e' := upd kd2 ks1.length ck) (by rw [k2, nI_clamp (by omega)]) (H _ _ _ _ _ _ _ _ _ _ _ (cx_nx (by omega) (by omega) ⟨g1, g2, g3, g4, g5, ⟨pk_us, cx_K_up (Nat.le_refl _) g6.2⟩, g7, g8, g9, g10⟩))⟩
    exact cx_one (P := fun v => v = (if decide (y = 3) = true then 1 else 0)) (fun z => nxt 1 z) (fun z => nxt 0 z) rfl
  · refine br_f (f2 5 t5 (by decide)) (cx_isq hn hK hon (fun z20 => ?_) (fun z20 => br_t rfl (Hp t5 z20 _ _ _ _ _ _ _ _ _ _ _ (cx_nx (by omega) (by omega) hRp))))
    obtain ⟨hJ, y, z, ks1, ek, hc, H⟩ := Hq z20
    subst ek
    rw [List.length_cons, List.length_cons] at hks
    obtain ⟨c1, c2⟩ := s3 (Or.inr ⟨z20, hJ⟩)
    have k1 : kc - 1 = nI (ks1.length + 1) := by rw [h3]; exact nI_pred _
    have hRk : cx_R T (cx_J T i) rl0 ro0 ra0 rt0 rp0 i r (z :: ks1) code lst lc (nI r.length) (nI (ks1.length + 1)) rl ro ra rt rp co sk kd := ⟨h1, rfl, rfl, h4, cx_S_b (by show ca_o T i ≤ i; omega) s4, h6.2, h7', h8, h9, h10⟩
    have nxt : ∀ (K v : Int32), K = (if T (ca_o T i) = 22 then 1 else 2) → v = (if decide (z = 4 ∧ y = K) = true then 1 else 0) → wX_translateClose_142 post (nI (ca_o T i)) K v oc (nI n) cp lc (nI r.length) (nI (ks1.length + 1)) dp vc er ep uu cls num lnk lsz lit fb tk tv rk rl ro ra rt rp oo co sk kd fr fn fi vs ll li lt := by
      intro K v hKK hv
      rw [← hKK] at H
      refine cx_demk hRk hv (by omega) (fun lc1 hR1 => ?_)
      refine ⟨f3, ?_⟩
      rw [show co (nI (ca_o T i)).toNatClampNeg = nI x by rw [nI_clamp (by omega)]; exact c1]
      refine cx_emitk hR1 hc (fun rl2 ro2 ra2 rt2 rp2 hR2 => ?_)
      refine cx_aimk hR2 (by omega) c1 c2 (fun rt3 hR3 => ?_)
      obtain ⟨g1, g2, g3, g4, g5, g6, g7, g8, g9, g10⟩ := hR3
      have ll : (code ++ [((24 : Int32), nI x, (0 : Int32), nI (ca_o T i))]).length = code.length + 1 := List.length_append
      rw [ll] at g4 g7
      refine ⟨by rw [nI_pred]; exact vp_in_nI (by omega) (by decide), nm_r (e' := upd kd ks1.length K) (by rw [nI_pred, nI_clamp (by omega)]) (H _ _ _ _ _ _ _ _ _ _ _ (cx_nx (by omega) (by omega) ⟨g1, g2, g3, g4, g5, ⟨pk_us, cx_K_up (Nat.le_refl _) g6.2⟩, g7, g8, g9, g10⟩))⟩
    have l97 : ∀ K : Int32, K = (if T (ca_o T i) = 22 then 1 else 2) → wX_translateClose_97 post (nI (ca_o T i)) K oc (nI n) cp lc (nI r.length) kc dp vc er ep uu cls num lnk lsz lit fb tk tv rk rl ro ra rt rp oo co sk kd fr fn fi vs ll li lt := by
      intro K hKK
      refine nm_r k1 ⟨by rw [nI_pred]; exact vp_in_nI (by omega) (by decide), ?_⟩
      rw [show kd (nI (ks1.length + 1) - 1).toNatClampNeg = z by rw [nI_pred, nI_clamp (by omega)]; exact h6.2.1]
      by_cases z4 : z = 4
      · refine br_t z4 ⟨vp_in_nI (by omega) (by decide), ?_⟩
        rw [show kd (nI (ks1.length + 1)).toNatClampNeg = y by rw [nI_clamp (by omega)]; exact h6.1]
        by_cases yK : y = K
        · exact br_t yK (nxt K 1 hKK (by rw [decide_eq_true ⟨z4, yK⟩]; rfl))
        · exact br_f yK (nxt K 0 hKK (by rw [decide_eq_false (fun q => yK q.2)]; rfl))
      · exact br_f z4 (nxt K 0 hKK (by rw [decide_eq_false (fun q => z4 q.1)]; rfl))
    refine br_f (by decide) ⟨f3, ?_⟩
    by_cases t22 : T (ca_o T i) = 22
    · exact br_t (by rw [f1, t22]; rfl) (l97 1 (by rw [if_pos t22]))
    · exact br_f (f2 22 t22 (by decide)) (l97 2 (by rw [if_neg t22]))
end
