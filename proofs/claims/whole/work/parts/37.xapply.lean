section
variable {oc cp dp vc er ep uu lc sc kc : Int32} {cls num lnk lsz lit fb tk tv rk oo fr fn fi vs ll li lt rl ro ra rt rp co sk kd rl0 ro0 ra0 rt0 rp0 : Nat → Int32} {n b : Nat} {T : Nat → Nat} {J : Nat → Prop} {stk : List (Nat × Nat)} {ks : List Int32} {code : List cm_I} {lst : Nat}
theorem cx_demk {post : SX → Prop} {ok : Bool} {p : Nat} {v : Int32} (hR : cx_R T J rl0 ro0 ra0 rt0 rp0 b stk ks code lst lc sc kc rl ro ra rt rp co sk kd) (hv : v = if ok = true then 1 else 0) (hp : p < 1000) (HH : ∀ lc', cx_R T J rl0 ro0 ra0 rt0 rp0 b stk ks code (cm_dem ok p lst) lc' sc kc rl ro ra rt rp co sk kd → post (oc, nI n, cp, lc', sc, kc, dp, vc, er, ep, uu, cls, num, lnk, lsz, lit, fb, tk, tv, rk, rl, ro, ra, rt, rp, oo, co, sk, kd, fr, fn, fi, vs, ll, li, lt)) : wpX_demand post (oc, nI n, cp, lc, sc, kc, dp, vc, er, ep, uu, cls, num, lnk, lsz, lit, fb, tk, tv, rk, rl, ro, ra, rt, rp, oo, co, sk, kd, fr, fn, fi, vs, ll, li, lt) v (nI p) := by
  obtain ⟨h1, h2, h3, h4, h5, h6, h7, h8, h9, h10⟩ := id hR
  subst hv
  cases ok with
  | true => exact br_f (by decide) (HH _ hR)
  | false =>
    refine br_t rfl ?_
    rw [h1]
    by_cases y : lst ≤ p
    · refine br_t (nI_le y (by omega)) (HH _ ⟨?_, h2, h3, h4, h5, h6, h7, by show min lst _ ≤ 100; omega, h9, h10⟩)
      show nI lst = nI (min lst p)
      rw [Nat.min_eq_left y]
    · refine br_f (nI_ge (by omega) (by omega)) (HH _ ⟨?_, h2, h3, h4, h5, h6, h7, by show min lst _ ≤ 100; omega, h9, h10⟩)
      show nI _ = nI (min lst p)
      rw [Nat.min_eq_right (by omega)]
theorem cx_one {x y : Int32} {A B : Prop} {P : Int32 → Prop} (hA : P 1 → A) (hB : P 0 → B) (h : P (if decide (x = y) = true then 1 else 0)) : (x = y → A) ∧ (¬ x = y → B) := by
  by_cases z : x = y
  · rw [decide_eq_true z] at h
    exact br_t z (hA h)
  · rw [decide_eq_false z] at h
    exact br_f z (hB h)
theorem cx_apP (hn : n ≤ 40) (hK : ∀ i, i < n → tk i = nI (T i) ∧ T i < 23) {post : SX → Prop} {i : Nat} {x : Int32} {r : List Int32} (hi : i < n) (hp : T i = 12 ∨ T i = 16) (hR : cx_R T J rl0 ro0 ra0 rt0 rp0 b stk (x :: r) code lst lc sc kc rl ro ra rt rp co sk kd) (hks : r.length < 40) (hc : code.length < 40) (H : ∀ (lc' sc' kc' : Int32) (rl' ro' ra' rt' rp' co' sk' kd' : Nat → Int32), cx_R T J rl0 ro0 ra0 rt0 rp0 b stk ((if T i = 12 then 2 else 1) :: r) (code ++ [((if T i = 12 then 12 else 23), 0, 0, nI i)]) (cm_dem (decide (x = (if T i = 12 then 2 else 1))) i lst) lc' sc' kc' rl' ro' ra' rt' rp' co' sk' kd' → post (oc, nI n, cp, lc', sc', kc', dp, vc, er, ep, uu, cls, num, lnk, lsz, lit, fb, tk, tv, rk, rl', ro', ra', rt', rp', oo, co', sk', kd', fr, fn, fi, vs, ll, li, lt)) : wpX_applyPrefix post (oc, nI n, cp, lc, sc, kc, dp, vc, er, ep, uu, cls, num, lnk, lsz, lit, fb, tk, tv, rk, rl, ro, ra, rt, rp, oo, co, sk, kd, fr, fn, fi, vs, ll, li, lt) (nI i) := by
  obtain ⟨e1, e2, e3⟩ := cx_tk hn hK hi
  have fin : ∀ (fl kk oo' : Int32), (fl = 0 → oo' = 23) → (¬ fl = 0 → oo' = 12) → kk = (if T i = 12 then 2 else 1) → oo' = (if T i = 12 then 12 else 23) → wX_applyPrefix_26 post (nI i) fl kk oc (nI n) cp lc sc kc dp vc er ep uu cls num lnk lsz lit fb tk tv rk rl ro ra rt rp oo co sk kd fr fn fi vs ll li lt := by
    intro fl kk oo' hf0 hf1 hkk hoo'
    obtain ⟨h1, h2, h3, h4, h5, h6, h7, h8, h9, h10⟩ := id hR
    have k1 : kc - 1 = nI r.length := by rw [h3]; exact nI_pred _
    have kx : kd (kc - 1).toNatClampNeg = x := by rw [k1, nI_clamp (by omega)]; exact h6.1
    refine ⟨by rw [k1]; exact vp_in_nI hks (by decide), ?_⟩
    rw [kx]
    have nxt : ∀ v : Int32, v = (if decide (x = kk) = true then 1 else 0) → wX_applyPrefix_48 post (nI i) fl kk v oc (nI n) cp lc sc kc dp vc er ep uu cls num lnk lsz lit fb tk tv rk rl ro ra rt rp oo co sk kd fr fn fi vs ll li lt := by
      intro v hv
      refine cx_dem hR hv (by omega) ?_
      intro lc1 sc1 kc1 rl1 ro1 ra1 rt1 rp1 co1 sk1 kd1 hR1
      have em : ∀ o2, o2 = oo' → wX_applyPrefix_64 post (nI i) kk o2 oc (nI n) cp (lc1) (sc1) (kc1) dp vc er ep uu cls num lnk lsz lit fb tk tv rk (rl1) (ro1) (ra1) (rt1) (rp1) oo (co1) (sk1) (kd1) fr fn fi vs ll li lt := by
        intro o2 ho2
        subst ho2
        refine cx_emit hR1 hc ?_
        intro lc2 sc2 kc2 rl2 ro2 ra2 rt2 rp2 co2 sk2 kd2 hR2
        obtain ⟨g1, g2, g3, g4, g5, g6, g7, g8, g9, g10⟩ := hR2
        have k2 : kc2 - 1 = nI r.length := by rw [g3]; exact nI_pred _
        refine ⟨by rw [k2]; exact vp_in_nI hks (by decide), nm_r (e' := upd kd2 r.length kk) (by rw [k2, nI_clamp (by omega)]) (H _ _ _ _ _ _ _ _ _ _ _ ?_)⟩
        rw [← hkk, ← hoo']
        exact ⟨g1, g2, g3, g4, g5, ⟨pk_us, cx_K_up (Nat.le_refl _) g6.2⟩, g7, g8, g9, g10⟩
      by_cases z : fl = 0
      · exact br_t z (em 23 (hf0 z).symm)
      · exact br_f z (em 12 (hf1 z).symm)
    exact cx_one (P := fun v => v = (if decide (x = kk) = true then 1 else 0)) (fun z => nxt 1 z) (fun z => nxt 0 z) rfl
  refine ⟨e3, ?_⟩
  by_cases t12 : T i = 12
  · refine br_t (by rw [e1, t12]; rfl) (br_f (by decide) (fin 1 2 12 (fun z => absurd z (by decide)) (fun _ => rfl) ?_ ?_))
    · rw [if_pos t12]
    · rw [if_pos t12]
  · refine br_f (e2 12 t12 (by decide)) (br_t rfl (fin 0 1 23 (fun _ => rfl) (fun z => absurd rfl z) ?_ ?_))
    · rw [if_neg t12]
    · rw [if_neg t12]
theorem cx_apC (hn : n ≤ 40) (hK : ∀ i, i < n → tk i = nI (T i) ∧ T i < 23) {post : SX → Prop} {i c : Nat} {y2 y1 x : Int32} {r : List Int32} (hi : i < n) (ho : oo i = nI (ca_o T i)) (hon : ca_o T i < n) (hco : co i = nI c) (hc : c < 40) (hR : cx_R T J rl0 ro0 ra0 rt0 rp0 b stk (y2 :: y1 :: x :: r) code lst lc sc kc rl ro ra rt rp co sk kd) (hks : r.length + 2 < 40) (H : ∀ (lc' sc' kc' : Int32) (rl' ro' ra' rt' rp' co' sk' kd' : Nat → Int32), cx_R T J rl0 ro0 ra0 rt0 rp0 b stk (y1 :: r) (cm_aim code c (nI code.length)) (cm_dem (decide (y1 = y2)) (ca_o T i) (cm_dem (decide (x = 2)) (ca_o T i) lst)) lc' sc' kc' rl' ro' ra' rt' rp' co' sk' kd' → post (oc, nI n, cp, lc', sc', kc', dp, vc, er, ep, uu, cls, num, lnk, lsz, lit, fb, tk, tv, rk, rl', ro', ra', rt', rp', oo, co', sk', kd', fr, fn, fi, vs, ll, li, lt)) : wpX_applyChoice post (oc, nI n, cp, lc, sc, kc, dp, vc, er, ep, uu, cls, num, lnk, lsz, lit, fb, tk, tv, rk, rl, ro, ra, rt, rp, oo, co, sk, kd, fr, fn, fi, vs, ll, li, lt) (nI i) := by
  obtain ⟨h1, h2, h3, h4, h5, h6, h7, h8, h9, h10⟩ := id hR
  have k0 : kc - 2 = nI (r.length + 1) := by rw [h3, show (2 : Int32) = nI 2 from rfl, pk_sub (by show 2 ≤ r.length + 1 + 1 + 1; omega)]; rfl
  refine nm_r k0 ⟨vp_in_nI (by omega) (by decide), nm_r (e' := nI (ca_o T i)) (by rw [nI_clamp (by omega)]; exact ho) ⟨by rw [nI_pred]; exact vp_in_nI (by omega) (by decide), ?_⟩⟩
  rw [show kd (nI (r.length + 1) - 1).toNatClampNeg = x by rw [nI_pred, nI_clamp (by omega)]; exact h6.2.2.1]
  -- the state with the smaller count of kinds: read as y1 :: x :: r less one
  have hRa : cx_R T J rl0 ro0 ra0 rt0 rp0 b stk (x :: r) code lst lc sc (nI (r.length + 1)) rl ro ra rt rp co sk kd := ⟨h1, h2, rfl, h4, h5, h6.2.2, h7, h8, h9, h10⟩
  have last : ∀ v : Int32, v = (if decide (x = 2) = true then 1 else 0) → wX_applyChoice_38 post (nI i) (nI (ca_o T i)) v oc (nI n) cp lc sc (nI (r.length + 1)) dp vc er ep uu cls num lnk lsz lit fb tk tv rk rl ro ra rt rp oo co sk kd fr fn fi vs ll li lt := by
    intro v hv
    obtain ⟨q1, q2, q3, q4, q5, q6, q7, q8, q9, q10⟩ := id hRa
    -- the demand leaves the kinds' cells alone
    have dm : ∀ (post : SX → Prop), (∀ lc', cx_R T J rl0 ro0 ra0 rt0 rp0 b stk (x :: r) code (cm_dem (decide (x = 2)) (ca_o T i) lst) lc' sc (nI (r.length + 1)) rl ro ra rt rp co sk kd → post (oc, nI n, cp, lc', sc, nI (r.length + 1), dp, vc, er, ep, uu, cls, num, lnk, lsz, lit, fb, tk, tv, rk, rl, ro, ra, rt, rp, oo, co, sk, kd, fr, fn, fi, vs, ll, li, lt)) → wpX_demand post (oc, nI n, cp, lc, sc, nI (r.length + 1), dp, vc, er, ep, uu, cls, num, lnk, lsz, lit, fb, tk, tv, rk, rl, ro, ra, rt, rp, oo, co, sk, kd, fr, fn, fi, vs, ll, li, lt) v (nI (ca_o T i)) := by
      intro post HH
      subst hv
      by_cases z : x = 2
      · rw [decide_eq_true z] at HH ⊢
        exact br_f (by decide) (HH _ hRa)
      · rw [decide_eq_false z] at HH ⊢
        refine br_t rfl ?_
        rw [h1]
        by_cases y : lst ≤ ca_o T i
        · refine br_t (nI_le y (by omega)) (HH _ ⟨?_, q2, q3, q4, q5, q6, q7, by show min lst _ ≤ 100; omega, q9, q10⟩)
          show nI lst = nI (min lst (ca_o T i))
          rw [Nat.min_eq_left y]
        · refine br_f (nI_ge (by omega) (by omega)) (HH _ ⟨?_, q2, q3, q4, q5, q6, q7, by show min lst _ ≤ 100; omega, q9, q10⟩)
          show nI _ = nI (min lst (ca_o T i))
          rw [Nat.min_eq_right (by omega)]
    refine dm _ (fun lc' hRb => ?_)
    refine ⟨vp_in_nI (by omega) (by decide), by rw [nI_1]; exact vp_in_nI (by omega) (by decide), ?_⟩
    have ky1 : kd (nI (r.length + 1)).toNatClampNeg = y1 := by rw [nI_clamp (by omega)]; exact h6.2.1
    have ky2 : kd (nI (r.length + 1) + 1).toNatClampNeg = y2 := by rw [nI_1, nI_clamp (by omega)]; exact h6.1
    rw [ky1, ky2]
    have dm2 : ∀ (v2 : Int32), v2 = (if decide (y1 = y2) = true then 1 else 0) → wX_applyChoice_71 post (nI i) (nI (ca_o T i)) v2 oc (nI n) cp (lc') sc (nI (r.length + 1)) dp vc er ep uu cls num lnk lsz lit fb tk tv rk rl ro ra rt rp oo co sk kd fr fn fi vs ll li lt := by
      intro v2 hv2
      obtain ⟨p1, p2, p3, p4, p5, p6, p7, p8, p9, p10⟩ := id hRb
      have tail : ∀ lc2, cx_R T J rl0 ro0 ra0 rt0 rp0 b stk (x :: r) code (cm_dem (decide (y1 = y2)) (ca_o T i) (cm_dem (decide (x = 2)) (ca_o T i) lst)) lc2 sc (nI (r.length + 1)) rl ro ra rt rp co sk kd → wpX_aimHere (fun u => match u with | (oc9, tc9, cp9, lc9, sc9, kc9, dp9, vc9, er9, ep9, uu9, cls9, num9, lnk9, lsz9, lit9, fb9, tk9, tv9, rk9, rl9, ro9, ra9, rt9, rp9, oo9, co9, sk9, kd9, fr9, fn9, fi9, vs9, ll9, li9, lt9) => (vp_in kc9 40 ∧ (vp_in (kc9 - 1) 40 ∧ ∀ kd8 : Nat → Int32, kd8 = upd kd9 (kc9 - 1).toNatClampNeg (kd9 kc9.toNatClampNeg) → post (oc9, tc9, cp9, lc9, sc9, kc9, dp9, vc9, er9, ep9, uu9, cls9, num9, lnk9, lsz9, lit9, fb9, tk9, tv9, rk9, rl9, ro9, ra9, rt9, rp9, oo9, co9, sk9, kd8, fr9, fn9, fi9, vs9, ll9, li9, lt9)))) (oc, nI n, cp, lc2, sc, nI (r.length + 1), dp, vc, er, ep, uu, cls, num, lnk, lsz, lit, fb, tk, tv, rk, rl, ro, ra, rt, rp, oo, co, sk, kd, fr, fn, fi, vs, ll, li, lt) (nI i) := by
        intro lc2 hRc
        have e : 240 + nI c = nI (240 + c) := nI_add 240 c
        have ci : co (nI i).toNatClampNeg = nI c := by rw [nI_clamp (by omega)]; exact hco
        obtain ⟨s1, s2, s3, s4, s5, s6, s7, s8, s9, s10⟩ := hRc
        refine ⟨vp_in_nI (by omega) (by decide), by rw [ci, e]; exact vp_in_nI (by omega) (by decide), nm_r (e' := upd rt (240 + c) (nI code.length)) (by rw [ci, e, nI_clamp (by omega), s4]) ?_⟩
        refine ⟨vp_in_nI (by omega) (by decide), by rw [nI_pred]; exact vp_in_nI (by omega) (by decide), nm_r (e' := upd kd r.length y1) (by rw [ky1, nI_pred, nI_clamp (by omega)]) (H _ _ _ _ _ _ _ _ _ _ _ ⟨s1, s2, s3, by rw [cm_aim_len]; exact s4, s5, ⟨pk_us, cx_K_up (Nat.le_refl _) s6.2⟩, ?_, s8, s9, ?_⟩)⟩
        · intro j x hx
          obtain ⟨y, z1, z2, z3, z4, z5⟩ := cm_aim_get code c _ j x hx
          obtain ⟨g1, g2, g3, g4⟩ := s7 j y z1
          rw [z2, z3, z4, z5]
          refine ⟨g1, g2, ?_, g4⟩
          by_cases z : j = c
          · rw [z, if_pos rfl, pk_us]
          · rw [if_neg z, pk_un (by omega)]; exact g3
        · intro j hj; rw [pk_un (by omega)]; exact s10 j hj
      subst hv2
      by_cases z : y1 = y2
      · rw [decide_eq_true z] at tail ⊢
        exact br_f (by decide) (tail _ hRb)
      · rw [decide_eq_false z] at tail ⊢
        refine br_t rfl ?_
        rw [p1]
        generalize hL : cm_dem (decide (x = 2)) (ca_o T i) lst = L at *
        by_cases y : L ≤ ca_o T i
        · refine br_t (nI_le y (by omega)) (tail _ ⟨?_, p2, p3, p4, p5, p6, p7, by show min L _ ≤ 100; omega, p9, p10⟩)
          show nI L = nI (min L (ca_o T i))
          rw [Nat.min_eq_left y]
        · refine br_f (nI_ge (by omega) (by omega)) (tail _ ⟨?_, p2, p3, p4, p5, p6, p7, by show min L _ ≤ 100; omega, p9, p10⟩)
          show nI _ = nI (min L (ca_o T i))
          rw [Nat.min_eq_right (by omega)]
    exact cx_one (P := fun v => v = (if decide (y1 = y2) = true then 1 else 0)) (fun z => dm2 1 z) (fun z => dm2 0 z) rfl
  exact cx_one (P := fun v => v = (if decide (x = 2) = true then 1 else 0)) (fun z => last 1 z) (fun z => last 0 z) rfl
theorem cx_apB (hn : n ≤ 40) (hK : ∀ i, i < n → tk i = nI (T i) ∧ T i < 23) {post : SX → Prop} {i c : Nat} {y x : Int32} {r : List Int32} (hi : i < n) (ht : 10 ≤ T i ∧ T i ≤ 18) (hco : T i = 10 ∨ T i = 11 → co i = nI c ∧ c < 40) (hR : cx_R T J rl0 ro0 ra0 rt0 rp0 b stk (y :: x :: r) code lst lc sc kc rl ro ra rt rp co sk kd) (hks : r.length + 1 < 40) (hcl : ¬ (T i = 10 ∨ T i = 11) → code.length < 40)
  (Hl : T i = 10 ∨ T i = 11 → ∀ (lc' sc' kc' : Int32) (rl' ro' ra' rt' rp' co' sk' kd' : Nat → Int32), cx_R T J rl0 ro0 ra0 rt0 rp0 b stk (2 :: r) (cm_aim code c (nI code.length)) (cm_dem (decide (x = 2 ∧ y = 2)) i lst) lc' sc' kc' rl' ro' ra' rt' rp' co' sk' kd' → post (oc, nI n, cp, lc', sc', kc', dp, vc, er, ep, uu, cls, num, lnk, lsz, lit, fb, tk, tv, rk, rl', ro', ra', rt', rp', oo, co', sk', kd', fr, fn, fi, vs, ll, li, lt))
  (Hb : ¬ (T i = 10 ∨ T i = 11) → ∀ (lc' sc' kc' : Int32) (rl' ro' ra' rt' rp' co' sk' kd' : Nat → Int32), cx_R T J rl0 ro0 ra0 rt0 rp0 b stk ((if 15 ≤ T i then 1 else 2) :: r) (code ++ [(nI (T i), 0, 0, nI i)]) (cm_dem (if T i = 13 then decide (x = y ∧ ¬ x = 4) else decide (x = 1 ∧ y = 1)) i lst) lc' sc' kc' rl' ro' ra' rt' rp' co' sk' kd' → post (oc, nI n, cp, lc', sc', kc', dp, vc, er, ep, uu, cls, num, lnk, lsz, lit, fb, tk, tv, rk, rl', ro', ra', rt', rp', oo, co', sk', kd', fr, fn, fi, vs, ll, li, lt)) : wpX_applyBinary post (oc, nI n, cp, lc, sc, kc, dp, vc, er, ep, uu, cls, num, lnk, lsz, lit, fb, tk, tv, rk, rl, ro, ra, rt, rp, oo, co, sk, kd, fr, fn, fi, vs, ll, li, lt) (nI i) := by
  obtain ⟨e1, e2, e3⟩ := cx_tk hn hK hi
  have hT := (hK i hi).2
  obtain ⟨h1, h2, h3, h4, h5, h6, h7, h8, h9, h10⟩ := id hR
  have k0 : kc - 1 = nI (r.length + 1) := by rw [h3]; exact nI_pred _
  have hRa : cx_R T J rl0 ro0 ra0 rt0 rp0 b stk (x :: r) code lst lc sc (nI (r.length + 1)) rl ro ra rt rp co sk kd := ⟨h1, h2, rfl, h4, h5, h6.2, h7, h8, h9, h10⟩
  refine nm_r k0 ⟨by rw [nI_pred]; exact vp_in_nI (by omega) (by decide), nm_r (e' := x) (by rw [nI_pred, nI_clamp (by omega)]; exact h6.2.1) ⟨vp_in_nI (by omega) (by decide), nm_r (e' := y) (by rw [nI_clamp (by omega)]; exact h6.1) ⟨e3, nm_r (e' := nI (T i)) e1 ?_⟩⟩⟩
  have t0 : ∀ z, T i ≠ z → z < 23 → ¬ nI (T i) = nI z := fun z h hz y => h ((nI_eq (by omega) (by omega)).1 y)
  have kset : ∀ (K : Int32) { lc5 sc5 kc5 rl5 ro5 ra5 rt5 rp5 co5 sk5 kd5 } {code5 : List cm_I} {lst5 : Nat}, K = (if 15 ≤ T i then 1 else 2) → cx_R T J rl0 ro0 ra0 rt0 rp0 b stk (x :: r) code5 lst5 lc5 sc5 kc5 rl5 ro5 ra5 rt5 rp5 co5 sk5 kd5 → (∀ (lc' sc' kc' : Int32) (rl' ro' ra' rt' rp' co' sk' kd' : Nat → Int32), cx_R T J rl0 ro0 ra0 rt0 rp0 b stk (K :: r) code5 lst5 lc' sc' kc' rl' ro' ra' rt' rp' co' sk' kd' → post (oc, nI n, cp, lc', sc', kc', dp, vc, er, ep, uu, cls, num, lnk, lsz, lit, fb, tk, tv, rk, rl', ro', ra', rt', rp', oo, co', sk', kd', fr, fn, fi, vs, ll, li, lt)) → wX_applyBinary_136 post (nI (T i)) oc (nI n) cp (lc5) (sc5) (kc5) dp vc er ep uu cls num lnk lsz lit fb tk tv rk (rl5) (ro5) (ra5) (rt5) (rp5) oo (co5) (sk5) (kd5) fr fn fi vs ll li lt := by
    intro K lc5 sc5 kc5 rl5 ro5 ra5 rt5 rp5 co5 sk5 kd5 code5 lst5 hk q H5
    obtain ⟨g1, g2, g3, g4, g5, g6, g7, g8, g9, g10⟩ := q
    have k2 : kc5 - 1 = nI r.length := by rw [g3]; exact nI_pred _
    have ii : vp_in (kc5 - 1) 40 := by rw [k2]; exact vp_in_nI (by omega) (by decide)
    by_cases z : 15 ≤ T i
    · rw [if_pos z] at hk
      subst hk
      exact br_f (nI_nlt (b := 15) z (by omega)) ⟨ii, nm_r (e' := upd kd5 r.length 1) (by rw [k2, nI_clamp (by omega)]) (H5 _ _ _ _ _ _ _ _ _ _ _ ⟨g1, g2, g3, g4, g5, ⟨pk_us, cx_K_up (Nat.le_refl _) g6.2⟩, g7, g8, g9, g10⟩)⟩
    · rw [if_neg z] at hk
      subst hk
      exact br_t (nI_lt (b := 15) (by omega) (by decide)) ⟨ii, nm_r (e' := upd kd5 r.length 2) (by rw [k2, nI_clamp (by omega)]) (H5 _ _ _ _ _ _ _ _ _ _ _ ⟨g1, g2, g3, g4, g5, ⟨pk_us, cx_K_up (Nat.le_refl _) g6.2⟩, g7, g8, g9, g10⟩)⟩
  by_cases hl : T i = 10 ∨ T i = 11
  · have HL := Hl hl
    obtain ⟨hc1, hc2⟩ := hco hl
    have l70 : ∀ v : Int32, v = (if decide (x = 2 ∧ y = 2) = true then 1 else 0) → wX_applyBinary_70 post (nI i) (nI (T i)) v oc (nI n) cp lc sc (nI (r.length + 1)) dp vc er ep uu cls num lnk lsz lit fb tk tv rk rl ro ra rt rp oo co sk kd fr fn fi vs ll li lt := by
      intro v hv
      -- the demand changes the least place alone
      refine cx_demk hRa hv (by omega) (fun lc1 hR1 => ?_)
      refine cx_aim hR1 (by omega) hc1 hc2 ?_
      intro lc2 sc2 kc2 rl2 ro2 ra2 rt2 rp2 co2 sk2 kd2 hR2
      exact kset 2 (by rw [if_neg (by omega)]) hR2 HL
    have l54 : wX_applyBinary_54 post (nI i) x y (nI (T i)) oc (nI n) cp lc sc (nI (r.length + 1)) dp vc er ep uu cls num lnk lsz lit fb tk tv rk rl ro ra rt rp oo co sk kd fr fn fi vs ll li lt := by
      by_cases z1 : x = 2
      · refine br_t z1 ?_
        by_cases z2 : y = 2
        · exact br_t z2 (l70 1 (by rw [decide_eq_true ⟨z1, z2⟩]; rfl))
        · exact br_f z2 (l70 0 (by rw [decide_eq_false (fun z => z2 z.2)]; rfl))
      · exact br_f z1 (l70 0 (by rw [decide_eq_false (fun z => z1 z.1)]; rfl))
    by_cases t10 : T i = 10
    · exact br_t (by rw [t10]; rfl) l54
    · exact br_f (t0 10 t10 (by decide)) (br_t (by rw [hl.resolve_left t10]; rfl) l54)
  · have HB := Hb hl
    have hcl' := hcl hl
    have l123 : ∀ v : Int32, v = (if (if T i = 13 then decide (x = y ∧ ¬ x = 4) else decide (x = 1 ∧ y = 1)) = true then 1 else 0) → wX_applyBinary_123 post (nI i) (nI (T i)) v oc (nI n) cp lc sc (nI (r.length + 1)) dp vc er ep uu cls num lnk lsz lit fb tk tv rk rl ro ra rt rp oo co sk kd fr fn fi vs ll li lt := by
      intro v hv
      refine cx_demk hRa hv (by omega) (fun lc1 hR1 => ?_)
      refine cx_emit hR1 hcl' ?_
      intro lc2 sc2 kc2 rl2 ro2 ra2 rt2 rp2 co2 sk2 kd2 hR2
      exact kset _ rfl hR2 HB
    refine br_f (t0 10 (by omega) (by decide)) (br_f (t0 11 (by omega) (by decide)) ?_)
    by_cases t13 : T i = 13
    · rw [if_pos t13] at l123
      refine br_t (by rw [t13]; rfl) ?_
      by_cases z1 : x = y
      · refine br_t z1 ?_
        by_cases z2 : x = 4
        · exact br_t z2 (l123 0 (by rw [decide_eq_false (fun z => z.2 z2)]; rfl))
        · exact br_f z2 (l123 1 (by rw [decide_eq_true ⟨z1, z2⟩]; rfl))
      · exact br_f z1 (l123 0 (by rw [decide_eq_false (fun z => z1 z.1)]; rfl))
    · rw [if_neg t13] at l123
      refine br_f (t0 13 t13 (by decide)) ?_
      by_cases z1 : x = 1
      · refine br_t z1 ?_
        by_cases z2 : y = 1
        · exact br_t z2 (l123 1 (by rw [decide_eq_true ⟨z1, z2⟩]; rfl))
        · exact br_f z2 (l123 0 (by rw [decide_eq_false (fun z => z2 z.2)]; rfl))
      · exact br_f z1 (l123 0 (by rw [decide_eq_false (fun z => z1 z.1)]; rfl))
end
