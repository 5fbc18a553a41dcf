section
variable {post : Int32 → SX → Prop} {Z : (Int32 → SY → Prop) → Prop} {oc tc cp lc sc kc er ep ob tks pl nds res : Int32} {cls num lnk lsz lit fb tk tv rk rl ro ra rt rp oo co sk kd prp opd rn op nm ay prt ylo yhi : Nat → Int32} {o r0 l : Nat} {q len nn : Nat} {xo xa xt xp yo yn ya : Nat → Int32} {yp : Nat → Nat → Nat} {B : Nat → Prop} {k a b : Nat}
theorem si_second {a' b' k' ph : Nat} {tch : Int32} (ih : si_Run post Z oc tc cp lc sc kc er ep ob tks pl nds res cls num lnk lsz lit fb tk tv rk rl ro ra rt rp oo co sk kd prp opd rn op nm ay prt ylo yhi o r0 l q k' a' b' B tch) {s s' w g p w' s1 s2 g1 : Nat} {ret out out1 : Int32} {fr fn fi vs ll li lt sN sP sX sK it vr fr1 fn1 fi1 vs1 ll1 li1 lt1 sN1 sP1 sX1 sK1 it1 vr1 : Nat → Int32} (hP : si_Pre o r0 l q k a b B lsz lit rp s s' w g p out fr fn fi ll li sN sP it vr) (hN : si_N l p w B fr fn fi vs ll li lt sN sP sX sK it vr out fr1 fn1 fi1 vs1 ll1 li1 lt1 sN1 sP1 sX1 sK1 it1 vr1 out1) (hF : ey_F Z ob tks pl nds res cls prp lit lsz fb tk tv opd rk rn op nm ay prt ylo yhi s2 (p + 2) l g1 ret out1 sN1 sP1 sX1 sK1 it1 vr1) (e1 : fn1 l = nI a') (e2 : sN1 (p + 1) = nI (q * 40 + k')) (e3 : sP1 (p + 1) = nI 0) (kN : sN1 p = nI (q * 40 + k)) (kP : sP1 p = nI ph) (hw' : w ≤ w') (h1 : w' + (b' - a') ≤ 40 * (l + 1)) (h2 : p + 1 + (b' - a') ≤ 40 * (l + 1)) (h3 : g1 ≤ 40) (h4 : s1 + 200 * (40 - g1) + 3 * (b' - a') ≤ 15000) (h5 : s2 + 200 * (40 - g1) + 3 * (b' - a') ≤ 15000)
  (hc : ∀ {s3 s4 g2 : Nat} {v out2 : Int32} {fr2 fn2 fi2 vs2 ll2 li2 lt2 sN2 sP2 sX2 sK2 it2 vr2 : Nat → Int32}, si_V o tch v → si_N l p w B fr fn fi vs ll li lt sN sP sX sK it vr out fr2 fn2 fi2 vs2 ll2 li2 lt2 sN2 sP2 sX2 sK2 it2 vr2 out2 → si_N l (p + 1) w' B fr1 fn1 fi1 vs1 ll1 li1 lt1 sN1 sP1 sX1 sK1 it1 vr1 out1 fr2 fn2 fi2 vs2 ll2 li2 lt2 sN2 sP2 sX2 sK2 it2 vr2 out2 → vs2 w' = v → fn2 l = nI b' → sN2 p = nI (q * 40 + k) → sP2 p = nI ph → g1 ≤ g2 → g2 ≤ 40 → s3 + 200 * (40 - g2) ≤ s1 + 200 * (40 - g1) + 3 * (b' - a') → s4 + 200 * (40 - g2) ≤ s2 + 200 * (40 - g1) + 3 * (b' - a') → ey_F Z ob tks pl nds res cls prp lit lsz fb tk tv opd rk rn op nm ay prt ylo yhi s4 (p + 1) l g2 v out2 sN2 sP2 sX2 sK2 it2 vr2 → ex_R post oc tc cp lc sc kc er ep cls num lnk lsz lit fb tk tv rk rl ro ra rt rp oo co sk kd s3 (l + 1) (w' + 1) g2 fr2 fn2 fi2 vs2 ll2 li2 lt2) : ex_R post oc tc cp lc sc kc er ep cls num lnk lsz lit fb tk tv rk rl ro ra rt rp oo co sk kd s1 (l + 1) w' g1 fr1 fn1 fi1 vs1 ll1 li1 lt1 := by
  obtain ⟨hl, efr, efn, efi, hit, hB, esN, esP, h0, hO, hw, hp, hg, hs, hs'⟩ := id hP
  refine ih _ _ _ _ _ _ _ _ _ _ _ _ _ _ _ _ _ _ _ _  (si_pre2 hP hN (si_B_N hB hN) e1 e2 e3 h1 h2 h3 h4 h5) hF ?_
  intro s3 s4 g2 v out2 fr2 fn2 fi2 vs2 ll2 li2 lt2 sN2 sP2 sX2 sK2 it2 vr2 hV hM hv hf hg1 hg2 hs1 hs2 F2
  obtain ⟨c1, c2, c3, c4⟩ := hM.2.2.2.2.2.1 p (by omega)
  exact hc hV (si_N_trans hN (si_N_mono (by omega) hw' (fun _ h => h) hM)) hM hv hf (c1.trans kN) (c2.trans kP) hg1 hg2 hs1 hs2 F2
theorem si_bin (hE : si_E post Z oc tc cp lc sc kc er ep ob tks pl nds res cls num lnk lsz lit fb tk tv rk rl ro ra rt rp oo co sk kd prp opd rn op nm ay prt ylo yhi r0) (hD : si_D q len nn xo xa xt xp yo yn ya yp rl ro ra rt rp op nm ay prt) (hk : k < nn) {t m c : Nat} {t1 t2 : Int32} (ham : a < m) (hmc : m < c) (hcl : c < len) (ht1 : 13 ≤ t) (ht2 : t ≤ 18) (h1 : yo k = nI t) (h3 : xo c = nI t) (h5 : xp c = ya k) (har : gr_ar (yo k) = 2) (ih1 : si_Run post Z oc tc cp lc sc kc er ep ob tks pl nds res cls num lnk lsz lit fb tk tv rk rl ro ra rt rp oo co sk kd prp opd rn op nm ay prt ylo yhi o r0 l q (yp k 0) a m B t1) (ih2 : si_Run post Z oc tc cp lc sc kc er ep ob tks pl nds res cls num lnk lsz lit fb tk tv rk rl ro ra rt rp oo co sk kd prp opd rn op nm ay prt ylo yhi o r0 l q (yp k 1) m c B t2) : si_Run post Z oc tc cp lc sc kc er ep ob tks pl nds res cls num lnk lsz lit fb tk tv rk rl ro ra rt rp oo co sk kd prp opd rn op nm ay prt ylo yhi o r0 l q k a (c + 1) B (if t ≤ 14 then 2 else 1) := by
  intro s s' w g p ret out fr fn fi vs ll li lt sN sP sX sK it vr hP hF hc
  obtain ⟨hl, efr, efn, efi, hit, hB, esN, esP, h0, hO, hw, hp, hg, hs, hs'⟩ := id hP
  obtain ⟨hq, hlen, hnn, erl, cX, cY, cP⟩ := id hD
  obtain ⟨y1, y2, y3⟩ := cY k hk
  obtain ⟨x1, x2, x3, x4⟩ := cX c hcl
  refine si_first hD hk (t0 := t) (m := m) h1 (by omega) (by omega) (by omega) (by omega) (by omega) (by omega) ham (by omega) ih1 hP hF ?_
  intro s1 s2 g1 v out1 fr1 fn1 fi1 vs1 ll1 li1 lt1 sN1 sP1 sX1 sK1 it1 vr1 hV hN hv hf kN kP hg1 hg2 hs1 hs2 F2
  have fr1l : fr1 l = nI q := (hN.1 l (Nat.le_refl l)).1.trans efr
  have at2 : ey_at sN1 sP1 s2 p l (q * 40 + k) 1 := ⟨by omega, by omega, hl, by omega, kN, kP, by omega⟩
  have F3 := yr_bl ht1 ht2 at2 (y1.trans h1) rfl (by omega) F2
  have e1 : prt ((q * 40 + k) * 3 + 1) = nI (q * 40 + yp k 1) := cP k 1 hk (by omega)
  rw [e1] at F3
  refine si_second ih2 hP (si_N_sN (by omega) (si_N_sP (by omega) (si_N_sP (by omega) (si_N_sX (Nat.le_refl _) hN)))) F3 hf pk_us pk_us (by rw [pk_un (by omega)]; exact kN) (by rw [pk_un (by omega)]; exact pk_us) (w' := w + 1) (by omega) (by omega) (by omega) hg2 (by omega) (by omega) ?_
  intro s3 s4 g2 v2 out2 fr2 fn2 fi2 vs2 ll2 li2 lt2 sN2 sP2 sX2 sK2 it2 vr2 hV2 hN2 hM hv2 hf2 kN2 kP2 hg3 hg4 hs3 hs4 F4
  have fr2l : fr2 l = nI q := (hN2.1 l (Nat.le_refl l)).1.trans efr
  have at3 : ex_at rl fr2 fn2 s3 l q c len := ⟨by omega, hl, hq, fr2l, hf2, erl, by omega, hlen⟩
  have at4 : ey_at sN2 sP2 s4 p l (q * 40 + k) 2 := ⟨by omega, by omega, hl, by omega, kN2, kP2, by omega⟩
  have ePl : rp (q * 40 + c) = ay (q * 40 + k) := x4.trans (h5.trans y3.symm)
  have eX : sX2 p = v := (hM.2.2.2.2.2.1 p (by omega)).2.2.1.trans pk_us
  have eL : vs2 w = v := (hM.2.2.1 w (by omega)).trans hv
  by_cases hz : t = 18 ∧ v2 = 0
  · obtain ⟨hz1, hz2⟩ := hz
    subst hz1
    have E1 := yr_div at4 (y1.trans h1) rfl hz2 F4
    exact xr_div at3 (x1.trans h3) (by omega) (hv2.trans hz2) (hE 4 _ _ _ _ _ _ _ _ _ _ _ (by decide) (by decide) (by omega) (si_eo h0 (si_O_N hO hN2) (by omega) ePl) E1)
  · have F5 := yr_br ht1 ht2 at4 (y1.trans h1) rfl hz F4
    rw [eX] at F5
    refine xr_bin at3 ht1 ht2 (x1.trans h3) (by omega) (by rw [hv2]; exact hz) ?_
    rw [eL, hv2]
    refine hc ?_ (si_N_fn (Nat.le_refl _) (si_N_vs (Nat.le_refl _) (si_N_sP (Nat.le_refl _) hN2))) pk_us pk_us (by omega) hg4 (by omega) (by omega) F5
    by_cases z : t ≤ 14
    · rw [if_pos z]
      refine ⟨fun _ => ?_, fun y => absurd y (by decide), fun y => absurd y (by decide)⟩
      have z2 : t = 13 ∨ t = 14 := by omega
      rcases z2 with rfl | rfl
      · by_cases y : v = v2
        · exact Or.inr (if_pos y)
        · exact Or.inl (if_neg y)
      · by_cases y : v2 ≤ v
        · exact Or.inl (if_pos y)
        · exact Or.inr (if_neg y)
    · rw [if_neg z]
      exact ⟨fun z => absurd z (by decide), fun z => absurd z (by decide), fun z => absurd z (by decide)⟩
theorem si_and (hD : si_D q len nn xo xa xt xp yo yn ya yp rl ro ra rt rp op nm ay prt) (hk : k < nn) {m : Nat} (ham : a < m) (hmb : m + 1 < b) (hbl : b ≤ len) (h1 : yo k = 11) (h3 : xo m = 11) (h4 : xt m = nI b) (ih1 : si_Run post Z oc tc cp lc sc kc er ep ob tks pl nds res cls num lnk lsz lit fb tk tv rk rl ro ra rt rp oo co sk kd prp opd rn op nm ay prt ylo yhi o r0 l q (yp k 0) a m B 2) (ih2 : si_Run post Z oc tc cp lc sc kc er ep ob tks pl nds res cls num lnk lsz lit fb tk tv rk rl ro ra rt rp oo co sk kd prp opd rn op nm ay prt ylo yhi o r0 l q (yp k 1) (m + 1) b B 2) : si_Run post Z oc tc cp lc sc kc er ep ob tks pl nds res cls num lnk lsz lit fb tk tv rk rl ro ra rt rp oo co sk kd prp opd rn op nm ay prt ylo yhi o r0 l q k a b B 2 := by
  intro s s' w g p ret out fr fn fi vs ll li lt sN sP sX sK it vr hP hF hc
  obtain ⟨hl, efr, efn, efi, hit, hB, esN, esP, h0, hO, hw, hp, hg, hs, hs'⟩ := id hP
  obtain ⟨hq, hlen, hnn, erl, cX, cY, cP⟩ := id hD
  obtain ⟨y1, y2, y3⟩ := cY k hk
  obtain ⟨x1, x2, x3, x4⟩ := cX m (by omega)
  refine si_first hD hk (t0 := 11) (m := m) h1 (by decide) (by decide) (by decide) (by decide) (by decide) (by rw [h1]; decide) ham (by omega) ih1 hP hF ?_
  intro s1 s2 g1 v out1 fr1 fn1 fi1 vs1 ll1 li1 lt1 sN1 sP1 sX1 sK1 it1 vr1 hV hN hv hf kN kP hg1 hg2 hs1 hs2 F2
  have fr1l : fr1 l = nI q := (hN.1 l (Nat.le_refl l)).1.trans efr
  have at1 : ex_at rl fr1 fn1 s1 l q m len := ⟨by omega, hl, hq, fr1l, hf, erl, by omega, hlen⟩
  have at2 : ey_at sN1 sP1 s2 p l (q * 40 + k) 1 := ⟨by omega, by omega, hl, by omega, kN, kP, by omega⟩
  have hst : ∀ e : v = 0, ex_R post oc tc cp lc sc kc er ep cls num lnk lsz lit fb tk tv rk rl ro ra rt rp oo co sk kd s1 (l + 1) (w + 1) g1 fr1 fn1 fi1 vs1 ll1 li1 lt1 := by
    intro e
    have F3 := yr_and0 at2 (y1.trans h1) rfl e F2
    refine xr_and0 at1 (x1.trans h3) (by omega) (hv.trans e) ?_
    exact hc hV (si_N_fn (Nat.le_refl _) (si_N_fn (Nat.le_refl _) (si_N_sP (Nat.le_refl _) hN))) hv (by rw [pk_us]; exact x3.trans h4) hg1 hg2 (by omega) (by omega) F3
  have hgo : ∀ e : v = 1, ex_R post oc tc cp lc sc kc er ep cls num lnk lsz lit fb tk tv rk rl ro ra rt rp oo co sk kd s1 (l + 1) (w + 1) g1 fr1 fn1 fi1 vs1 ll1 li1 lt1 := by
    intro e
    have F3 := yr_and1 at2 (y1.trans h1) rfl (by omega) (by rw [e]; decide) F2
    have e1 : prt ((q * 40 + k) * 3 + 1) = nI (q * 40 + yp k 1) := cP k 1 hk (by rw [h1]; decide)
    rw [e1] at F3
    refine xr_and1 at1 (x1.trans h3) (by omega) (by rw [hv, e]; decide) ?_
    refine si_second ih2 hP (si_N_fn (Nat.le_refl _) (si_N_sN (by omega) (si_N_sP (by omega) (si_N_sP (by omega) hN)))) F3 pk_us pk_us pk_us (by rw [pk_un (by omega)]; exact kN) (by rw [pk_un (by omega)]; exact pk_us) (Nat.le_refl _) (by omega) (by omega) hg2 (by omega) (by omega) ?_
    intro s3 s4 g2 v2 out2 fr2 fn2 fi2 vs2 ll2 li2 lt2 sN2 sP2 sX2 sK2 it2 vr2 hV2 hN2 hM hv2 hf2 kN2 kP2 hg3 hg4 hs3 hs4 F4
    have at4 : ey_at sN2 sP2 s4 p l (q * 40 + k) 2 := ⟨by omega, by omega, hl, by omega, kN2, kP2, by omega⟩
    have F5 := yr_ch11 at4 (y1.trans h1) rfl F4
    exact hc hV2 (si_N_sP (Nat.le_refl _) hN2) hv2 hf2 (by omega) hg4 (by omega) (by omega) F5
  rcases hV.1 rfl with e | e
  · exact hst e
  · exact hgo e
theorem si_or (hD : si_D q len nn xo xa xt xp yo yn ya yp rl ro ra rt rp op nm ay prt) (hk : k < nn) {m : Nat} (ham : a < m) (hmb : m + 1 < b) (hbl : b ≤ len) (h1 : yo k = 10) (h3 : xo m = 10) (h4 : xt m = nI b) (ih1 : si_Run post Z oc tc cp lc sc kc er ep ob tks pl nds res cls num lnk lsz lit fb tk tv rk rl ro ra rt rp oo co sk kd prp opd rn op nm ay prt ylo yhi o r0 l q (yp k 0) a m B 2) (ih2 : si_Run post Z oc tc cp lc sc kc er ep ob tks pl nds res cls num lnk lsz lit fb tk tv rk rl ro ra rt rp oo co sk kd prp opd rn op nm ay prt ylo yhi o r0 l q (yp k 1) (m + 1) b B 2) : si_Run post Z oc tc cp lc sc kc er ep ob tks pl nds res cls num lnk lsz lit fb tk tv rk rl ro ra rt rp oo co sk kd prp opd rn op nm ay prt ylo yhi o r0 l q k a b B 2 := by
  intro s s' w g p ret out fr fn fi vs ll li lt sN sP sX sK it vr hP hF hc
  obtain ⟨hl, efr, efn, efi, hit, hB, esN, esP, h0, hO, hw, hp, hg, hs, hs'⟩ := id hP
  obtain ⟨hq, hlen, hnn, erl, cX, cY, cP⟩ := id hD
  obtain ⟨y1, y2, y3⟩ := cY k hk
  obtain ⟨x1, x2, x3, x4⟩ := cX m (by omega)
  refine si_first hD hk (t0 := 10) (m := m) h1 (by decide) (by decide) (by decide) (by decide) (by decide) (by rw [h1]; decide) ham (by omega) ih1 hP hF ?_
  intro s1 s2 g1 v out1 fr1 fn1 fi1 vs1 ll1 li1 lt1 sN1 sP1 sX1 sK1 it1 vr1 hV hN hv hf kN kP hg1 hg2 hs1 hs2 F2
  have fr1l : fr1 l = nI q := (hN.1 l (Nat.le_refl l)).1.trans efr
  have at1 : ex_at rl fr1 fn1 s1 l q m len := ⟨by omega, hl, hq, fr1l, hf, erl, by omega, hlen⟩
  have at2 : ey_at sN1 sP1 s2 p l (q * 40 + k) 1 := ⟨by omega, by omega, hl, by omega, kN, kP, by omega⟩
  have hst : ∀ e : v = 1, ex_R post oc tc cp lc sc kc er ep cls num lnk lsz lit fb tk tv rk rl ro ra rt rp oo co sk kd s1 (l + 1) (w + 1) g1 fr1 fn1 fi1 vs1 ll1 li1 lt1 := by
    intro e
    have F3 := yr_or1 at2 (y1.trans h1) rfl e F2
    refine xr_or1 at1 (x1.trans h3) (by omega) (by rw [hv, e]; decide) ?_
    exact hc hV (si_N_fn (Nat.le_refl _) (si_N_fn (Nat.le_refl _) (si_N_sP (Nat.le_refl _) hN))) hv (by rw [pk_us]; exact x3.trans h4) hg1 hg2 (by omega) (by omega) F3
  have hgo : ∀ e : v = 0, ex_R post oc tc cp lc sc kc er ep cls num lnk lsz lit fb tk tv rk rl ro ra rt rp oo co sk kd s1 (l + 1) (w + 1) g1 fr1 fn1 fi1 vs1 ll1 li1 lt1 := by
    intro e
    have F3 := yr_or0 at2 (y1.trans h1) rfl (by omega) (by rw [e]; decide) F2
    have e1 : prt ((q * 40 + k) * 3 + 1) = nI (q * 40 + yp k 1) := cP k 1 hk (by rw [h1]; decide)
    rw [e1] at F3
    refine xr_or0 at1 (x1.trans h3) (by omega) (hv.trans e) ?_
    refine si_second ih2 hP (si_N_fn (Nat.le_refl _) (si_N_sN (by omega) (si_N_sP (by omega) (si_N_sP (by omega) hN)))) F3 pk_us pk_us pk_us (by rw [pk_un (by omega)]; exact kN) (by rw [pk_un (by omega)]; exact pk_us) (Nat.le_refl _) (by omega) (by omega) hg2 (by omega) (by omega) ?_
    intro s3 s4 g2 v2 out2 fr2 fn2 fi2 vs2 ll2 li2 lt2 sN2 sP2 sX2 sK2 it2 vr2 hV2 hN2 hM hv2 hf2 kN2 kP2 hg3 hg4 hs3 hs4 F4
    have at4 : ey_at sN2 sP2 s4 p l (q * 40 + k) 2 := ⟨by omega, by omega, hl, by omega, kN2, kP2, by omega⟩
    have F5 := yr_ch10 at4 (y1.trans h1) rfl F4
    exact hc hV2 (si_N_sP (Nat.le_refl _) hN2) hv2 hf2 (by omega) hg4 (by omega) (by omega) F5
  rcases hV.1 rfl with e | e
  · exact hgo e
  · exact hst e
theorem si_if (hD : si_D q len nn xo xa xt xp yo yn ya yp rl ro ra rt rp op nm ay prt) (hk : k < nn) {m m2 : Nat} {t : Int32} (ham : a < m) (hm1 : m + 1 < m2) (hm2 : m2 + 1 < b) (hbl : b ≤ len) (h1 : yo k = 8) (h3 : xo m = 8) (h4 : xt m = nI (m2 + 1)) (h5 : xo m2 = 9) (h6 : xt m2 = nI b) (ih1 : si_Run post Z oc tc cp lc sc kc er ep ob tks pl nds res cls num lnk lsz lit fb tk tv rk rl ro ra rt rp oo co sk kd prp opd rn op nm ay prt ylo yhi o r0 l q (yp k 0) a m B 2) (ih2 : si_Run post Z oc tc cp lc sc kc er ep ob tks pl nds res cls num lnk lsz lit fb tk tv rk rl ro ra rt rp oo co sk kd prp opd rn op nm ay prt ylo yhi o r0 l q (yp k 1) (m + 1) m2 B t) (ih3 : si_Run post Z oc tc cp lc sc kc er ep ob tks pl nds res cls num lnk lsz lit fb tk tv rk rl ro ra rt rp oo co sk kd prp opd rn op nm ay prt ylo yhi o r0 l q (yp k 2) (m2 + 1) b B t) : si_Run post Z oc tc cp lc sc kc er ep ob tks pl nds res cls num lnk lsz lit fb tk tv rk rl ro ra rt rp oo co sk kd prp opd rn op nm ay prt ylo yhi o r0 l q k a b B t := by
  intro s s' w g p ret out fr fn fi vs ll li lt sN sP sX sK it vr hP hF hc
  obtain ⟨hl, efr, efn, efi, hit, hB, esN, esP, h0, hO, hw, hp, hg, hs, hs'⟩ := id hP
  obtain ⟨hq, hlen, hnn, erl, cX, cY, cP⟩ := id hD
  obtain ⟨y1, y2, y3⟩ := cY k hk
  obtain ⟨x1, x2, x3, x4⟩ := cX m (by omega)
  obtain ⟨z1, z2, z3, z4⟩ := cX m2 (by omega)
  refine si_first hD hk (t0 := 8) (m := m) h1 (by decide) (by decide) (by decide) (by decide) (by decide) (by rw [h1]; decide) ham (by omega) ih1 hP hF ?_
  intro s1 s2 g1 v out1 fr1 fn1 fi1 vs1 ll1 li1 lt1 sN1 sP1 sX1 sK1 it1 vr1 hV hN hv hf kN kP hg1 hg2 hs1 hs2 F2
  have fr1l : fr1 l = nI q := (hN.1 l (Nat.le_refl l)).1.trans efr
  have at1 : ex_at rl fr1 fn1 s1 l q m len := ⟨by omega, hl, hq, fr1l, hf, erl, by omega, hlen⟩
  have at2 : ey_at sN1 sP1 s2 p l (q * 40 + k) 1 := ⟨by omega, by omega, hl, by omega, kN, kP, by omega⟩
  rcases hV.1 rfl with e | e
  · have F3 := yr_if0 at2 (y1.trans h1) rfl (by omega) (by rw [e]; decide) F2
    have e1 : prt ((q * 40 + k) * 3 + 2) = nI (q * 40 + yp k 2) := cP k 2 hk (by rw [h1]; decide)
    rw [e1] at F3
    refine xr_ask0 at1 (x1.trans h3) (by omega) (hv.trans e) ?_
    refine si_second ih3 hP (si_N_fn (Nat.le_refl _) (si_N_fn (Nat.le_refl _) (si_N_sN (by omega) (si_N_sP (by omega) (si_N_sP (by omega) hN))))) F3 (by rw [pk_us]; exact x3.trans h4) pk_us pk_us (by rw [pk_un (by omega)]; exact kN) (by rw [pk_un (by omega)]; exact pk_us) (Nat.le_refl _) (by omega) (by omega) hg2 (by omega) (by omega) ?_
    intro s3 s4 g2 v2 out2 fr2 fn2 fi2 vs2 ll2 li2 lt2 sN2 sP2 sX2 sK2 it2 vr2 hV2 hN2 hM hv2 hf2 kN2 kP2 hg3 hg4 hs3 hs4 F4
    have at4 : ey_at sN2 sP2 s4 p l (q * 40 + k) 2 := ⟨by omega, by omega, hl, by omega, kN2, kP2, by omega⟩
    have F5 := yr_ch8 at4 (y1.trans h1) rfl F4
    exact hc hV2 (si_N_sP (Nat.le_refl _) hN2) hv2 hf2 (by omega) hg4 (by omega) (by omega) F5
  · have F3 := yr_if1 at2 (y1.trans h1) rfl (by omega) e F2
    have e1 : prt ((q * 40 + k) * 3 + 1) = nI (q * 40 + yp k 1) := cP k 1 hk (by rw [h1]; decide)
    rw [e1] at F3
    refine xr_ask1 at1 (x1.trans h3) (by omega) (by rw [hv, e]; decide) ?_
    refine si_second ih2 hP (si_N_fn (Nat.le_refl _) (si_N_sN (by omega) (si_N_sP (by omega) (si_N_sP (by omega) hN)))) F3 pk_us pk_us pk_us (by rw [pk_un (by omega)]; exact kN) (by rw [pk_un (by omega)]; exact pk_us) (Nat.le_refl _) (by omega) (by omega) hg2 (by omega) (by omega) ?_
    intro s3 s4 g2 v2 out2 fr2 fn2 fi2 vs2 ll2 li2 lt2 sN2 sP2 sX2 sK2 it2 vr2 hV2 hN2 hM hv2 hf2 kN2 kP2 hg3 hg4 hs3 hs4 F4
    have fr2l : fr2 l = nI q := (hN2.1 l (Nat.le_refl l)).1.trans efr
    have at3 : ex_at rl fr2 fn2 s3 l q m2 len := ⟨by omega, hl, hq, fr2l, hf2, erl, by omega, hlen⟩
    have at4 : ey_at sN2 sP2 s4 p l (q * 40 + k) 2 := ⟨by omega, by omega, hl, by omega, kN2, kP2, by omega⟩
    have F5 := yr_ch8 at4 (y1.trans h1) rfl F4
    refine xr_col at3 (z1.trans h5) ?_
    exact hc hV2 (si_N_fn (Nat.le_refl _) (si_N_fn (Nat.le_refl _) (si_N_sP (Nat.le_refl _) hN2))) hv2 (by rw [pk_us]; exact z3.trans h6) (by omega) hg4 (by omega) (by omega) F5
theorem si_call (hE : si_E post Z oc tc cp lc sc kc er ep ob tks pl nds res cls num lnk lsz lit fb tk tv rk rl ro ra rt rp oo co sk kd prp opd rn op nm ay prt ylo yhi r0) (ho8 : o ≤ 8) (hD : si_D q len nn xo xa xt xp yo yn ya yp rl ro ra rt rp op nm ay prt) (hk : k < nn) {r c : Nat} {t : Int32} (ham : a < c) (hcl : c < len) (hr6 : r < 6) (h1 : yo k = 5) (h2 : yn k = nI r) (h3 : xo c = 5) (h4 : xa c = nI r) (h5 : xp c = ya k) (hR : l < 4 → ∃ lr, 0 < lr ∧ lr ≤ 40 ∧ rl r = nI lr ∧ si_Run post Z oc tc cp lc sc kc er ep ob tks pl nds res cls num lnk lsz lit fb tk tv rk rl ro ra rt rp oo co sk kd prp opd rn op nm ay prt ylo yhi o r0 (l + 1) r 0 0 lr (fun _ => False) t) (ih1 : si_Run post Z oc tc cp lc sc kc er ep ob tks pl nds res cls num lnk lsz lit fb tk tv rk rl ro ra rt rp oo co sk kd prp opd rn op nm ay prt ylo yhi o r0 l q (yp k 0) a c B 3) : si_Run post Z oc tc cp lc sc kc er ep ob tks pl nds res cls num lnk lsz lit fb tk tv rk rl ro ra rt rp oo co sk kd prp opd rn op nm ay prt ylo yhi o r0 l q k a (c + 1) B t := by
  intro s s' w g p ret out fr fn fi vs ll li lt sN sP sX sK it vr hP hF hc
  obtain ⟨hl, efr, efn, efi, hit, hB, esN, esP, h0, hO, hw, hp, hg, hs, hs'⟩ := id hP
  obtain ⟨hq, hlen, hnn, erl, cX, cY, cP⟩ := id hD
  obtain ⟨y1, y2, y3⟩ := cY k hk
  obtain ⟨x1, x2, x3, x4⟩ := cX c hcl
  refine si_first hD hk (t0 := 5) (m := c) h1 (by decide) (by decide) (by decide) (by decide) (by decide) (by rw [h1]; decide) ham (by omega) ih1 hP hF ?_
  intro s1 s2 g1 v out1 fr1 fn1 fi1 vs1 ll1 li1 lt1 sN1 sP1 sX1 sK1 it1 vr1 hV hN hv hf kN kP hg1 hg2 hs1 hs2 F2
  have fr1l : fr1 l = nI q := (hN.1 l (Nat.le_refl l)).1.trans efr
  have at1 : ex_at rl fr1 fn1 s1 l q c len := ⟨by omega, hl, hq, fr1l, hf, erl, by omega, hlen⟩
  have at2 : ey_at sN1 sP1 s2 p l (q * 40 + k) 1 := ⟨by omega, by omega, hl, by omega, kN, kP, by omega⟩
  have ePl : rp (q * 40 + c) = ay (q * 40 + k) := x4.trans (h5.trans y3.symm)
  rcases hV.2.1 rfl with e | ⟨i, hi, e⟩
  · subst e
    have E1 := yr_cl_nul at2 (y1.trans h1) rfl rfl F2
    exact xr_cl_nul at1 (x1.trans h3) (by omega) hv (hE 2 _ _ _ _ _ _ _ _ _ _ _ (by decide) (by decide) (by omega) (si_eo h0 (si_O_N hO hN) (by omega) ePl) E1)
  · subst e
    by_cases hl4 : l = 4
    · have E1 := yr_cl_deep at2 (y1.trans h1) rfl (i := i) (by omega) rfl hl4 F2
      exact xr_cl_deep at1 (x1.trans h3) (i := i) (by omega) (by omega) hv hl4 (hE 5 _ _ _ _ _ _ _ _ _ _ _ (by decide) (by decide) (by omega) (si_eo h0 (si_O_N hO hN) (by omega) ePl) E1)
    · by_cases hg40 : g1 = 40
      · have E1 := yr_cl_stop at2 (y1.trans h1) rfl (i := i) (by omega) rfl (by omega) hg40 F2
        exact xr_cl_stop at1 (x1.trans h3) (i := i) (by omega) (by omega) hv (by omega) hg40 (hE 6 _ _ _ _ _ _ _ _ _ _ _ (by decide) (by decide) (by omega) (si_eo h0 (si_O_N hO hN) (by omega) ePl) E1)
      · obtain ⟨lr, hlr0, hlr, elr, ihr⟩ := hR (by omega)
        have F3 := yr_cl_ok at2 (y1.trans h1) rfl (i := i) (by omega) rfl (by omega) (by omega) hr6 (y2.trans h2) (by omega) F2
        refine xr_cl_ok at1 (x1.trans h3) (i := i) (by omega) (by omega) hv (by omega) (by omega) ?_
        rw [x2.trans h4]
        obtain ⟨jo, hjo, ejo1, ejo2⟩ := si_eo (c := c) h0 (si_O_N hO hN) (by omega) ePl
        have hPr : si_Pre o r0 (l + 1) r 0 0 lr (fun _ => False) lsz lit rp (s1 + 1) (s2 + 1) w (g1 + 1) (p + 1) (if l = 0 then ay (q * 40 + k) else out1) (upd fr1 (l + 1) (nI r)) (upd (upd fn1 l (nI (c + 1))) (l + 1) 0) (upd fi1 (l + 1) (nI i)) ll1 li1 (upd sN1 (p + 1) (nI (r * 40))) (upd (upd sP1 p (nI 2)) (p + 1) 0) (upd it1 (l + 1) (nI i)) vr1 := by
          refine ⟨by omega, pk_us, pk_us, pk_us.trans pk_us.symm, ⟨i, hi, pk_us⟩, fun v hv z => absurd z id, pk_us, pk_us, fun z => absurd z (by omega), fun _ => ⟨jo, hjo, ?_, ejo2.symm⟩, by omega, by omega, by omega, by omega, by omega⟩
          rw [pk_un (by omega)]; exact ejo1
        refine ihr _ _ _ _ _ _ _ _ _ _ _ _ _ _ _ _ _ _ _ _  hPr F3 ?_
        intro s3 s4 g2 v2 out2 fr2 fn2 fi2 vs2 ll2 li2 lt2 sN2 sP2 sX2 sK2 it2 vr2 hV2 hM hv2 hf2 hg3 hg4 hs3 hs4 F4
        obtain ⟨c1, c2, c3, c4⟩ := hM.2.2.2.2.2.1 p (by omega)
        have at4 : ey_at sN2 sP2 s4 p (l + 1) (q * 40 + k) 2 := ⟨by omega, by omega, by omega, by omega, by rw [c1, pk_un (by omega)]; exact kN, by rw [c2, pk_un (by omega)]; exact pk_us, by omega⟩
        have F5 := yr_cl_ret at4 (y1.trans h1) rfl (by omega) F4
        refine xr_ret (q := r) (len := lr) (by omega) (by omega) (by omega) hr6 ((hM.1 (l + 1) (Nat.le_refl _)).1.trans pk_us) elr hlr hf2 ?_
        have NA : si_N l p w B fr fn fi vs ll li lt sN sP sX sK it vr out (upd fr1 (l + 1) (nI r)) (upd (upd fn1 l (nI (c + 1))) (l + 1) 0) (upd fi1 (l + 1) (nI i)) vs1 ll1 li1 lt1 (upd sN1 (p + 1) (nI (r * 40))) (upd (upd sP1 p (nI 2)) (p + 1) 0) sX1 sK1 (upd it1 (l + 1) (nI i)) vr1 (if l = 0 then ay (q * 40 + k) else out1) :=
          si_N_out (fun z => if_neg (by omega)) (si_N_it (by omega) (si_N_sP (by omega) (si_N_sP (by omega) (si_N_sN (by omega) (si_N_fi (by omega) (si_N_fn (by omega) (si_N_fn (Nat.le_refl _) (si_N_fr (by omega) hN))))))))
        refine hc hV2 (si_N_sP (Nat.le_refl _) (si_N_trans NA (si_N_up (by omega) (Nat.le_refl _) hM))) hv2 ?_ (by omega) hg4 (by omega) (by omega) F5
        rw [hM.2.1 l (by omega), pk_un (by omega)]; exact pk_us
end
