section
variable {post : Int32 → SX → Prop} {Z : (Int32 → SY → Prop) → Prop} {oc tc cp lc sc kc er ep ob tks pl nds res : Int32} {cls num lnk lsz lit fb tk tv rk rl ro ra rt rp oo co sk kd prp opd rn op nm ay prt ylo yhi : Nat → Int32} {o r0 l : Nat} {q len nn : Nat} {xo xa xt xp yo yn ya : Nat → Int32} {yp : Nat → Nat → Nat} {B : Nat → Prop} {k a b : Nat}
theorem si_num (hD : si_D q len nn xo xa xt xp yo yn ya yp rl ro ra rt rp op nm ay prt) (hk : k < nn) (hal : a < len) (h1 : yo k = 0) (h2 : xo a = 0) (h3 : xa a = yn k) : si_Run post Z oc tc cp lc sc kc er ep ob tks pl nds res cls num lnk lsz lit fb tk tv rk rl ro ra rt rp oo co sk kd prp opd rn op nm ay prt ylo yhi o r0 l q k a (a + 1) B 1 := by
  intro s s' w g p ret out fr fn fi vs ll li lt sN sP sX sK it vr hP hF hc
  obtain ⟨hl, efr, efn, efi, hit, hB, esN, esP, h0, hO, hw, hp, hg, hs, hs'⟩ := id hP
  obtain ⟨hq, hlen, hnn, erl, cX, cY, cP⟩ := id hD
  obtain ⟨y1, y2, y3⟩ := cY k hk
  obtain ⟨x1, x2, x3, x4⟩ := cX a hal
  have at1 : ex_at rl fr fn s l q a len := ⟨by omega, hl, hq, efr, efn, erl, hal, hlen⟩
  have at2 : ey_at sN sP s' p l (q * 40 + k) 0 := ⟨by omega, by omega, hl, by omega, esN, esP, by omega⟩
  have F1 := yr_num at2 (y1.trans h1) hF
  refine xr_num at1 (x1.trans h2) (by omega) ?_
  refine hc ?_ (si_N_fn (Nat.le_refl _) (si_N_vs (Nat.le_refl _) (si_N_sP (Nat.le_refl _) si_N_refl))) ?_ pk_us (by omega) (by omega) (by omega) (by omega) F1
  · exact ⟨fun z => absurd z (by decide), fun z => absurd z (by decide), fun z => absurd z (by decide)⟩
  · exact pk_us.trans (x2.trans (h3.trans y2.symm))
theorem si_it (hD : si_D q len nn xo xa xt xp yo yn ya yp rl ro ra rt rp op nm ay prt) (hk : k < nn) (hal : a < len) (h1 : yo k = 3) (h2 : xo a = 3) : si_Run post Z oc tc cp lc sc kc er ep ob tks pl nds res cls num lnk lsz lit fb tk tv rk rl ro ra rt rp oo co sk kd prp opd rn op nm ay prt ylo yhi o r0 l q k a (a + 1) B 3 := by
  intro s s' w g p ret out fr fn fi vs ll li lt sN sP sX sK it vr hP hF hc
  obtain ⟨hl, efr, efn, efi, hit, hB, esN, esP, h0, hO, hw, hp, hg, hs, hs'⟩ := id hP
  obtain ⟨hq, hlen, hnn, erl, cX, cY, cP⟩ := id hD
  obtain ⟨y1, y2, y3⟩ := cY k hk
  obtain ⟨x1, x2, x3, x4⟩ := cX a hal
  have at1 : ex_at rl fr fn s l q a len := ⟨by omega, hl, hq, efr, efn, erl, hal, hlen⟩
  have at2 : ey_at sN sP s' p l (q * 40 + k) 0 := ⟨by omega, by omega, hl, by omega, esN, esP, by omega⟩
  have F1 := yr_it at2 (y1.trans h1) hF
  refine xr_it at1 (x1.trans h2) (by omega) ?_
  refine hc ?_ (si_N_fn (Nat.le_refl _) (si_N_vs (Nat.le_refl _) (si_N_sP (Nat.le_refl _) si_N_refl))) ?_ pk_us (by omega) (by omega) (by omega) (by omega) F1
  · exact ⟨fun z => absurd z (by decide), fun _ => Or.inr hit, fun z => absurd z (by decide)⟩
  · exact pk_us.trans efi
theorem si_nil (hD : si_D q len nn xo xa xt xp yo yn ya yp rl ro ra rt rp op nm ay prt) (hk : k < nn) (hal : a < len) (h1 : yo k = 19) (h2 : xo a = 19) : si_Run post Z oc tc cp lc sc kc er ep ob tks pl nds res cls num lnk lsz lit fb tk tv rk rl ro ra rt rp oo co sk kd prp opd rn op nm ay prt ylo yhi o r0 l q k a (a + 1) B 3 := by
  intro s s' w g p ret out fr fn fi vs ll li lt sN sP sX sK it vr hP hF hc
  obtain ⟨hl, efr, efn, efi, hit, hB, esN, esP, h0, hO, hw, hp, hg, hs, hs'⟩ := id hP
  obtain ⟨hq, hlen, hnn, erl, cX, cY, cP⟩ := id hD
  obtain ⟨y1, y2, y3⟩ := cY k hk
  obtain ⟨x1, x2, x3, x4⟩ := cX a hal
  have at1 : ex_at rl fr fn s l q a len := ⟨by omega, hl, hq, efr, efn, erl, hal, hlen⟩
  have at2 : ey_at sN sP s' p l (q * 40 + k) 0 := ⟨by omega, by omega, hl, by omega, esN, esP, by omega⟩
  have F1 := yr_nil at2 (y1.trans h1) hF
  refine xr_nil at1 (x1.trans h2) (by omega) ?_
  refine hc ?_ (si_N_fn (Nat.le_refl _) (si_N_vs (Nat.le_refl _) (si_N_sP (Nat.le_refl _) si_N_refl))) ?_ pk_us (by omega) (by omega) (by omega) (by omega) F1
  · exact ⟨fun z => absurd z (by decide), fun _ => Or.inl rfl, fun z => absurd z (by decide)⟩
  · exact pk_us
theorem si_var (hD : si_D q len nn xo xa xt xp yo yn ya yp rl ro ra rt rp op nm ay prt) (hk : k < nn) (hal : a < len) {v : Nat} (hOb : ∀ a, a < 16 → ∃ y, y ≤ 4 ∧ lsz a = nI y ∧ ∀ j, j < y → ∃ t, t < o ∧ lit (a * 4 + j) = nI t) (hv : v < 3) (h1 : yo k = 4) (h2 : yn k = nI v) (h3 : xo a = 4) (h4 : xa a = nI v) (hBv : B v) : si_Run post Z oc tc cp lc sc kc er ep ob tks pl nds res cls num lnk lsz lit fb tk tv rk rl ro ra rt rp oo co sk kd prp opd rn op nm ay prt ylo yhi o r0 l q k a (a + 1) B 3 := by
  intro s s' w g p ret out fr fn fi vs ll li lt sN sP sX sK it vr hP hF hc
  obtain ⟨hl, efr, efn, efi, hit, hB, esN, esP, h0, hO, hw, hp, hg, hs, hs'⟩ := id hP
  obtain ⟨hq, hlen, hnn, erl, cX, cY, cP⟩ := id hD
  obtain ⟨y1, y2, y3⟩ := cY k hk
  obtain ⟨x1, x2, x3, x4⟩ := cX a hal
  have at1 : ex_at rl fr fn s l q a len := ⟨by omega, hl, hq, efr, efn, erl, hal, hlen⟩
  have at2 : ey_at sN sP s' p l (q * 40 + k) 0 := ⟨by omega, by omega, hl, by omega, esN, esP, by omega⟩
  obtain ⟨ai, bj, bz, b1, b2, b3, b4, b5, b6, b7⟩ := hB v hv hBv
  have F1 := yr_var at2 (y1.trans h1) hv (y2.trans h2) hF
  refine xr_var at1 (x1.trans h3) (by omega) hv (x2.trans h4) b5 b6 (by omega) ?_
  refine hc ?_ (si_N_fn (Nat.le_refl _) (si_N_vs (Nat.le_refl _) (si_N_sP (Nat.le_refl _) si_N_refl))) ?_ pk_us (by omega) (by omega) (by omega) (by omega) F1
  · refine ⟨fun z => absurd z (by decide), fun _ => Or.inr ?_, fun z => absurd z (by decide)⟩
    obtain ⟨y', c1, c2, c3⟩ := hOb ai b1
    have : y' = bz := (nI_eq (by omega) (by omega)).1 (c2.symm.trans b4)
    obtain ⟨t, ht, e⟩ := c3 bj (by omega)
    exact ⟨t, ht, by rw [b7]; exact e⟩
  · exact pk_us.trans b7.symm
theorem si_first (hD : si_D q len nn xo xa xt xp yo yn ya yp rl ro ra rt rp op nm ay prt) (hk : k < nn) {t0 m : Nat} {tch : Int32} (ho : yo k = nI t0) (ht : t0 < 25) (n0 : t0 ≠ 0) (n3 : t0 ≠ 3) (n19 : t0 ≠ 19) (n4 : t0 ≠ 4) (har : 0 < gr_ar (yo k)) (ham : a < m) (hmb : m < b) (ih : si_Run post Z oc tc cp lc sc kc er ep ob tks pl nds res cls num lnk lsz lit fb tk tv rk rl ro ra rt rp oo co sk kd prp opd rn op nm ay prt ylo yhi o r0 l q (yp k 0) a m B tch) {s s' w g p : Nat} {ret out : Int32} {fr fn fi vs ll li lt sN sP sX sK it vr : Nat → Int32} (hP : si_Pre o r0 l q k a b B lsz lit rp s s' w g p out fr fn fi ll li sN sP it vr) (hF : ey_F Z ob tks pl nds res cls prp lit lsz fb tk tv opd rk rn op nm ay prt ylo yhi s' (p + 1) l g ret out sN sP sX sK it vr)
  (hc : ∀ {s1 s2 g1 : Nat} {v out1 : Int32} {fr1 fn1 fi1 vs1 ll1 li1 lt1 sN1 sP1 sX1 sK1 it1 vr1 : Nat → Int32}, si_V o tch v → si_N l p w B fr fn fi vs ll li lt sN sP sX sK it vr out fr1 fn1 fi1 vs1 ll1 li1 lt1 sN1 sP1 sX1 sK1 it1 vr1 out1 → vs1 w = v → fn1 l = nI m → sN1 p = nI (q * 40 + k) → sP1 p = nI 1 → g ≤ g1 → g1 ≤ 40 → s1 + 200 * (40 - g1) ≤ s + 200 * (40 - g) + 3 * (m - a) → s2 + 200 * (40 - g1) ≤ s' + 1 + 200 * (40 - g) + 3 * (m - a) → ey_F Z ob tks pl nds res cls prp lit lsz fb tk tv opd rk rn op nm ay prt ylo yhi s2 (p + 1) l g1 v out1 sN1 sP1 sX1 sK1 it1 vr1 → ex_R post oc tc cp lc sc kc er ep cls num lnk lsz lit fb tk tv rk rl ro ra rt rp oo co sk kd s1 (l + 1) (w + 1) g1 fr1 fn1 fi1 vs1 ll1 li1 lt1) : ex_R post oc tc cp lc sc kc er ep cls num lnk lsz lit fb tk tv rk rl ro ra rt rp oo co sk kd s (l + 1) w g fr fn fi vs ll li lt := by
  obtain ⟨hl, efr, efn, efi, hit, hB, esN, esP, h0, hO, hw, hp, hg, hs, hs'⟩ := id hP
  obtain ⟨hq, hlen, hnn, erl, cX, cY, cP⟩ := id hD
  obtain ⟨y1, y2, y3⟩ := cY k hk
  have at2 : ey_at sN sP s' p l (q * 40 + k) 0 := ⟨by omega, by omega, hl, by omega, esN, esP, by omega⟩
  have F1 := yr_dn at2 (y1.trans ho) ht n0 n3 n19 n4 (by omega) hF
  have e0 : prt ((q * 40 + k) * 3) = nI (q * 40 + yp k 0) := cP k 0 hk har
  rw [e0] at F1
  have N0 : si_N l p w B fr fn fi vs ll li lt sN sP sX sK it vr out fr fn fi vs ll li lt (upd sN (p + 1) (nI (q * 40 + yp k 0))) (upd (upd sP p (nI 1)) (p + 1) 0) sX sK it vr out := si_N_sN (by omega) (si_N_sP (by omega) (si_N_sP (by omega) si_N_refl))
  refine ih _ _ _ _ _ _ _ _ _ _ _ _ _ _ _ _ _ _ _ _ (si_pre2 (k' := yp k 0) (a' := a) (b' := m) (p' := p + 1) (w' := w) (s1 := s) (s2 := s' + 1) (g1 := g) hP N0 hB efn pk_us pk_us (by omega) (by omega) hg (by omega) (by omega)) F1 ?_
  intro s1 s2 g1 v out1 fr1 fn1 fi1 vs1 ll1 li1 lt1 sN1 sP1 sX1 sK1 it1 vr1 hV hN hv hf hg1 hg2 hs1 hs2 F2
  obtain ⟨c1, c2, c3, c4⟩ := hN.2.2.2.2.2.1 p (by omega)
  refine hc hV (si_N_trans N0 (si_N_mono (by omega) (Nat.le_refl _) (fun _ h => h) hN)) hv hf ?_ ?_ hg1 hg2 hs1 hs2 F2
  · rw [c1, pk_un (by omega)]; exact esN
  · rw [c2, pk_un (by omega)]; exact pk_us
theorem si_prop1 (hE : si_E post Z oc tc cp lc sc kc er ep ob tks pl nds res cls num lnk lsz lit fb tk tv rk rl ro ra rt rp oo co sk kd prp opd rn op nm ay prt ylo yhi r0) (hOb : gr_O o cls num lnk lsz lit prp) (hD : si_D q len nn xo xa xt xp yo yn ya yp rl ro ra rt rp op nm ay prt) (hk : k < nn) {pr c : Nat} (ham : a < c) (hcl : c < len) (hpr : pr < 6) (h1 : yo k = 1) (h2 : yn k = nI pr) (h3 : xo c = 1) (h4 : xa c = nI pr) (h5 : xp c = ya k) (ih : si_Run post Z oc tc cp lc sc kc er ep ob tks pl nds res cls num lnk lsz lit fb tk tv rk rl ro ra rt rp oo co sk kd prp opd rn op nm ay prt ylo yhi o r0 l q (yp k 0) a c B 3) : si_Run post Z oc tc cp lc sc kc er ep ob tks pl nds res cls num lnk lsz lit fb tk tv rk rl ro ra rt rp oo co sk kd prp opd rn op nm ay prt ylo yhi o r0 l q k a (c + 1) B (gr_pk pr) := by
  intro s s' w g p ret out fr fn fi vs ll li lt sN sP sX sK it vr hP hF hc
  obtain ⟨hl, efr, efn, efi, hit, hB, esN, esP, h0, hO, hw, hp, hg, hs, hs'⟩ := id hP
  obtain ⟨hq, hlen, hnn, erl, cX, cY, cP⟩ := id hD
  obtain ⟨y1, y2, y3⟩ := cY k hk
  obtain ⟨x1, x2, x3, x4⟩ := cX c hcl
  refine si_first hD hk (t0 := 1) (m := c) h1 (by decide) (by decide) (by decide) (by decide) (by decide) (by rw [h1]; decide) ham (by omega) ih hP hF ?_
  intro s1 s2 g1 v out1 fr1 fn1 fi1 vs1 ll1 li1 lt1 sN1 sP1 sX1 sK1 it1 vr1 hV hN hv hf kN kP hg1 hg2 hs1 hs2 F2
  have fr1l : fr1 l = nI q := (hN.1 l (Nat.le_refl l)).1.trans efr
  have at1 : ex_at rl fr1 fn1 s1 l q c len := ⟨by omega, hl, hq, fr1l, hf, erl, by omega, hlen⟩
  have at2 : ey_at sN1 sP1 s2 p l (q * 40 + k) 1 := ⟨by omega, by omega, hl, by omega, kN, kP, by omega⟩
  have ePl : rp (q * 40 + c) = ay (q * 40 + k) := x4.trans (h5.trans y3.symm)
  obtain ⟨o1, o2, o3, o4, o5, o6⟩ := hOb
  rcases hV.2.1 rfl with e | ⟨i, hi, e⟩
  · subst e
    have E1 := yr_rd_nul at2 (y1.trans h1) (by decide) rfl F2
    exact xr_rd_nul at1 (x1.trans h3) (by omega) hv (hE 2 _ _ _ _ _ _ _ _ _ _ _ (by decide) (by decide) (by omega) (si_eo h0 (si_O_N hO hN) (by omega) ePl) (E1))
  · subst e
    obtain ⟨cc, hcc, ec⟩ := o2 i hi
    by_cases hf0 : fb (cc * 6 + pr) = 0
    · have F3 := yr_rd_ok1 at2 (y1.trans h1) (by decide) hpr (y2.trans h2) (by omega) rfl hcc ec hf0 F2
      refine xr_rd_ok1 at1 (x1.trans h3) (by omega) hpr (x2.trans h4) (by omega) hv hcc ec hf0 ?_
      have ev : (if pr < 3 then num (i * 3 + pr) else if pr = 3 then lnk i else nI (i * 2 + pr - 4)) = (if pr ≤ 3 then prp (i * 4 + pr) else nI (i * 2 + pr - 4)) := by
        by_cases p3 : pr < 3
        · rw [if_pos p3, if_pos (by omega), o3 i pr (by omega) p3]
        · rw [if_neg p3]
          by_cases p4 : pr = 3
          · rw [if_pos p4, if_pos (by omega), p4, o4 i (by omega)]
          · rw [if_neg p4, if_neg (by omega)]
      refine hc ?_ (si_N_fn (Nat.le_refl _) (si_N_vs (Nat.le_refl _) (si_N_sP (Nat.le_refl _) hN))) (pk_us.trans ev) pk_us hg1 hg2 (by omega) (by omega) F3
      by_cases p3 : pr < 3
      · rw [show gr_pk pr = 1 from if_pos p3]
        exact ⟨fun z => absurd z (by decide), fun z => absurd z (by decide), fun z => absurd z (by decide)⟩
      · by_cases p4 : pr = 3
        · rw [show gr_pk pr = 3 from (if_neg p3).trans (if_pos p4), if_pos (by omega), p4, o4 i (by omega)]
          exact ⟨fun z => absurd z (by decide), fun _ => o5 i hi, fun z => absurd z (by decide)⟩
        · rw [show gr_pk pr = 4 from (if_neg p3).trans (if_neg p4), if_neg (by omega)]
          exact ⟨fun z => absurd z (by decide), fun z => absurd z (by decide), fun _ => Or.inr ⟨_, by omega, rfl⟩⟩
    · have E1 := yr_rd_den1 at2 (y1.trans h1) (by decide) hpr (y2.trans h2) (by omega) rfl hcc ec hf0 F2
      exact xr_rd_den1 at1 (x1.trans h3) (by omega) hpr (x2.trans h4) (by omega) hv hcc ec hf0 (hE 3 _ _ _ _ _ _ _ _ _ _ _ (by decide) (by decide) (by omega) (si_eo h0 (si_O_N hO hN) (by omega) ePl) (E1))
theorem si_prop2 (hE : si_E post Z oc tc cp lc sc kc er ep ob tks pl nds res cls num lnk lsz lit fb tk tv rk rl ro ra rt rp oo co sk kd prp opd rn op nm ay prt ylo yhi r0) (hOb : gr_O o cls num lnk lsz lit prp) (hD : si_D q len nn xo xa xt xp yo yn ya yp rl ro ra rt rp op nm ay prt) (hk : k < nn) {pr c : Nat} (ham : a < c) (hcl : c < len) (hpr : pr < 6) (h1 : yo k = 2) (h2 : yn k = nI pr) (h3 : xo c = 2) (h4 : xa c = nI pr) (h5 : xp c = ya k) (ih : si_Run post Z oc tc cp lc sc kc er ep ob tks pl nds res cls num lnk lsz lit fb tk tv rk rl ro ra rt rp oo co sk kd prp opd rn op nm ay prt ylo yhi o r0 l q (yp k 0) a c B 3) : si_Run post Z oc tc cp lc sc kc er ep ob tks pl nds res cls num lnk lsz lit fb tk tv rk rl ro ra rt rp oo co sk kd prp opd rn op nm ay prt ylo yhi o r0 l q k a (c + 1) B (gr_pk pr) := by
  intro s s' w g p ret out fr fn fi vs ll li lt sN sP sX sK it vr hP hF hc
  obtain ⟨hl, efr, efn, efi, hit, hB, esN, esP, h0, hO, hw, hp, hg, hs, hs'⟩ := id hP
  obtain ⟨hq, hlen, hnn, erl, cX, cY, cP⟩ := id hD
  obtain ⟨y1, y2, y3⟩ := cY k hk
  obtain ⟨x1, x2, x3, x4⟩ := cX c hcl
  refine si_first hD hk (t0 := 2) (m := c) h1 (by decide) (by decide) (by decide) (by decide) (by decide) (by rw [h1]; decide) ham (by omega) ih hP hF ?_
  intro s1 s2 g1 v out1 fr1 fn1 fi1 vs1 ll1 li1 lt1 sN1 sP1 sX1 sK1 it1 vr1 hV hN hv hf kN kP hg1 hg2 hs1 hs2 F2
  have fr1l : fr1 l = nI q := (hN.1 l (Nat.le_refl l)).1.trans efr
  have at1 : ex_at rl fr1 fn1 s1 l q c len := ⟨by omega, hl, hq, fr1l, hf, erl, by omega, hlen⟩
  have at2 : ey_at sN1 sP1 s2 p l (q * 40 + k) 1 := ⟨by omega, by omega, hl, by omega, kN, kP, by omega⟩
  have ePl : rp (q * 40 + c) = ay (q * 40 + k) := x4.trans (h5.trans y3.symm)
  obtain ⟨o1, o2, o3, o4, o5, o6⟩ := hOb
  rcases hV.2.1 rfl with e | ⟨i, hi, e⟩
  · subst e
    have F3 := yr_rd_saf at2 (y1.trans h1) (by decide) hpr (y2.trans h2) rfl F2
    refine xr_rd_saf at1 (x1.trans h3) (by omega) hpr (x2.trans h4) hv ?_
    refine hc ?_ (si_N_fn (Nat.le_refl _) (si_N_vs (Nat.le_refl _) (si_N_sP (Nat.le_refl _) hN))) pk_us pk_us hg1 hg2 (by omega) (by omega) F3
    by_cases p3 : pr < 3
    · rw [show gr_pk pr = 1 from if_pos p3]
      exact ⟨fun z => absurd z (by decide), fun z => absurd z (by decide), fun z => absurd z (by decide)⟩
    · rw [if_neg p3]
      refine ⟨fun z => ?_, fun _ => Or.inl rfl, fun _ => Or.inl rfl⟩
      unfold gr_pk at z
      rw [if_neg p3] at z
      split at z <;> exact absurd z (by decide)
  · subst e
    obtain ⟨cc, hcc, ec⟩ := o2 i hi
    by_cases hf0 : fb (cc * 6 + pr) = 0
    · have F3 := yr_rd_ok2 at2 (y1.trans h1) (by decide) hpr (y2.trans h2) (by omega) rfl hcc ec hf0 F2
      refine xr_rd_ok2 at1 (x1.trans h3) (by omega) hpr (x2.trans h4) (by omega) hv hcc ec hf0 ?_
      have ev : (if pr < 3 then num (i * 3 + pr) else if pr = 3 then lnk i else nI (i * 2 + pr - 4)) = (if pr ≤ 3 then prp (i * 4 + pr) else nI (i * 2 + pr - 4)) := by
        by_cases p3 : pr < 3
        · rw [if_pos p3, if_pos (by omega), o3 i pr (by omega) p3]
        · rw [if_neg p3]
          by_cases p4 : pr = 3
          · rw [if_pos p4, if_pos (by omega), p4, o4 i (by omega)]
          · rw [if_neg p4, if_neg (by omega)]
      refine hc ?_ (si_N_fn (Nat.le_refl _) (si_N_vs (Nat.le_refl _) (si_N_sP (Nat.le_refl _) hN))) (pk_us.trans ev) pk_us hg1 hg2 (by omega) (by omega) F3
      by_cases p3 : pr < 3
      · rw [show gr_pk pr = 1 from if_pos p3]
        exact ⟨fun z => absurd z (by decide), fun z => absurd z (by decide), fun z => absurd z (by decide)⟩
      · by_cases p4 : pr = 3
        · rw [show gr_pk pr = 3 from (if_neg p3).trans (if_pos p4), if_pos (by omega), p4, o4 i (by omega)]
          exact ⟨fun z => absurd z (by decide), fun _ => o5 i hi, fun z => absurd z (by decide)⟩
        · rw [show gr_pk pr = 4 from (if_neg p3).trans (if_neg p4), if_neg (by omega)]
          exact ⟨fun z => absurd z (by decide), fun z => absurd z (by decide), fun _ => Or.inr ⟨_, by omega, rfl⟩⟩
    · have E1 := yr_rd_den2 at2 (y1.trans h1) (by decide) hpr (y2.trans h2) (by omega) rfl hcc ec hf0 F2
      exact xr_rd_den2 at1 (x1.trans h3) (by omega) hpr (x2.trans h4) (by omega) hv hcc ec hf0 (hE 3 _ _ _ _ _ _ _ _ _ _ _ (by decide) (by decide) (by omega) (si_eo h0 (si_O_N hO hN) (by omega) ePl) (E1))
theorem si_not (hD : si_D q len nn xo xa xt xp yo yn ya yp rl ro ra rt rp op nm ay prt) (hk : k < nn) {c : Nat} (ham : a < c) (hcl : c < len) (h1 : yo k = 12) (h3 : xo c = 12) (ih : si_Run post Z oc tc cp lc sc kc er ep ob tks pl nds res cls num lnk lsz lit fb tk tv rk rl ro ra rt rp oo co sk kd prp opd rn op nm ay prt ylo yhi o r0 l q (yp k 0) a c B 2) : si_Run post Z oc tc cp lc sc kc er ep ob tks pl nds res cls num lnk lsz lit fb tk tv rk rl ro ra rt rp oo co sk kd prp opd rn op nm ay prt ylo yhi o r0 l q k a (c + 1) B 2 := by
  intro s s' w g p ret out fr fn fi vs ll li lt sN sP sX sK it vr hP hF hc
  obtain ⟨hl, efr, efn, efi, hit, hB, esN, esP, h0, hO, hw, hp, hg, hs, hs'⟩ := id hP
  obtain ⟨hq, hlen, hnn, erl, cX, cY, cP⟩ := id hD
  obtain ⟨y1, y2, y3⟩ := cY k hk
  obtain ⟨x1, x2, x3, x4⟩ := cX c hcl
  refine si_first hD hk (t0 := 12) (m := c) h1 (by decide) (by decide) (by decide) (by decide) (by decide) (by rw [h1]; decide) ham (by omega) ih hP hF ?_
  intro s1 s2 g1 v out1 fr1 fn1 fi1 vs1 ll1 li1 lt1 sN1 sP1 sX1 sK1 it1 vr1 hV hN hv hf kN kP hg1 hg2 hs1 hs2 F2
  have fr1l : fr1 l = nI q := (hN.1 l (Nat.le_refl l)).1.trans efr
  have at1 : ex_at rl fr1 fn1 s1 l q c len := ⟨by omega, hl, hq, fr1l, hf, erl, by omega, hlen⟩
  have at2 : ey_at sN1 sP1 s2 p l (q * 40 + k) 1 := ⟨by omega, by omega, hl, by omega, kN, kP, by omega⟩
  have F3 := yr_not at2 (y1.trans h1) (by decide) F2
  refine xr_not at1 (x1.trans h3) (by omega) ?_
  refine hc ?_ (si_N_fn (Nat.le_refl _) (si_N_vs (Nat.le_refl _) (si_N_sP (Nat.le_refl _) hN))) (by rw [pk_us, hv]) pk_us hg1 hg2 (by omega) (by omega) F3
  · refine ⟨fun _ => ?_, fun z => absurd z (by decide), fun z => absurd z (by decide)⟩
    rcases hV.1 rfl with e | e
    · rw [e]; exact Or.inr (by decide)
    · rw [e]; exact Or.inl (by decide)
theorem si_neg (hD : si_D q len nn xo xa xt xp yo yn ya yp rl ro ra rt rp op nm ay prt) (hk : k < nn) {c : Nat} (ham : a < c) (hcl : c < len) (h1 : yo k = 23) (h3 : xo c = 23) (ih : si_Run post Z oc tc cp lc sc kc er ep ob tks pl nds res cls num lnk lsz lit fb tk tv rk rl ro ra rt rp oo co sk kd prp opd rn op nm ay prt ylo yhi o r0 l q (yp k 0) a c B 1) : si_Run post Z oc tc cp lc sc kc er ep ob tks pl nds res cls num lnk lsz lit fb tk tv rk rl ro ra rt rp oo co sk kd prp opd rn op nm ay prt ylo yhi o r0 l q k a (c + 1) B 1 := by
  intro s s' w g p ret out fr fn fi vs ll li lt sN sP sX sK it vr hP hF hc
  obtain ⟨hl, efr, efn, efi, hit, hB, esN, esP, h0, hO, hw, hp, hg, hs, hs'⟩ := id hP
  obtain ⟨hq, hlen, hnn, erl, cX, cY, cP⟩ := id hD
  obtain ⟨y1, y2, y3⟩ := cY k hk
  obtain ⟨x1, x2, x3, x4⟩ := cX c hcl
  refine si_first hD hk (t0 := 23) (m := c) h1 (by decide) (by decide) (by decide) (by decide) (by decide) (by rw [h1]; decide) ham (by omega) ih hP hF ?_
  intro s1 s2 g1 v out1 fr1 fn1 fi1 vs1 ll1 li1 lt1 sN1 sP1 sX1 sK1 it1 vr1 hV hN hv hf kN kP hg1 hg2 hs1 hs2 F2
  have fr1l : fr1 l = nI q := (hN.1 l (Nat.le_refl l)).1.trans efr
  have at1 : ex_at rl fr1 fn1 s1 l q c len := ⟨by omega, hl, hq, fr1l, hf, erl, by omega, hlen⟩
  have at2 : ey_at sN1 sP1 s2 p l (q * 40 + k) 1 := ⟨by omega, by omega, hl, by omega, kN, kP, by omega⟩
  have F3 := yr_neg at2 (y1.trans h1) (by decide) F2
  refine xr_neg at1 (x1.trans h3) (by omega) ?_
  refine hc ?_ (si_N_fn (Nat.le_refl _) (si_N_vs (Nat.le_refl _) (si_N_sP (Nat.le_refl _) hN))) (by rw [pk_us, hv]) pk_us hg1 hg2 (by omega) (by omega) F3
  · exact ⟨fun z => absurd z (by decide), fun z => absurd z (by decide), fun z => absurd z (by decide)⟩
end
