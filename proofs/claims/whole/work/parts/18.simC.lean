section
variable {post : Int32 → SX → Prop} {Z : (Int32 → SY → Prop) → Prop} {oc tc cp lc sc kc er ep ob tks pl nds res : Int32} {cls num lnk lsz lit fb tk tv rk rl ro ra rt rp oo co sk kd prp opd rn op nm ay prt ylo yhi : Nat → Int32} {o r0 l : Nat} {q len nn : Nat} {xo xa xt xp yo yn ya : Nat → Int32} {yp : Nat → Nat → Nat} {B : Nat → Prop} {k a b : Nat}
theorem si_dec {t : Nat} {x : Int32} (ht : t = 20 ∨ t = 21 ∨ t = 22) (hx : t ≠ 22 → x = 0 ∨ x = 1) : gr_dec t x ↔ ey_dec t x := by
  unfold gr_dec ey_dec
  constructor
  · rintro (⟨z, y⟩ | ⟨z, y⟩)
    · exact Or.inl ⟨z, (hx (by omega)).resolve_left y⟩
    · exact Or.inr ⟨z, y⟩
  · rintro (⟨z, y⟩ | ⟨z, y⟩)
    · exact Or.inl ⟨z, by rw [y]; decide⟩
    · exact Or.inr ⟨z, y⟩
theorem si_tal {t : Nat} {x : Int32} (hx : t ≠ 22 → x = 0 ∨ x = 1) : si_V o (if t = 22 then 1 else 2) x := by
  by_cases z : t = 22
  · rw [if_pos z]; exact ⟨fun y => absurd y (by decide), fun y => absurd y (by decide), fun y => absurd y (by decide)⟩
  · rw [if_neg z]; exact ⟨fun _ => hx z, fun y => absurd y (by decide), fun y => absurd y (by decide)⟩
theorem si_round (hE : si_E post Z oc tc cp lc sc kc er ep ob tks pl nds res cls num lnk lsz lit fb tk tv rk rl ro ra rt rp oo co sk kd prp opd rn op nm ay prt ylo yhi r0) (hD : si_D q len nn xo xa xt xp yo yn ya yp rl ro ra rt rp op nm ay prt) (hk : k < nn) {t u m c : Nat} (ht : t = 20 ∨ t = 21 ∨ t = 22) (hu : u < 3) (ham : a < m) (hmc : m + 1 < c) (hcl : c < len) (h1 : yo k = nI t) (h2 : yn k = nI u) (hnB : ¬ B u) (h3 : xo m = nI t) (h4 : xa m = nI u) (h5 : xt m = nI (c + 1)) (h6 : xp m = ya k) (h7 : xo c = 24) (h8 : xa c = nI m) (h9 : xp c = ya k) (ihb : si_Run post Z oc tc cp lc sc kc er ep ob tks pl nds res cls num lnk lsz lit fb tk tv rk rl ro ra rt rp oo co sk kd prp opd rn op nm ay prt ylo yhi o r0 l q (yp k 1) (m + 1) c (fun x => x = u ∨ B x) ((if t = 22 then 1 else 2))) {s s' w g p : Nat} {out : Int32} {fr fn fi vs ll li lt sN sP sX sK it vr : Nat → Int32} (hP : si_Pre o r0 l q k a (c + 1) B lsz lit rp s s' w g p out fr fn fi ll li sN sP it vr) (har : gr_ar (yo k) = 2)
  (hc : ∀ {s1 s2 g1 : Nat} {v out1 : Int32} {fr1 fn1 fi1 vs1 ll1 li1 lt1 sN1 sP1 sX1 sK1 it1 vr1 : Nat → Int32}, si_V o (if t = 22 then 1 else 2) v → si_N l p w B fr fn fi vs ll li lt sN sP sX sK it vr out fr1 fn1 fi1 vs1 ll1 li1 lt1 sN1 sP1 sX1 sK1 it1 vr1 out1 → vs1 w = v → fn1 l = nI (c + 1) → g ≤ g1 → g1 ≤ 40 → s1 + 200 * (40 - g1) ≤ s + 200 * (40 - g) + 3 * (c + 1 - a) → s2 + 200 * (40 - g1) ≤ s' + 200 * (40 - g) + 3 * (c + 1 - a) → ey_F Z ob tks pl nds res cls prp lit lsz fb tk tv opd rk rn op nm ay prt ylo yhi s2 p l g1 v out1 sN1 sP1 sX1 sK1 it1 vr1 → ex_R post oc tc cp lc sc kc er ep cls num lnk lsz lit fb tk tv rk rl ro ra rt rp oo co sk kd s1 (l + 1) (w + 1) g1 fr1 fn1 fi1 vs1 ll1 li1 lt1) {z a0 : Nat} (ha0 : a0 < 16) (hz : lsz a0 = nI z) (hz4 : z ≤ 4) : ∀ (n j : Nat), j + n + 1 = z → ∀ (s1 s2 g1 : Nat) (ret1 out1 : Int32) (fr1 fn1 fi1 vs1 ll1 li1 lt1 sN1 sP1 sX1 sK1 it1 vr1 : Nat → Int32), si_N l p w B fr fn fi vs ll li lt sN sP sX sK it vr out fr1 fn1 fi1 vs1 ll1 li1 lt1 sN1 sP1 sX1 sK1 it1 vr1 out1 → fn1 l = nI (m + 1) → ll1 (l * 3 + u) = nI a0 → li1 (l * 3 + u) = nI j → vr1 (l * 3 + u) = lit (a0 * 4 + j) → sN1 p = nI (q * 40 + k) → sP1 p = nI (j + 2) → sX1 p = nI a0 → sK1 p = lt1 (l * 3 + u) → sN1 (p + 1) = nI (q * 40 + yp k 1) → sP1 (p + 1) = nI 0 → g ≤ g1 → g1 ≤ 40 → s1 + 200 * (40 - g1) + 3 * (c - (m + 1)) + 1 ≤ s + 200 * (40 - g) + 3 * (c + 1 - a) → s2 + 200 * (40 - g1) + 3 * (c - (m + 1)) + 1 ≤ s' + 200 * (40 - g) + 3 * (c + 1 - a) → ey_F Z ob tks pl nds res cls prp lit lsz fb tk tv opd rk rn op nm ay prt ylo yhi s2 (p + 2) l g1 ret1 out1 sN1 sP1 sX1 sK1 it1 vr1 → ex_R post oc tc cp lc sc kc er ep cls num lnk lsz lit fb tk tv rk rl ro ra rt rp oo co sk kd s1 (l + 1) w g1 fr1 fn1 fi1 vs1 ll1 li1 lt1 := by
  obtain ⟨hl, efr, efn, efi, hit, hB, esN, esP, h0, hO, hw, hp, hg, hs, hs'⟩ := id hP
  obtain ⟨hq, hlen, hnn, erl, cX, cY, cP⟩ := id hD
  obtain ⟨y1, y2, y3⟩ := cY k hk
  obtain ⟨x1, x2, x3, x4⟩ := cX c hcl
  obtain ⟨z1, z2, z3, z4⟩ := cX m (by omega)
  have ePl : rp (q * 40 + c) = ay (q * 40 + k) := x4.trans (h9.trans y3.symm)
  have e1 : prt ((q * 40 + k) * 3 + 1) = nI (q * 40 + yp k 1) := cP k 1 hk (by omega)
  intro n
  induction n with
  | zero => ?_
  | succ n ihn => ?_
  all_goals
    intro j hj s1 s2 g1 ret1 out1 fr1 fn1 fi1 vs1 ll1 li1 lt1 sN1 sP1 sX1 sK1 it1 vr1 hN hf el ei ev kN kP kX kK bN bP hg1 hg2 hs1 hs2 F1
    have hB' : si_B lsz lit ll1 li1 vr1 l (fun x => x = u ∨ B x) := by
      intro x hx hxB
      by_cases xu : x = u
      · subst xu
        exact ⟨a0, j, z, ha0, hz4, by omega, hz, el, ei, ev⟩
      · exact si_B_N hB hN x hx (hxB.resolve_left xu)
    refine ihb _ _ _ _ _ _ _ _ _ _ _ _ _ _ _ _ _ _ _ _  (si_pre2 hP hN hB' hf bN bP (by omega) (by omega) hg2 (by omega) (by omega)) F1 ?_
    intro s3 s4 g2 v2 out2 fr2 fn2 fi2 vs2 ll2 li2 lt2 sN2 sP2 sX2 sK2 it2 vr2 hV2 hM hv2 hf2 hg3 hg4 hs3 hs4 F2
    obtain ⟨c1, c2, c3, c4⟩ := hM.2.2.2.2.2.1 p (by omega)
    obtain ⟨d1, d2, d3, d4⟩ := hM.2.2.2.2.1 u hu (Or.inl rfl)
    have hN2 : si_N l p w B fr fn fi vs ll li lt sN sP sX sK it vr out fr2 fn2 fi2 vs2 ll2 li2 lt2 sN2 sP2 sX2 sK2 it2 vr2 out2 := si_N_trans hN (si_N_mono (by omega) (Nat.le_refl _) (fun _ h => Or.inr h) hM)
    have fr2l : fr2 l = nI q := (hN2.1 l (Nat.le_refl l)).1.trans efr
    have at3 : ex_at rl fr2 fn2 s3 l q c len := ⟨by omega, hl, hq, fr2l, hf2, erl, hcl, hlen⟩
    have at4 : ey_at sN2 sP2 s4 p l (q * 40 + k) (j + 2) := ⟨by omega, by omega, hl, by omega, c1.trans kN, c2.trans kP, by omega⟩
    have hx2 : t ≠ 22 → v2 = 0 ∨ v2 = 1 := fun y => hV2.1 (if_neg y)
    have eK : sK2 p = lt2 (l * 3 + u) := c4.trans (kK.trans d3.symm)
    have eX : sX2 p = nI a0 := c3.trans kX
    have done : (gr_dec t v2 ∨ z ≤ j + 1) → ex_R post oc tc cp lc sc kc er ep cls num lnk lsz lit fb tk tv rk rl ro ra rt rp oo co sk kd s3 (l + 1) (w + 1) g2 fr2 fn2 fi2 vs2 ll2 li2 lt2 := by
      intro hd
      have F3 := yr_qb_end ht at4 (y1.trans h1) (by omega) (hd.elim (fun y => Or.inl ((si_dec ht hx2).1 y)) (fun y => Or.inr ⟨a0, z, ha0, eX, hz, by omega⟩)) F2
      rw [eK] at F3
      refine xr_nx_end at3 ht (by omega) (x1.trans h7) (x2.trans h8) (z1.trans h3) (z2.trans h4) (by omega) hu (by rw [hv2]; exact hd.elim Or.inl (fun y => Or.inr ⟨a0, j, z, ha0, d1.trans el, d2.trans ei, by omega, hz, y⟩)) ?_
      rw [hv2]
      refine hc (v := if t = 22 then lt2 (l * 3 + u) + v2 else v2) ?_ (si_N_fn (Nat.le_refl _) (si_N_fn (Nat.le_refl _) (si_N_vs (Nat.le_refl _) (si_N_lt hnB (si_N_sP (Nat.le_refl _) (si_N_sK (Nat.le_refl _) hN2)))))) pk_us (by rw [pk_us]; exact z3.trans h5) (by omega) hg4 (by omega) (by omega) F3
      refine si_tal (fun y => ?_)
      rw [if_neg y]; exact hx2 y
  · exact done (Or.inr (by omega))
  · by_cases hd : gr_dec t v2
    · exact done (Or.inl hd)
    · have hnd : ¬ ey_dec t v2 := fun y => hd ((si_dec ht hx2).2 y)
      by_cases hg40 : g2 = 40
      · have E1 := yr_qb_stop ht at4 (y1.trans h1) (by omega) hnd ha0 eX hz hz4 (by omega) hg40 F2
        exact xr_nx_stop at3 ht (by omega) (x1.trans h7) (x2.trans h8) (z1.trans h3) (z2.trans h4) (by omega) hu (by rw [hv2]; exact hd) ha0 (d1.trans el) (d2.trans ei) hz (by omega) hz4 hg40 (hE 6 _ _ _ _ _ _ _ _ _ _ _ (by decide) (by decide) (by omega) (si_eo h0 (si_O_N hO hN2) (by omega) ePl) E1)
      · have F3 := yr_qb_go ht at4 (y1.trans h1) (by omega) hnd ha0 eX hz hz4 (by omega) (by omega) hu (y2.trans h2) (by omega) F2
        rw [e1, eK] at F3
        refine xr_nx_go at3 ht (by omega) (x1.trans h7) (x2.trans h8) (z1.trans h3) (z2.trans h4) (by omega) hu (by rw [hv2]; exact hd) ha0 (d1.trans el) (d2.trans ei) hz (by omega) hz4 (by omega) ?_
        rw [hv2]
        refine ihn (j + 1) (by omega) _ _ _ _ _ _ _ _ _ _ _ _ _ _ _ _ _ _  (si_N_fn (Nat.le_refl _) (si_N_fn (Nat.le_refl _) (si_N_li hnB (si_N_lt hnB (si_N_sN (by omega) (si_N_sP (by omega) (si_N_sP (Nat.le_refl _) (si_N_sK (Nat.le_refl _) (si_N_vr hnB hN2))))))))) pk_us (d1.trans el) pk_us pk_us ?_ ?_ eX (pk_us.trans pk_us.symm) pk_us pk_us (by omega) (by omega) (by omega) (by omega) F3
        · rw [pk_un (by omega)]; exact c1.trans kN
        · rw [pk_un (by omega)]; exact pk_us
theorem si_quant (hE : si_E post Z oc tc cp lc sc kc er ep ob tks pl nds res cls num lnk lsz lit fb tk tv rk rl ro ra rt rp oo co sk kd prp opd rn op nm ay prt ylo yhi r0) (hOb : ∀ a, a < 16 → ∃ y, y ≤ 4 ∧ lsz a = nI y) (hD : si_D q len nn xo xa xt xp yo yn ya yp rl ro ra rt rp op nm ay prt) (hk : k < nn) {t u m c : Nat} (ht : t = 20 ∨ t = 21 ∨ t = 22) (hu : u < 3) (ham : a < m) (hmc : m + 1 < c) (hcl : c < len) (h1 : yo k = nI t) (h2 : yn k = nI u) (hnB : ¬ B u) (h3 : xo m = nI t) (h4 : xa m = nI u) (h5 : xt m = nI (c + 1)) (h6 : xp m = ya k) (h7 : xo c = 24) (h8 : xa c = nI m) (h9 : xp c = ya k) (har : gr_ar (yo k) = 2) (ih1 : si_Run post Z oc tc cp lc sc kc er ep ob tks pl nds res cls num lnk lsz lit fb tk tv rk rl ro ra rt rp oo co sk kd prp opd rn op nm ay prt ylo yhi o r0 l q (yp k 0) a m B 4) (ihb : si_Run post Z oc tc cp lc sc kc er ep ob tks pl nds res cls num lnk lsz lit fb tk tv rk rl ro ra rt rp oo co sk kd prp opd rn op nm ay prt ylo yhi o r0 l q (yp k 1) (m + 1) c (fun x => x = u ∨ B x) ((if t = 22 then 1 else 2))) : si_Run post Z oc tc cp lc sc kc er ep ob tks pl nds res cls num lnk lsz lit fb tk tv rk rl ro ra rt rp oo co sk kd prp opd rn op nm ay prt ylo yhi o r0 l q k a (c + 1) B ((if t = 22 then 1 else 2)) := by
  intro s s' w g p ret out fr fn fi vs ll li lt sN sP sX sK it vr hP hF hc
  obtain ⟨hl, efr, efn, efi, hit, hB, esN, esP, h0, hO, hw, hp, hg, hs, hs'⟩ := id hP
  obtain ⟨hq, hlen, hnn, erl, cX, cY, cP⟩ := id hD
  obtain ⟨y1, y2, y3⟩ := cY k hk
  obtain ⟨x1, x2, x3, x4⟩ := cX m (by omega)
  have ePl : rp (q * 40 + m) = ay (q * 40 + k) := x4.trans (h6.trans y3.symm)
  have e1 : prt ((q * 40 + k) * 3 + 1) = nI (q * 40 + yp k 1) := cP k 1 hk (by omega)
  refine si_first hD hk (t0 := t) (m := m) h1 (by omega) (by omega) (by omega) (by omega) (by omega) (by omega) ham (by omega) ih1 hP hF ?_
  intro s1 s2 g1 v out1 fr1 fn1 fi1 vs1 ll1 li1 lt1 sN1 sP1 sX1 sK1 it1 vr1 hV hN hv hf kN kP hg1 hg2 hs1 hs2 F2
  have fr1l : fr1 l = nI q := (hN.1 l (Nat.le_refl l)).1.trans efr
  have at1 : ex_at rl fr1 fn1 s1 l q m len := ⟨by omega, hl, hq, fr1l, hf, erl, by omega, hlen⟩
  have at2 : ey_at sN1 sP1 s2 p l (q * 40 + k) 1 := ⟨by omega, by omega, hl, by omega, kN, kP, by omega⟩
  have done : (v = -1 ∨ ∃ a, a < 16 ∧ v = nI a ∧ lsz a = 0) → ex_R post oc tc cp lc sc kc er ep cls num lnk lsz lit fb tk tv rk rl ro ra rt rp oo co sk kd s1 (l + 1) (w + 1) g1 fr1 fn1 fi1 vs1 ll1 li1 lt1 := by
    intro hd
    have F3 := yr_qa_end ht at2 (y1.trans h1) rfl hd F2
    refine xr_st_end at1 ht (x1.trans h3) (by omega) hu (x2.trans h4) (by rw [hv]; exact hd) ?_
    refine hc (v := (if t = 21 then 1 else 0)) ?_ (si_N_fn (Nat.le_refl _) (si_N_fn (Nat.le_refl _) (si_N_vs (Nat.le_refl _) (si_N_ll hnB (si_N_li hnB (si_N_lt hnB (si_N_sP (Nat.le_refl _) (si_N_sX (Nat.le_refl _) (si_N_sK (Nat.le_refl _) hN))))))))) pk_us (by rw [pk_us]; exact x3.trans h5) (by omega) hg2 (by omega) (by omega) F3
    refine si_tal (fun y => ?_)
    by_cases t21 : t = 21
    · rw [if_pos t21]; exact Or.inr rfl
    · rw [if_neg t21]; exact Or.inl rfl
  rcases hV.2.2 rfl with e | ⟨a0, ha0, e⟩
  · exact done (Or.inl e)
  · obtain ⟨z, hz4, hz⟩ := hOb a0 ha0
    by_cases z0 : z = 0
    · subst z0
      exact done (Or.inr ⟨a0, ha0, e, hz⟩)
    · by_cases hg40 : g1 = 40
      · have E1 := yr_qa_stop ht at2 (y1.trans h1) rfl ha0 e hz hz4 (by omega) hg40 F2
        exact xr_st_stop at1 ht (x1.trans h3) (by omega) hu (x2.trans h4) ha0 (hv.trans e) hz (by omega) hz4 hg40 (hE 6 _ _ _ _ _ _ _ _ _ _ _ (by decide) (by decide) (by omega) (si_eo h0 (si_O_N hO hN) (by omega) ePl) E1)
      · have F3 := yr_qa_go ht at2 (y1.trans h1) rfl ha0 e hz hz4 (by omega) (by omega) hu (y2.trans h2) (by omega) F2
        rw [e1] at F3
        refine xr_st_go at1 ht (x1.trans h3) (by omega) hu (x2.trans h4) ha0 (hv.trans e) hz (by omega) hz4 (by omega) ?_
        refine si_round hE hD hk ht hu ham hmc hcl h1 h2 hnB h3 h4 h5 h6 h7 h8 h9 ihb hP har hc ha0 hz hz4 (z - 1) 0 (by omega) _ _ _ _ _ _ _ _ _ _ _ _ _ _ _ _ _ _  (si_N_fn (Nat.le_refl _) (si_N_fn (Nat.le_refl _) (si_N_ll hnB (si_N_li hnB (si_N_li hnB (si_N_lt hnB (si_N_sN (by omega) (si_N_sP (by omega) (si_N_sP (Nat.le_refl _) (si_N_sX (Nat.le_refl _) (si_N_sK (Nat.le_refl _) (si_N_vr hnB hN)))))))))))) pk_us (pk_us.trans (hv.trans e)) pk_us pk_us ?_ ?_ (pk_us.trans e) (pk_us.trans pk_us.symm) pk_us pk_us (by omega) (by omega) (by omega) (by omega) F3
        · rw [pk_un (by omega)]; exact kN
        · rw [pk_un (by omega)]; exact pk_us
end
