section
variable {post : Int32 → SX → Prop} {Z : (Int32 → SY → Prop) → Prop} {oc tc cp lc sc kc er ep ob tks pl nds res : Int32} {cls num lnk lsz lit fb tk tv rk rl ro ra rt rp oo co sk kd prp opd rn op nm ay prt ylo yhi : Nat → Int32} {o r0 l : Nat} {q len nn : Nat} {xo xa xt xp yo yn ya : Nat → Int32} {yp : Nat → Nat → Nat}
theorem si_im_lt : ∀ {f : Nat} {B : Nat → Prop} {k a b : Nat} {t : Int32}, gr_Im xo xa xt xp yo yn ya yp rk len nn f B k a b t → a < b ∧ b ≤ len
  | 0, _, _, _, _, _, h => absurd h id
  | _ + 1, _, _, _, _, _, h => ⟨h.2.1, h.2.2.1⟩
theorem si_ar2 {s : Nat} (h : (13 ≤ s ∧ s ≤ 18) ∨ (20 ≤ s ∧ s ≤ 22)) : gr_ar (nI s) = 2 := by
  have h2 : s = 13 ∨ s = 14 ∨ s = 15 ∨ s = 16 ∨ s = 17 ∨ s = 18 ∨ s = 20 ∨ s = 21 ∨ s = 22 := by omega
  rcases h2 with rfl | rfl | rfl | rfl | rfl | rfl | rfl | rfl | rfl <;> decide
theorem si_core (hE : si_E post Z oc tc cp lc sc kc er ep ob tks pl nds res cls num lnk lsz lit fb tk tv rk rl ro ra rt rp oo co sk kd prp opd rn op nm ay prt ylo yhi r0) (hOb : gr_O o cls num lnk lsz lit prp) (hR : l < 4 → ∀ r, r < 6 → (rk r = 1 ∨ rk r = 2) → ∃ lr, 0 < lr ∧ lr ≤ 40 ∧ rl r = nI lr ∧ si_Run post Z oc tc cp lc sc kc er ep ob tks pl nds res cls num lnk lsz lit fb tk tv rk rl ro ra rt rp oo co sk kd prp opd rn op nm ay prt ylo yhi o r0 (l + 1) r 0 0 lr (fun _ => False) (rk r)) (hD : si_D q len nn xo xa xt xp yo yn ya yp rl ro ra rt rp op nm ay prt) : ∀ (f : Nat) (B : Nat → Prop) (k a b : Nat) (t : Int32), gr_Im xo xa xt xp yo yn ya yp rk len nn f B k a b t → si_Run post Z oc tc cp lc sc kc er ep ob tks pl nds res cls num lnk lsz lit fb tk tv rk rl ro ra rt rp oo co sk kd prp opd rn op nm ay prt ylo yhi o r0 l q k a b B t := by
  intro f
  induction f with
  | zero => intro B k a b t h; exact absurd h id
  | succ f ih =>
    intro B k a b t h
    obtain ⟨hk, hab, hbl, h⟩ := h
    rcases h with ⟨h1, h2, h3, h4, h5⟩ | ⟨h1, h2, h3, h5⟩ | ⟨h1, h2, h3, h5⟩ | ⟨v, hv, h1, h2, h3, h4, h5, h6, h7⟩ | ⟨pr, c, hp, hb, h1, h2, hi, h3, h4, h5, h6⟩ | ⟨c, hb, h1, hi, h3⟩ | ⟨r, c, hr, hb, h1, h2, hi, h3, h4, h5, h6, h7⟩ | ⟨s, m, c, t1, t2, hs1, hs2, hb, h1, hi1, hi2, h3, h4, h5⟩ | ⟨m, h1, hi1, h3, h4, hi2, h5⟩ | ⟨m, m2, h1, hi1, h3, h4, hi2, h5, h6, hi3⟩ | ⟨s, v, m, c, hs1, hs2, hv, hb, h1, h2, hnB, hi1, h3, h4, h5, h6, hi2, h7, h8, h9, h10⟩
    · subst h2 h5
      exact si_num hD hk (by omega) h1 h3 h4
    · subst h2 h5
      exact si_it hD hk (by omega) h1 h3
    · subst h2 h5
      exact si_nil hD hk (by omega) h1 h3
    · subst h3 h7
      exact si_var hD hk (by omega) hOb.2.2.2.2.2 hv h1 h2 h4 h5 h6
    · subst hb h6
      have := si_im_lt hi
      rcases h1 with h1 | h1
      · exact si_prop1 hE hOb hD hk this.1 (by omega) hp h1 h2 (h3.trans h1) h4 h5 (ih _ _ _ _ _ hi)
      · exact si_prop2 hE hOb hD hk this.1 (by omega) hp h1 h2 (h3.trans h1) h4 h5 (ih _ _ _ _ _ hi)
    · subst hb
      have := si_im_lt hi
      rcases h1 with ⟨h1, h2⟩ | ⟨h1, h2⟩
      · subst h2
        exact si_not hD hk this.1 (by omega) h1 (h3.trans h1) (ih _ _ _ _ _ hi)
      · subst h2
        exact si_neg hD hk this.1 (by omega) h1 (h3.trans h1) (ih _ _ _ _ _ hi)
    · subst hb h6
      have := si_im_lt hi
      exact si_call hE hOb.1 hD hk this.1 (by omega) hr h1 h2 h3 h4 h5 (fun z => hR z r hr h7) (ih _ _ _ _ _ hi)
    · subst hb h5
      have j1 := si_im_lt hi1
      have j2 := si_im_lt hi2
      exact si_bin hE hD hk j1.1 j2.1 (by omega) hs1 hs2 h1 h3 h4 (by rw [h1]; exact si_ar2 (Or.inl ⟨hs1, hs2⟩)) (ih _ _ _ _ _ hi1) (ih _ _ _ _ _ hi2)
    · subst h5
      have j1 := si_im_lt hi1
      have j2 := si_im_lt hi2
      rcases h1 with h1 | h1
      · exact si_or hD hk j1.1 j2.1 hbl h1 (h3.trans h1) h4 (ih _ _ _ _ _ hi1) (ih _ _ _ _ _ hi2)
      · exact si_and hD hk j1.1 j2.1 hbl h1 (h3.trans h1) h4 (ih _ _ _ _ _ hi1) (ih _ _ _ _ _ hi2)
    · have j1 := si_im_lt hi1
      have j2 := si_im_lt hi2
      have j3 := si_im_lt hi3
      exact si_if hD hk j1.1 j2.1 j3.1 hbl h1 h3 h4 h5 h6 (ih _ _ _ _ _ hi1) (ih _ _ _ _ _ hi2) (ih _ _ _ _ _ hi3)
    · subst hb
      have j1 := si_im_lt hi1
      have j2 := si_im_lt hi2
      subst h10
      exact si_quant hE (fun a ha => by obtain ⟨y, e1, e2, _⟩ := hOb.2.2.2.2.2 a ha; exact ⟨y, e1, e2⟩) hD hk (by omega) hv j1.1 j2.1 (by omega) h1 h2 hnB h3 h4 h5 h6 h7 h8 h9 (by rw [h1]; exact si_ar2 (Or.inr ⟨hs1, hs2⟩)) (ih _ _ _ _ _ hi1) (ih _ _ _ _ _ hi2)
theorem si_main (hE : si_E post Z oc tc cp lc sc kc er ep ob tks pl nds res cls num lnk lsz lit fb tk tv rk rl ro ra rt rp oo co sk kd prp opd rn op nm ay prt ylo yhi r0) (hOb : gr_O o cls num lnk lsz lit prp) (hU : gr_U rk rl ro ra rt rp rn op nm ay prt) : ∀ (m l : Nat), l + m = 4 → ∀ r, r < 6 → (rk r = 1 ∨ rk r = 2) → ∃ lr, 0 < lr ∧ lr ≤ 40 ∧ rl r = nI lr ∧ si_Run post Z oc tc cp lc sc kc er ep ob tks pl nds res cls num lnk lsz lit fb tk tv rk rl ro ra rt rp oo co sk kd prp opd rn op nm ay prt ylo yhi o r0 l r 0 0 lr (fun _ => False) (rk r) := by
  intro m
  induction m with
  | zero => ?_
  | succ m ih => ?_
  all_goals
    intro l hl r hr hk
    obtain ⟨len, nn, f, xo, xa, xt, xp, yo, yn, ya, yp, d1, d2, d3, d4, d5, d6, d7, d8, d9, d10⟩ := ((hU r hr).resolve_left (fun z => by rcases hk with y | y <;> rw [z.1] at y <;> exact absurd y (by decide))).2
    refine ⟨len, d1, d2, d4, ?_⟩
  · exact si_core hE hOb (fun z => absurd z (by omega)) ⟨hr, d2, d3, d4, d6, d7, d8⟩ f _ _ _ _ _ d10
  · exact si_core hE hOb (fun z => ih (l + 1) (by omega)) ⟨hr, d2, d3, d4, d6, d7, d8⟩ f _ _ _ _ _ d10
theorem si_eval {r i : Nat} (hE : si_E post Z oc tc cp lc sc kc er ep ob tks pl nds res cls num lnk lsz lit fb tk tv rk rl ro ra rt rp oo co sk kd prp opd rn op nm ay prt ylo yhi r) (hOb : gr_O o cls num lnk lsz lit prp) (hU : gr_U rk rl ro ra rt rp rn op nm ay prt) (hr : r < 6) (hk : ¬ rk r = 0) (hi : i < o) {ret out : Int32} {fr fn fi vs ll li lt sN sP sX sK it vr : Nat → Int32} (hF : ey_F Z ob tks pl nds res cls prp lit lsz fb tk tv opd rk rn op nm ay prt ylo yhi 0 1 0 0 ret out (upd sN 0 (nI (r * 40))) (upd sP 0 0) sX sK (upd it 0 (nI i)) vr)
  (hV : ∀ {s2 g1 : Nat} {v out1 : Int32} {fr1 fn1 fi1 vs1 ll1 li1 lt1 sN1 sP1 sX1 sK1 it1 vr1 : Nat → Int32}, vs1 0 = v → g1 ≤ 40 → ey_F Z ob tks pl nds res cls prp lit lsz fb tk tv opd rk rn op nm ay prt ylo yhi s2 0 0 g1 v out1 sN1 sP1 sX1 sK1 it1 vr1 → post 1 (oc, tc, cp, lc, sc, kc, nI 1, nI 1, er, ep, nI g1, cls, num, lnk, lsz, lit, fb, tk, tv, rk, rl, ro, ra, rt, rp, oo, co, sk, kd, fr1, fn1, fi1, vs1, ll1, li1, lt1)) : ex_R post oc tc cp lc sc kc er ep cls num lnk lsz lit fb tk tv rk rl ro ra rt rp oo co sk kd 0 1 0 0 (upd fr 0 (nI r)) (upd fn 0 0) (upd fi 0 (nI i)) vs ll li lt := by
  have hk' : rk r = 1 ∨ rk r = 2 := (hU r hr).elim (fun z => absurd z.1 hk) (fun z => z.1)
  obtain ⟨lr, h0, h40, elr, run⟩ := si_main hE hOb hU 4 0 (by omega) r hr hk'
  refine run _ _ _ _ _ _ _ _ _ _ _ _ _ _ _ _ _ _ _ _ ⟨by omega, pk_us, pk_us, pk_us.trans pk_us.symm, ⟨i, hi, pk_us⟩, fun v hv z => absurd z id, pk_us, pk_us, fun _ => rfl, fun z => absurd z (by omega), by omega, by omega, by omega, by omega, by omega⟩ hF ?_
  intro s1 s2 g1 v out1 fr1 fn1 fi1 vs1 ll1 li1 lt1 sN1 sP1 sX1 sK1 it1 vr1 hVv hN hv hf hg1 hg2 hs1 hs2 F2
  exact xr_end (q := r) (len := lr) (by omega) hr ((hN.1 0 (Nat.le_refl _)).1.trans pk_us) elr h40 hf (hV hv hg2 F2)
end
theorem i_vc_eval {k : Nat} {u : SX} {v : SY} (I : i_Rel k u v) (hk : k + 4 ≤ 2048) (v1 : Int32) (v2 : Int32) : wpX_eval (fun r u' => wpY_eval (fun r' v' => r' = r ∧ i_Rel (k + 4) u' v') v v1 v2) u v1 v2 := by
  refine gr_el (P := fun u v => wpX_eval (fun r u' => wpY_eval (fun r' v' => r' = r ∧ i_Rel (k + 4) u' v') v v1 v2) u v1 v2) I ?_
  intro o n cp lc sc kc dp vc er ep uu nds sts sp lv ret out cls num lnk lsz lit fb tk tv rk rl ro ra rt rp oo co sk kd fr fn fi vs ll li lt prp opd rn op nm ay prt ylo yhi sN sP sX sK it vr hO hT hU
  have R : i_Rel (k + 4) (nI o, nI n, cp, lc, sc, kc, dp, vc, er, ep, uu, cls, num, lnk, lsz, lit, fb, tk, tv, rk, rl, ro, ra, rt, rp, oo, co, sk, kd, fr, fn, fi, vs, ll, li, lt) (nI o, nI n, cp, nds, sts, er, ep, uu, sp, lv, ret, out, cls, prp, lit, lsz, fb, tk, tv, opd, rk, rn, op, nm, ay, prt, ylo, yhi, sN, sP, sX, sK, it, vr) := gr_mk hO hT hU
  have ho8 : o ≤ 8 := hO.1
  rcases pk_ix v1 (n := 6) (by omega) with h | h | ⟨r, hr, rfl⟩
  · exact br_t h (br_t rfl (br_t h ⟨rfl, R⟩))
  · obtain ⟨j, hj, hj2, rfl⟩ := gr_ge (by omega) h
    exact br_f (nI_pos hj2) (br_t (nI_le (a := 6) hj hj2) (br_t rfl (br_f (nI_pos hj2) (br_t (nI_lt (a := 5) hj hj2) ⟨rfl, R⟩))))
  have r0 : ¬ nI r < 0 := nI_pos (by omega)
  have r6 : ¬ 6 ≤ nI r := nI_ge (b := 6) hr (by decide)
  have r5 : ¬ 5 < nI r := nI_nlt (a := 5) (by omega) (by omega)
  have cr : (nI r).toNatClampNeg = r := nI_clamp (by omega)
  have i6 : vp_in (nI r) 6 := vp_in_nI hr (by decide)
  have i7 : vp_in (nI r) 7 := vp_in_nI (by omega) (by decide)
  by_cases hz : rk r = 0
  · have hz' : rk (nI r).toNatClampNeg = 0 := by rw [cr]; exact hz
    exact br_f r0 (br_f r6 ⟨i7, br_t hz' (br_t rfl (br_f r0 (br_f r5 ⟨i6, br_t hz' ⟨rfl, R⟩⟩)))⟩)
  have hz' : ¬ rk (nI r).toNatClampNeg = 0 := by rw [cr]; exact hz
  rcases gr_obj o ho8 v2 with h | ⟨i, hi, rfl⟩
  · exact br_f r0 (br_f r6 ⟨i7, br_f hz' (br_f (by decide) (gr_br h (br_t rfl (br_f r0 (br_f r5 ⟨i6, br_f hz' (gr_br h (br_t rfl ⟨rfl, R⟩))⟩)))))⟩)
  have n0 : ¬ nI i < 0 := nI_pos (by omega)
  have n1 : ¬ nI o ≤ nI i := nI_ge hi (by omega)
  refine br_f r0 (br_f r6 ⟨i7, br_f hz' (br_f (by decide) (br_f n0 (br_f n1 (br_f (by decide) ?_))))⟩)
  refine ex_enter (d := 0) (w := 0) (g := 0) (by decide) ?_
  have hF : ey_F (fun post => wpY_eval post (nI o, nI n, cp, nds, sts, er, ep, uu, sp, lv, ret, out, cls, prp, lit, lsz, fb, tk, tv, opd, rk, rn, op, nm, ay, prt, ylo, yhi, sN, sP, sX, sK, it, vr) (nI r) (nI i)) (nI o) (nI n) cp nds 0 cls prp lit lsz fb tk tv opd rk rn op nm ay prt ylo yhi 0 1 0 0 ret out (upd sN 0 (nI (r * 40))) (upd sP 0 0) sX sK (upd it 0 (nI i)) vr := by
    intro post hn
    refine br_f r0 (br_f r5 ⟨i6, br_f hz' (br_f n0 (br_f n1 (br_f (by decide) (nm_e ?_))))⟩)
    rw [show nI r * 40 = nI (r * 40) from gr_mul r 40 rfl]
    exact ey_down (p := 0) (l := 0) (g := 0) (by decide) hn
  refine si_eval (post := _) (r := r) (i := i) (oc := nI o) (tc := nI n) (fr := fr) (fn := fn) (fi := fi) (vs := vs) (ll := ll) (li := li) (lt := lt) ?_ hO hU hr hz hi hF ?_
  · intro x g d w e fr fn fi vs ll li lt hx2 hx6 hg he hE
    obtain ⟨j, hj, ef, ep'⟩ := he
    have nx : ¬ nI x = 1 := fun z => absurd ((nI_eq (b := 1) (by omega) (by decide)).1 z) (by omega)
    have ix : nI r * 40 + fn 0 - 1 = nI (r * 40 + j) := by rw [ef, show nI r * 40 + nI (j + 1) = nI (r * 40 + j + 1) from gr_lin r 40 (j + 1) rfl rfl, nI_pred]
    refine br_f nx (br_t rfl (br_t rfl ⟨by rw [ix]; exact vp_in_nI (by omega) (by decide), nm_r (e' := e) (by rw [ix, nI_clamp (by omega)]; exact ep') ?_⟩))
    exact hE _ (fun _ _ _ _ _ _ _ _ _ _ => ⟨rfl, gr_mk hO hT hU⟩)
  · intro s2 g1 v out1 fr1 fn1 fi1 vs1 ll1 li1 lt1 sN1 sP1 sX1 sK1 it1 vr1 hv hg F2
    refine br_t rfl (br_f (by decide) (br_f (by decide) ?_))
    refine F2 _ ⟨1, ?_⟩
    have fin : ∀ x : Int32, x = v → i_Rel (k + 4) (nI o, nI n, cp, lc, sc, kc, nI 1, nI 1, x, -1, nI g1, cls, num, lnk, lsz, lit, fb, tk, tv, rk, rl, ro, ra, rt, rp, oo, co, sk, kd, fr1, fn1, fi1, vs1, ll1, li1, lt1) (nI o, nI n, cp, nds, 1, v, -1, nI g1, nI 0, nI 0, v, out1, cls, prp, lit, lsz, fb, tk, tv, opd, rk, rn, op, nm, ay, prt, ylo, yhi, sN1, sP1, sX1, sK1, it1, vr1) := by
      intro x hx
      subst hx
      exact gr_mk hO hT hU
    by_cases hs : (20000 : Int32) ≤ nI s2
    · exact br_t hs (br_t rfl ⟨rfl, fin _ hv⟩)
    · exact br_f hs (br_t (by decide) (br_t rfl ⟨rfl, fin _ hv⟩))
