def gr_bv (t : Nat) (l r : Int32) : Int32 := if t = 13 then (if l = r then 1 else 0) else if t = 14 then (if r ≤ l then 0 else 1) else if t = 15 then l + r else if t = 16 then l - r else if t = 17 then l * r else l / r
section
variable {K : Int32 → SX → Prop} {oc tc cp lc sc kc er ep : Int32} {cls num lnk lsz lit fb tk tv rk rl ro ra rt rp oo co sk kd fr fn fi vs ll li lt : Nat → Int32} {d w g : Nat}
theorem ex_nr_fin {i L : Nat} (hi : i < 280) (hL : L < 15) (hd : 1 ≤ d) (hd5 : d ≤ 5) (hw : w < 200) (h : K 1 (oc, tc, cp, lc, sc, kc, nI d, nI (w + 1), er, ep, nI g, cls, num, lnk, lsz, lit, fb, tk, tv, rk, rl, ro, ra, rt, rp, oo, co, sk, kd, fr, upd fn (d - 1) (rt i), fi, upd vs w (lt L), ll, li, lt)) : wX_nextRound_40 K (nI i) (nI L) oc tc cp lc sc kc (nI d) (nI w) er ep (nI g) cls num lnk lsz lit fb tk tv rk rl ro ra rt rp oo co sk kd fr fn fi vs ll li lt := by
  obtain ⟨e, rfl⟩ : ∃ e, d = e + 1 := ⟨d - 1, by omega⟩
  refine ⟨vp_in_nI hi (by decide), by rw [nI_pred]; exact vp_in_nI (by omega) (by decide), nm_r (e' := upd fn (e + 1 - 1) (rt i)) (by rw [nI_pred, nI_clamp (by omega), nI_clamp (by omega)]; rfl) ⟨vp_in_nI hL (by decide), ?_⟩⟩
  rw [nI_clamp (by omega)]
  exact ex_push hw h
theorem ex_nr_dec {i L : Nat} {z : Int32} (hL : L < 15) (hz : ¬ z = 0) (h : wX_nextRound_40 K (nI i) (nI L) oc tc cp lc sc kc (nI d) (nI w) er ep (nI g) cls num lnk lsz lit fb tk tv rk rl ro ra rt rp oo co sk kd fr fn fi vs ll li lt) : wpX_nextRound K (oc, tc, cp, lc, sc, kc, nI d, nI w, er, ep, nI g, cls, num, lnk, lsz, lit, fb, tk, tv, rk, rl, ro, ra, rt, rp, oo, co, sk, kd, fr, fn, fi, vs, ll, li, lt) (nI i) (nI L) z :=
  ⟨vp_in_nI hL (by decide), nm_e ⟨vp_in_nI hL (by decide), nm_e (br_f hz h)⟩⟩
theorem ex_nr_emp {i L : Nat} (hL : L < 15) (hl : ll L = -1) (h : wX_nextRound_40 K (nI i) (nI L) oc tc cp lc sc kc (nI d) (nI w) er ep (nI g) cls num lnk lsz lit fb tk tv rk rl ro ra rt rp oo co sk kd fr fn fi vs ll li lt) : wpX_nextRound K (oc, tc, cp, lc, sc, kc, nI d, nI w, er, ep, nI g, cls, num, lnk, lsz, lit, fb, tk, tv, rk, rl, ro, ra, rt, rp, oo, co, sk, kd, fr, fn, fi, vs, ll, li, lt) (nI i) (nI L) 0 :=
  ⟨vp_in_nI hL (by decide), nm_r (e' := -1) (by rw [nI_clamp (by omega)]; exact hl) ⟨vp_in_nI hL (by decide), nm_e (br_t rfl (br_t rfl h))⟩⟩
theorem ex_nr_out {i L l j z : Nat} (hL : L < 15) (hl : ll L = nI l) (hl16 : l < 16) (hj : li L + 1 = nI j) (hj2 : j < 2 ^ 31) (hz : lsz l = nI z) (hzj : z ≤ j) (h : wX_nextRound_40 K (nI i) (nI L) oc tc cp lc sc kc (nI d) (nI w) er ep (nI g) cls num lnk lsz lit fb tk tv rk rl ro ra rt rp oo co sk kd fr fn fi vs ll li lt) : wpX_nextRound K (oc, tc, cp, lc, sc, kc, nI d, nI w, er, ep, nI g, cls, num, lnk, lsz, lit, fb, tk, tv, rk, rl, ro, ra, rt, rp, oo, co, sk, kd, fr, fn, fi, vs, ll, li, lt) (nI i) (nI L) 0 :=
  ⟨vp_in_nI hL (by decide), nm_r (e' := nI l) (by rw [nI_clamp (by omega)]; exact hl) ⟨vp_in_nI hL (by decide), nm_r (e' := nI j) (by rw [nI_clamp (by omega)]; exact hj) (br_t rfl (br_f (gr_m1 (by omega)) ⟨vp_in_nI hl16 (by decide), br_f (by rw [nI_clamp (by omega), hz]; exact nI_nlt hzj hj2) h⟩))⟩⟩
theorem ex_nr_stop {i L l j z : Nat} (hL : L < 15) (hl : ll L = nI l) (hl16 : l < 16) (hj : li L + 1 = nI j) (hz : lsz l = nI z) (hzj : j < z) (hz4 : z ≤ 4) (hg : g = 40) (h : K 6 (oc, tc, cp, lc, sc, kc, nI d, nI w, er, ep, nI g, cls, num, lnk, lsz, lit, fb, tk, tv, rk, rl, ro, ra, rt, rp, oo, co, sk, kd, fr, fn, fi, vs, ll, li, lt)) : wpX_nextRound K (oc, tc, cp, lc, sc, kc, nI d, nI w, er, ep, nI g, cls, num, lnk, lsz, lit, fb, tk, tv, rk, rl, ro, ra, rt, rp, oo, co, sk, kd, fr, fn, fi, vs, ll, li, lt) (nI i) (nI L) 0 :=
  ⟨vp_in_nI hL (by decide), nm_r (e' := nI l) (by rw [nI_clamp (by omega)]; exact hl) ⟨vp_in_nI hL (by decide), nm_r (e' := nI j) (by rw [nI_clamp (by omega)]; exact hj) (br_t rfl (br_f (gr_m1 (by omega)) ⟨vp_in_nI hl16 (by decide), br_t (by rw [nI_clamp (by omega), hz]; exact nI_lt hzj (by omega)) (br_f (by rw [hg]; decide) h)⟩))⟩⟩
theorem ex_nr_go {q m L l j z : Nat} (hq : q < 6) (hm : m < 40) (hd : 1 ≤ d) (hd5 : d ≤ 5) (hL : L < 15) (hl : ll L = nI l) (hl16 : l < 16) (hj : li L + 1 = nI j) (hz : lsz l = nI z) (hzj : j < z) (hz4 : z ≤ 4) (hg : g < 40) (h : K 1 (oc, tc, cp, lc, sc, kc, nI d, nI w, er, ep, nI (g + 1), cls, num, lnk, lsz, lit, fb, tk, tv, rk, rl, ro, ra, rt, rp, oo, co, sk, kd, fr, upd fn (d - 1) (nI (m + 1)), fi, vs, ll, upd li L (nI j), lt)) : wpX_nextRound K (oc, tc, cp, lc, sc, kc, nI d, nI w, er, ep, nI g, cls, num, lnk, lsz, lit, fb, tk, tv, rk, rl, ro, ra, rt, rp, oo, co, sk, kd, fr, fn, fi, vs, ll, li, lt) (nI (q * 40 + m)) (nI L) 0 := by
  obtain ⟨e, rfl⟩ : ∃ e, d = e + 1 := ⟨d - 1, by omega⟩
  have rm : nI (q * 40 + m) - nI (q * 40 + m) / 40 * 40 = nI m := by
    rw [show (40 : Int32) = nI 40 from rfl, pk_rem (by omega) (by omega) (by omega)]
    exact congrArg nI (by omega)
  exact ⟨vp_in_nI hL (by decide), nm_r (e' := nI l) (by rw [nI_clamp (by omega)]; exact hl) ⟨vp_in_nI hL (by decide), nm_r (e' := nI j) (by rw [nI_clamp (by omega)]; exact hj) (br_t rfl (br_f (gr_m1 (by omega)) ⟨vp_in_nI hl16 (by decide), br_t (by rw [nI_clamp (by omega), hz]; exact nI_lt hzj (by omega)) (br_t (nI_lt (b := 40) hg (by decide)) (nm_r (nI_1 g) ⟨vp_in_nI hL (by decide), nm_r (e' := upd li L (nI j)) (by rw [nI_clamp (by omega)]) ⟨by decide, by rw [nI_pred]; exact vp_in_nI (by omega) (by decide), nm_r (e' := upd fn (e + 1 - 1) (nI (m + 1))) (by rw [rm, nI_1, nI_pred, nI_clamp (by omega)]; rfl) h⟩⟩))⟩))⟩⟩
theorem ex_loopOf {K : Int32 → Prop} {v : Nat} (hd : 1 ≤ d) (h : K (nI ((d - 1) * 3 + v))) : wpX_loopOf K (oc, tc, cp, lc, sc, kc, nI d, nI w, er, ep, nI g, cls, num, lnk, lsz, lit, fb, tk, tv, rk, rl, ro, ra, rt, rp, oo, co, sk, kd, fr, fn, fi, vs, ll, li, lt) (nI v) := by
  obtain ⟨e, rfl⟩ : ∃ e, d = e + 1 := ⟨d - 1, by omega⟩
  unfold wpX_loopOf
  dsimp only
  rw [nI_pred, show nI e * 3 + nI v = nI (e * 3 + v) from gr_lin e 3 v rfl rfl]
  exact h
theorem ex_start {i v t : Nat} (hi : i < 280) (hd : 1 ≤ d) (hd5 : d ≤ 5) (hv : v < 3) (hw : w < 200) (ea : ra i = nI v) (eo : ro i = nI t) (ht : t < 25) (h : wpX_nextRound K (oc, tc, cp, lc, sc, kc, nI d, nI w, er, ep, nI g, cls, num, lnk, lsz, lit, fb, tk, tv, rk, rl, ro, ra, rt, rp, oo, co, sk, kd, fr, fn, fi, vs, upd ll ((d - 1) * 3 + v) (vs w), upd li ((d - 1) * 3 + v) (-1), upd lt ((d - 1) * 3 + v) (if t = 21 then 1 else 0)) (nI i) (nI ((d - 1) * 3 + v)) 0) : wpX_startLoop K (oc, tc, cp, lc, sc, kc, nI d, nI (w + 1), er, ep, nI g, cls, num, lnk, lsz, lit, fb, tk, tv, rk, rl, ro, ra, rt, rp, oo, co, sk, kd, fr, fn, fi, vs, ll, li, lt) (nI i) := by
  have hL : (d - 1) * 3 + v < 15 := by omega
  have cl : (nI ((d - 1) * 3 + v)).toNatClampNeg = (d - 1) * 3 + v := nI_clamp (by omega)
  have ci : (nI i).toNatClampNeg = i := nI_clamp (by omega)
  refine ⟨vp_in_nI hi (by decide), ?_⟩
  rw [ci, ea]
  refine ex_loopOf hd ?_
  refine ex_pop hw ?_
  refine ⟨vp_in_nI hL (by decide), nm_r (by rw [cl]) ⟨vp_in_nI hL (by decide), nm_r (by rw [cl]) ⟨vp_in_nI hi (by decide), ?_⟩⟩⟩
  rw [eo]
  by_cases h21 : t = 21
  · rw [if_pos h21] at h
    exact br_t (by rw [h21]; rfl) ⟨vp_in_nI hL (by decide), nm_r (by rw [cl]) h⟩
  · rw [if_neg h21] at h
    exact br_f (fun z => h21 ((nI_eq (b := 21) (by omega) (by decide)).1 z)) ⟨vp_in_nI hL (by decide), nm_r (by rw [cl]) h⟩
/-- is the loop decided by this round's value -/
def gr_dec (t : Nat) (x : Int32) : Prop := (t = 20 ∧ ¬ x = 0) ∨ (t = 21 ∧ x = 0)
theorem ex_endr {i v t : Nat} (hi : i < 280) (hd : 1 ≤ d) (hd5 : d ≤ 5) (hv : v < 3) (hw : w < 200) (ea : ra i = nI v) (eo : ro i = nI t) (ht : t < 25) (h : ∀ z : Int32, (gr_dec t (vs w) → ¬ z = 0) → (¬ gr_dec t (vs w) → z = 0) → wpX_nextRound K (oc, tc, cp, lc, sc, kc, nI d, nI w, er, ep, nI g, cls, num, lnk, lsz, lit, fb, tk, tv, rk, rl, ro, ra, rt, rp, oo, co, sk, kd, fr, fn, fi, vs, ll, li, upd lt ((d - 1) * 3 + v) (if t = 22 then lt ((d - 1) * 3 + v) + vs w else vs w)) (nI i) (nI ((d - 1) * 3 + v)) z) : wpX_endRound K (oc, tc, cp, lc, sc, kc, nI d, nI (w + 1), er, ep, nI g, cls, num, lnk, lsz, lit, fb, tk, tv, rk, rl, ro, ra, rt, rp, oo, co, sk, kd, fr, fn, fi, vs, ll, li, lt) (nI i) := by
  have hL : (d - 1) * 3 + v < 15 := by omega
  have cl : (nI ((d - 1) * 3 + v)).toNatClampNeg = (d - 1) * 3 + v := nI_clamp (by omega)
  have ci : (nI i).toNatClampNeg = i := nI_clamp (by omega)
  refine ⟨vp_in_nI hi (by decide), ?_⟩
  rw [ci, ea]
  refine ex_loopOf hd ?_
  refine ex_pop hw ?_
  refine ⟨vp_in_nI hi (by decide), nm_r (e' := nI t) eo ?_⟩
  have e0 : ∀ b, b < 25 → t ≠ b → ¬ nI t = nI b := fun b hb z y => z ((nI_eq (by omega) (by omega)).1 y)
  have tail : ∀ lt' : Nat → Int32, lt' = upd lt ((d - 1) * 3 + v) (if t = 22 then lt ((d - 1) * 3 + v) + vs w else vs w) → ((nI t = 20 → ((vs w = 0 → (wX_endRound_60 K (nI i) (nI ((d - 1) * 3 + v)) (vs w) (nI t) oc tc cp lc sc kc (nI d) (nI w) er ep (nI g) cls num lnk lsz lit fb tk tv rk rl ro ra rt rp oo co sk kd fr fn fi vs ll li (lt'))) ∧ (¬ vs w = 0 → (wX_endRound_71 K (nI i) (nI ((d - 1) * 3 + v)) oc tc cp lc sc kc (nI d) (nI w) er ep (nI g) cls num lnk lsz lit fb tk tv rk rl ro ra rt rp oo co sk kd fr fn fi vs ll li (lt'))))) ∧ (¬ nI t = 20 → (wX_endRound_60 K (nI i) (nI ((d - 1) * 3 + v)) (vs w) (nI t) oc tc cp lc sc kc (nI d) (nI w) er ep (nI g) cls num lnk lsz lit fb tk tv rk rl ro ra rt rp oo co sk kd fr fn fi vs ll li (lt')))) := by
    intro lt' el
    subst el
    by_cases t20 : t = 20
    · refine br_t (by rw [t20]; rfl) ?_
      by_cases x0 : vs w = 0
      · refine br_t x0 (br_f (e0 21 (by decide) (by omega)) (h 0 (fun z => ?_) (fun _ => rfl)))
        rcases z with z | z
        · exact absurd x0 z.2
        · exact absurd z.1 (by omega)
      · exact br_f x0 (h 1 (fun _ => by decide) (fun z => absurd (Or.inl ⟨t20, x0⟩) z))
    · refine br_f (e0 20 (by decide) t20) ?_
      by_cases t21 : t = 21
      · refine br_t (by rw [t21]; rfl) ?_
        by_cases x0 : vs w = 0
        · exact br_t x0 (h 1 (fun _ => by decide) (fun z => absurd (Or.inr ⟨t21, x0⟩) z))
        · refine br_f x0 (h 0 (fun z => ?_) (fun _ => rfl))
          rcases z with z | z
          · exact absurd z.1 t20
          · exact absurd z.2 x0
      · refine br_f (e0 21 (by decide) t21) (h 0 (fun z => ?_) (fun _ => rfl))
        rcases z with z | z
        · exact absurd z.1 t20
        · exact absurd z.1 t21
  by_cases t22 : t = 22
  · refine br_t (by rw [t22]; rfl) ⟨vp_in_nI hL (by decide), vp_in_nI hL (by decide), fun a ea => tail a ?_⟩
    rw [ea, cl, if_pos t22]
  · refine br_f (e0 22 (by decide) t22) ⟨vp_in_nI hL (by decide), fun a ea => tail a ?_⟩
    rw [ea, cl, if_neg t22]

theorem ex_cmb13 (hw : w + 1 < 200) (h : K 1 (oc, tc, cp, lc, sc, kc, nI d, nI (w + 1), er, ep, nI g, cls, num, lnk, lsz, lit, fb, tk, tv, rk, rl, ro, ra, rt, rp, oo, co, sk, kd, fr, fn, fi, upd vs w (gr_bv 13 (vs w) (vs (w + 1))), ll, li, lt)) : wpX_combine K (oc, tc, cp, lc, sc, kc, nI d, nI (w + 2), er, ep, nI g, cls, num, lnk, lsz, lit, fb, tk, tv, rk, rl, ro, ra, rt, rp, oo, co, sk, kd, fr, fn, fi, vs, ll, li, lt) 13 := by
  unfold wpX_combine; refine ex_pop (w := w + 1) hw ?_
  refine ex_pop (w := w) (by omega) ?_
  refine br_f (by decide) (br_f (by decide) (br_t (by decide) ?_))
  by_cases z : vs w = vs (w + 1)
  · rw [show gr_bv 13 (vs w) (vs (w + 1)) = 1 from if_pos z] at h
    exact br_t z (ex_push (by omega) h)
  · rw [show gr_bv 13 (vs w) (vs (w + 1)) = 0 from if_neg z] at h
    exact br_f z (ex_push (by omega) h)
theorem ex_cmb14 (hw : w + 1 < 200) (h : K 1 (oc, tc, cp, lc, sc, kc, nI d, nI (w + 1), er, ep, nI g, cls, num, lnk, lsz, lit, fb, tk, tv, rk, rl, ro, ra, rt, rp, oo, co, sk, kd, fr, fn, fi, upd vs w (gr_bv 14 (vs w) (vs (w + 1))), ll, li, lt)) : wpX_combine K (oc, tc, cp, lc, sc, kc, nI d, nI (w + 2), er, ep, nI g, cls, num, lnk, lsz, lit, fb, tk, tv, rk, rl, ro, ra, rt, rp, oo, co, sk, kd, fr, fn, fi, vs, ll, li, lt) 14 := by
  unfold wpX_combine; refine ex_pop (w := w + 1) hw ?_
  refine ex_pop (w := w) (by omega) ?_
  refine br_f (by decide) (br_f (by decide) (br_f (by decide) (br_t (by decide) ?_)))
  by_cases z : vs (w + 1) ≤ vs w
  · rw [show gr_bv 14 (vs w) (vs (w + 1)) = 0 from if_pos z] at h
    exact br_t z (ex_push (by omega) h)
  · rw [show gr_bv 14 (vs w) (vs (w + 1)) = 1 from if_neg z] at h
    exact br_f z (ex_push (by omega) h)
theorem ex_cmb15 (hw : w + 1 < 200) (h : K 1 (oc, tc, cp, lc, sc, kc, nI d, nI (w + 1), er, ep, nI g, cls, num, lnk, lsz, lit, fb, tk, tv, rk, rl, ro, ra, rt, rp, oo, co, sk, kd, fr, fn, fi, upd vs w (gr_bv 15 (vs w) (vs (w + 1))), ll, li, lt)) : wpX_combine K (oc, tc, cp, lc, sc, kc, nI d, nI (w + 2), er, ep, nI g, cls, num, lnk, lsz, lit, fb, tk, tv, rk, rl, ro, ra, rt, rp, oo, co, sk, kd, fr, fn, fi, vs, ll, li, lt) 15 := by
  unfold wpX_combine; refine ex_pop (w := w + 1) hw ?_
  refine ex_pop (w := w) (by omega) ?_
  exact br_f (by decide) (br_f (by decide) (br_f (by decide) (br_f (by decide) (br_t (by decide) (ex_push (by omega) h)))))
theorem ex_cmb16 (hw : w + 1 < 200) (h : K 1 (oc, tc, cp, lc, sc, kc, nI d, nI (w + 1), er, ep, nI g, cls, num, lnk, lsz, lit, fb, tk, tv, rk, rl, ro, ra, rt, rp, oo, co, sk, kd, fr, fn, fi, upd vs w (gr_bv 16 (vs w) (vs (w + 1))), ll, li, lt)) : wpX_combine K (oc, tc, cp, lc, sc, kc, nI d, nI (w + 2), er, ep, nI g, cls, num, lnk, lsz, lit, fb, tk, tv, rk, rl, ro, ra, rt, rp, oo, co, sk, kd, fr, fn, fi, vs, ll, li, lt) 16 := by
  unfold wpX_combine; refine ex_pop (w := w + 1) hw ?_
  refine ex_pop (w := w) (by omega) ?_
  exact br_f (by decide) (br_f (by decide) (br_f (by decide) (br_f (by decide) (br_f (by decide) (br_t (by decide) (ex_push (by omega) h))))))
theorem ex_cmb17 (hw : w + 1 < 200) (h : K 1 (oc, tc, cp, lc, sc, kc, nI d, nI (w + 1), er, ep, nI g, cls, num, lnk, lsz, lit, fb, tk, tv, rk, rl, ro, ra, rt, rp, oo, co, sk, kd, fr, fn, fi, upd vs w (gr_bv 17 (vs w) (vs (w + 1))), ll, li, lt)) : wpX_combine K (oc, tc, cp, lc, sc, kc, nI d, nI (w + 2), er, ep, nI g, cls, num, lnk, lsz, lit, fb, tk, tv, rk, rl, ro, ra, rt, rp, oo, co, sk, kd, fr, fn, fi, vs, ll, li, lt) 17 := by
  unfold wpX_combine; refine ex_pop (w := w + 1) hw ?_
  refine ex_pop (w := w) (by omega) ?_
  exact br_f (by decide) (br_f (by decide) (br_f (by decide) (br_f (by decide) (br_f (by decide) (br_f (by decide) (br_t (by decide) (ex_push (by omega) h)))))))
theorem ex_cmb18 (hw : w + 1 < 200) (h0 : ¬ vs (w + 1) = 0) (h : K 1 (oc, tc, cp, lc, sc, kc, nI d, nI (w + 1), er, ep, nI g, cls, num, lnk, lsz, lit, fb, tk, tv, rk, rl, ro, ra, rt, rp, oo, co, sk, kd, fr, fn, fi, upd vs w (gr_bv 18 (vs w) (vs (w + 1))), ll, li, lt)) : wpX_combine K (oc, tc, cp, lc, sc, kc, nI d, nI (w + 2), er, ep, nI g, cls, num, lnk, lsz, lit, fb, tk, tv, rk, rl, ro, ra, rt, rp, oo, co, sk, kd, fr, fn, fi, vs, ll, li, lt) 18 := by
  unfold wpX_combine; refine ex_pop (w := w + 1) hw ?_
  refine ex_pop (w := w) (by omega) ?_
  exact br_f (by decide) (br_t (by decide) (br_f h0 ⟨h0, ex_push (by omega) h⟩))
theorem ex_cmb_div (hw : w + 1 < 200) (h0 : vs (w + 1) = 0) (h : K 4 (oc, tc, cp, lc, sc, kc, nI d, nI w, er, ep, nI g, cls, num, lnk, lsz, lit, fb, tk, tv, rk, rl, ro, ra, rt, rp, oo, co, sk, kd, fr, fn, fi, vs, ll, li, lt)) : wpX_combine K (oc, tc, cp, lc, sc, kc, nI d, nI (w + 2), er, ep, nI g, cls, num, lnk, lsz, lit, fb, tk, tv, rk, rl, ro, ra, rt, rp, oo, co, sk, kd, fr, fn, fi, vs, ll, li, lt) 18 := by
  unfold wpX_combine; refine ex_pop (w := w + 1) hw ?_
  refine ex_pop (w := w) (by omega) ?_
  exact br_f (by decide) (br_t (by decide) (br_t h0 h))
theorem ex_pf0 {i : Nat} (hi : i < 280) (ho : ro i = 0) (hw : w < 200) (h : K 1 (oc, tc, cp, lc, sc, kc, nI d, nI (w + 1), er, ep, nI g, cls, num, lnk, lsz, lit, fb, tk, tv, rk, rl, ro, ra, rt, rp, oo, co, sk, kd, fr, fn, fi, upd vs w (ra i), ll, li, lt)) : wpX_perform K (oc, tc, cp, lc, sc, kc, nI d, nI w, er, ep, nI g, cls, num, lnk, lsz, lit, fb, tk, tv, rk, rl, ro, ra, rt, rp, oo, co, sk, kd, fr, fn, fi, vs, ll, li, lt) (nI i) := by
  have ci : (nI i).toNatClampNeg = i := nI_clamp (by omega)
  refine ⟨vp_in_nI hi (by decide), nm_r (e' := 0) (by rw [ci]; exact ho) (br_f (by decide) (br_f (by decide) (br_t (by decide) (?_))))⟩
  rw [ci]
  exact ⟨vp_in_nI hi (by decide), ex_push hw h⟩
theorem ex_pf3 {i : Nat} (hi : i < 280) (ho : ro i = 3) (hd : 1 ≤ d) (hd5 : d ≤ 5) (hw : w < 200) (h : K 1 (oc, tc, cp, lc, sc, kc, nI d, nI (w + 1), er, ep, nI g, cls, num, lnk, lsz, lit, fb, tk, tv, rk, rl, ro, ra, rt, rp, oo, co, sk, kd, fr, fn, fi, upd vs w (fi (d - 1)), ll, li, lt)) : wpX_perform K (oc, tc, cp, lc, sc, kc, nI d, nI w, er, ep, nI g, cls, num, lnk, lsz, lit, fb, tk, tv, rk, rl, ro, ra, rt, rp, oo, co, sk, kd, fr, fn, fi, vs, ll, li, lt) (nI i) := by
  have ci : (nI i).toNatClampNeg = i := nI_clamp (by omega)
  refine ⟨vp_in_nI hi (by decide), nm_r (e' := 3) (by rw [ci]; exact ho) (br_f (by decide) (br_f (by decide) (br_f (by decide) (br_f (by decide) (br_f (by decide) (br_t (by decide) (?_)))))))⟩
  obtain ⟨e, rfl⟩ : ∃ e, d = e + 1 := ⟨d - 1, by omega⟩
  rw [nI_pred, nI_clamp (by omega)]
  exact ⟨vp_in_nI (by omega) (by decide), ex_push hw h⟩
theorem ex_pf19 {i : Nat} (hi : i < 280) (ho : ro i = 19) (hw : w < 200) (h : K 1 (oc, tc, cp, lc, sc, kc, nI d, nI (w + 1), er, ep, nI g, cls, num, lnk, lsz, lit, fb, tk, tv, rk, rl, ro, ra, rt, rp, oo, co, sk, kd, fr, fn, fi, upd vs w (-1), ll, li, lt)) : wpX_perform K (oc, tc, cp, lc, sc, kc, nI d, nI w, er, ep, nI g, cls, num, lnk, lsz, lit, fb, tk, tv, rk, rl, ro, ra, rt, rp, oo, co, sk, kd, fr, fn, fi, vs, ll, li, lt) (nI i) := by
  have ci : (nI i).toNatClampNeg = i := nI_clamp (by omega)
  refine ⟨vp_in_nI hi (by decide), nm_r (e' := 19) (by rw [ci]; exact ho) (br_f (by decide) (br_f (by decide) (br_f (by decide) (br_f (by decide) (br_f (by decide) (br_f (by decide) (br_f (by decide) (br_f (by decide) (br_f (by decide) (br_f (by decide) (br_f (by decide) (br_f (by decide) (br_f (by decide) (br_f (by decide) (br_f (by decide) (br_f (by decide) (br_f (by decide) (br_f (by decide) (br_f (by decide) (br_f (by decide) (br_f (by decide) (br_t (by decide) (?_)))))))))))))))))))))))⟩
  exact ex_push hw h
theorem ex_pf4 {i : Nat} (hi : i < 280) (ho : ro i = 4) {v l j : Nat} (hd : 1 ≤ d) (hd5 : d ≤ 5) (hw : w < 200) (hv : v < 3) (ea : ra i = nI v) (el : ll ((d - 1) * 3 + v) = nI l) (ej : li ((d - 1) * 3 + v) = nI j) (hlj : l * 4 + j < 64) (h : K 1 (oc, tc, cp, lc, sc, kc, nI d, nI (w + 1), er, ep, nI g, cls, num, lnk, lsz, lit, fb, tk, tv, rk, rl, ro, ra, rt, rp, oo, co, sk, kd, fr, fn, fi, upd vs w (lit (l * 4 + j)), ll, li, lt)) : wpX_perform K (oc, tc, cp, lc, sc, kc, nI d, nI w, er, ep, nI g, cls, num, lnk, lsz, lit, fb, tk, tv, rk, rl, ro, ra, rt, rp, oo, co, sk, kd, fr, fn, fi, vs, ll, li, lt) (nI i) := by
  have ci : (nI i).toNatClampNeg = i := nI_clamp (by omega)
  refine ⟨vp_in_nI hi (by decide), nm_r (e' := 4) (by rw [ci]; exact ho) (br_f (by decide) (br_f (by decide) (br_f (by decide) (br_f (by decide) (br_f (by decide) (br_f (by decide) (br_t (by decide) (?_))))))))⟩
  rw [ci, ea]
  refine ⟨vp_in_nI hi (by decide), ?_⟩
  unfold wpX_pushBound
  refine ex_loopOf hd ?_
  have cl : (nI ((d - 1) * 3 + v)).toNatClampNeg = (d - 1) * 3 + v := nI_clamp (by omega)
  have e4 : nI l * 4 + nI j = nI (l * 4 + j) := gr_lin l 4 j rfl rfl
  rw [cl, el, ej, e4, nI_clamp (n := l * 4 + j) (by omega)]
  exact ⟨vp_in_nI (by omega) (by decide), vp_in_nI (by omega) (by decide), vp_in_nI hlj (by decide), ex_push hw h⟩
theorem ex_pf1 {i : Nat} (hi : i < 280) (ho : ro i = 1)  (h : wpX_readProperty K (oc, tc, cp, lc, sc, kc, nI d, nI w, er, ep, nI g, cls, num, lnk, lsz, lit, fb, tk, tv, rk, rl, ro, ra, rt, rp, oo, co, sk, kd, fr, fn, fi, vs, ll, li, lt) 1 (ra i)) : wpX_perform K (oc, tc, cp, lc, sc, kc, nI d, nI w, er, ep, nI g, cls, num, lnk, lsz, lit, fb, tk, tv, rk, rl, ro, ra, rt, rp, oo, co, sk, kd, fr, fn, fi, vs, ll, li, lt) (nI i) := by
  have ci : (nI i).toNatClampNeg = i := nI_clamp (by omega)
  refine ⟨vp_in_nI hi (by decide), nm_r (e' := 1) (by rw [ci]; exact ho) (br_f (by decide) (br_f (by decide) (br_f (by decide) (br_t (by decide) (?_)))))⟩
  refine ⟨vp_in_nI hi (by decide), vp_in_nI hi (by decide), ?_⟩
  rw [ci, ho]
  exact h
theorem ex_pf2 {i : Nat} (hi : i < 280) (ho : ro i = 2)  (h : wpX_readProperty K (oc, tc, cp, lc, sc, kc, nI d, nI w, er, ep, nI g, cls, num, lnk, lsz, lit, fb, tk, tv, rk, rl, ro, ra, rt, rp, oo, co, sk, kd, fr, fn, fi, vs, ll, li, lt) 2 (ra i)) : wpX_perform K (oc, tc, cp, lc, sc, kc, nI d, nI w, er, ep, nI g, cls, num, lnk, lsz, lit, fb, tk, tv, rk, rl, ro, ra, rt, rp, oo, co, sk, kd, fr, fn, fi, vs, ll, li, lt) (nI i) := by
  have ci : (nI i).toNatClampNeg = i := nI_clamp (by omega)
  refine ⟨vp_in_nI hi (by decide), nm_r (e' := 2) (by rw [ci]; exact ho) (br_f (by decide) (br_f (by decide) (br_f (by decide) (br_f (by decide) (br_t (by decide) (?_))))))⟩
  refine ⟨vp_in_nI hi (by decide), vp_in_nI hi (by decide), ?_⟩
  rw [ci, ho]
  exact h
theorem ex_pf5 {i : Nat} (hi : i < 280) (ho : ro i = 5)  (h : wpX_callRule K (oc, tc, cp, lc, sc, kc, nI d, nI w, er, ep, nI g, cls, num, lnk, lsz, lit, fb, tk, tv, rk, rl, ro, ra, rt, rp, oo, co, sk, kd, fr, fn, fi, vs, ll, li, lt) (ra i)) : wpX_perform K (oc, tc, cp, lc, sc, kc, nI d, nI w, er, ep, nI g, cls, num, lnk, lsz, lit, fb, tk, tv, rk, rl, ro, ra, rt, rp, oo, co, sk, kd, fr, fn, fi, vs, ll, li, lt) (nI i) := by
  have ci : (nI i).toNatClampNeg = i := nI_clamp (by omega)
  refine ⟨vp_in_nI hi (by decide), nm_r (e' := 5) (by rw [ci]; exact ho) (br_f (by decide) (br_f (by decide) (br_f (by decide) (br_f (by decide) (br_f (by decide) (br_f (by decide) (br_f (by decide) (br_t (by decide) (?_)))))))))⟩
  rw [ci]
  exact ⟨vp_in_nI hi (by decide), h⟩
theorem ex_pf8 {i : Nat} (hi : i < 280) (ho : ro i = 8)  (h : wpX_branch K (oc, tc, cp, lc, sc, kc, nI d, nI w, er, ep, nI g, cls, num, lnk, lsz, lit, fb, tk, tv, rk, rl, ro, ra, rt, rp, oo, co, sk, kd, fr, fn, fi, vs, ll, li, lt) (nI i)) : wpX_perform K (oc, tc, cp, lc, sc, kc, nI d, nI w, er, ep, nI g, cls, num, lnk, lsz, lit, fb, tk, tv, rk, rl, ro, ra, rt, rp, oo, co, sk, kd, fr, fn, fi, vs, ll, li, lt) (nI i) := by
  have ci : (nI i).toNatClampNeg = i := nI_clamp (by omega)
  refine ⟨vp_in_nI hi (by decide), nm_r (e' := 8) (by rw [ci]; exact ho) (br_f (by decide) (br_f (by decide) (br_f (by decide) (br_f (by decide) (br_f (by decide) (br_f (by decide) (br_f (by decide) (br_f (by decide) (br_f (by decide) (br_f (by decide) (br_t (by decide) (?_))))))))))))⟩
  exact h
theorem ex_pf9 {i : Nat} (hi : i < 280) (ho : ro i = 9)  (h : wpX_branch K (oc, tc, cp, lc, sc, kc, nI d, nI w, er, ep, nI g, cls, num, lnk, lsz, lit, fb, tk, tv, rk, rl, ro, ra, rt, rp, oo, co, sk, kd, fr, fn, fi, vs, ll, li, lt) (nI i)) : wpX_perform K (oc, tc, cp, lc, sc, kc, nI d, nI w, er, ep, nI g, cls, num, lnk, lsz, lit, fb, tk, tv, rk, rl, ro, ra, rt, rp, oo, co, sk, kd, fr, fn, fi, vs, ll, li, lt) (nI i) := by
  have ci : (nI i).toNatClampNeg = i := nI_clamp (by omega)
  refine ⟨vp_in_nI hi (by decide), nm_r (e' := 9) (by rw [ci]; exact ho) (br_f (by decide) (br_f (by decide) (br_f (by decide) (br_f (by decide) (br_f (by decide) (br_f (by decide) (br_f (by decide) (br_f (by decide) (br_f (by decide) (br_f (by decide) (br_f (by decide) (br_t (by decide) (?_)))))))))))))⟩
  exact h
theorem ex_pf10 {i : Nat} (hi : i < 280) (ho : ro i = 10)  (h : wpX_branch K (oc, tc, cp, lc, sc, kc, nI d, nI w, er, ep, nI g, cls, num, lnk, lsz, lit, fb, tk, tv, rk, rl, ro, ra, rt, rp, oo, co, sk, kd, fr, fn, fi, vs, ll, li, lt) (nI i)) : wpX_perform K (oc, tc, cp, lc, sc, kc, nI d, nI w, er, ep, nI g, cls, num, lnk, lsz, lit, fb, tk, tv, rk, rl, ro, ra, rt, rp, oo, co, sk, kd, fr, fn, fi, vs, ll, li, lt) (nI i) := by
  have ci : (nI i).toNatClampNeg = i := nI_clamp (by omega)
  refine ⟨vp_in_nI hi (by decide), nm_r (e' := 10) (by rw [ci]; exact ho) (br_f (by decide) (br_f (by decide) (br_f (by decide) (br_f (by decide) (br_f (by decide) (br_f (by decide) (br_f (by decide) (br_f (by decide) (br_f (by decide) (br_f (by decide) (br_f (by decide) (br_f (by decide) (br_t (by decide) (?_))))))))))))))⟩
  exact h
theorem ex_pf11 {i : Nat} (hi : i < 280) (ho : ro i = 11)  (h : wpX_branch K (oc, tc, cp, lc, sc, kc, nI d, nI w, er, ep, nI g, cls, num, lnk, lsz, lit, fb, tk, tv, rk, rl, ro, ra, rt, rp, oo, co, sk, kd, fr, fn, fi, vs, ll, li, lt) (nI i)) : wpX_perform K (oc, tc, cp, lc, sc, kc, nI d, nI w, er, ep, nI g, cls, num, lnk, lsz, lit, fb, tk, tv, rk, rl, ro, ra, rt, rp, oo, co, sk, kd, fr, fn, fi, vs, ll, li, lt) (nI i) := by
  have ci : (nI i).toNatClampNeg = i := nI_clamp (by omega)
  refine ⟨vp_in_nI hi (by decide), nm_r (e' := 11) (by rw [ci]; exact ho) (br_f (by decide) (br_f (by decide) (br_f (by decide) (br_f (by decide) (br_f (by decide) (br_f (by decide) (br_f (by decide) (br_f (by decide) (br_f (by decide) (br_f (by decide) (br_f (by decide) (br_f (by decide) (br_f (by decide) (br_t (by decide) (?_)))))))))))))))⟩
  exact h
theorem ex_pf12 {i : Nat} (hi : i < 280) (ho : ro i = 12) (hw : w < 200) (h : K 1 (oc, tc, cp, lc, sc, kc, nI d, nI (w + 1), er, ep, nI g, cls, num, lnk, lsz, lit, fb, tk, tv, rk, rl, ro, ra, rt, rp, oo, co, sk, kd, fr, fn, fi, upd vs w (1 - vs w), ll, li, lt)) : wpX_perform K (oc, tc, cp, lc, sc, kc, nI d, nI (w + 1), er, ep, nI g, cls, num, lnk, lsz, lit, fb, tk, tv, rk, rl, ro, ra, rt, rp, oo, co, sk, kd, fr, fn, fi, vs, ll, li, lt) (nI i) := by
  have ci : (nI i).toNatClampNeg = i := nI_clamp (by omega)
  refine ⟨vp_in_nI hi (by decide), nm_r (e' := 12) (by rw [ci]; exact ho) (br_f (by decide) (br_f (by decide) (br_f (by decide) (br_f (by decide) (br_f (by decide) (br_f (by decide) (br_f (by decide) (br_f (by decide) (br_f (by decide) (br_f (by decide) (br_f (by decide) (br_f (by decide) (br_f (by decide) (br_f (by decide) (br_t (by decide) (?_))))))))))))))))⟩
  rw [nI_pred, nI_clamp (n := w) (by omega)]
  exact ⟨vp_in_nI hw (by decide), vp_in_nI hw (by decide), nm_e h⟩
theorem ex_pf23 {i : Nat} (hi : i < 280) (ho : ro i = 23) (hw : w < 200) (h : K 1 (oc, tc, cp, lc, sc, kc, nI d, nI (w + 1), er, ep, nI g, cls, num, lnk, lsz, lit, fb, tk, tv, rk, rl, ro, ra, rt, rp, oo, co, sk, kd, fr, fn, fi, upd vs w (-(vs w)), ll, li, lt)) : wpX_perform K (oc, tc, cp, lc, sc, kc, nI d, nI (w + 1), er, ep, nI g, cls, num, lnk, lsz, lit, fb, tk, tv, rk, rl, ro, ra, rt, rp, oo, co, sk, kd, fr, fn, fi, vs, ll, li, lt) (nI i) := by
  have ci : (nI i).toNatClampNeg = i := nI_clamp (by omega)
  refine ⟨vp_in_nI hi (by decide), nm_r (e' := 23) (by rw [ci]; exact ho) (br_f (by decide) (br_f (by decide) (br_f (by decide) (br_f (by decide) (br_f (by decide) (br_f (by decide) (br_f (by decide) (br_f (by decide) (br_f (by decide) (br_f (by decide) (br_f (by decide) (br_f (by decide) (br_f (by decide) (br_f (by decide) (br_f (by decide) (br_f (by decide) (br_f (by decide) (br_f (by decide) (br_f (by decide) (br_f (by decide) (br_f (by decide) (br_f (by decide) (br_f (by decide) (br_f (by decide) (br_f (by decide) (br_t (by decide) (?_)))))))))))))))))))))))))))⟩
  rw [nI_pred, nI_clamp (n := w) (by omega)]
  exact ⟨vp_in_nI hw (by decide), vp_in_nI hw (by decide), nm_e h⟩
theorem ex_pf20 {i : Nat} (hi : i < 280) (ho : ro i = 20)  (h : wpX_startLoop K (oc, tc, cp, lc, sc, kc, nI d, nI w, er, ep, nI g, cls, num, lnk, lsz, lit, fb, tk, tv, rk, rl, ro, ra, rt, rp, oo, co, sk, kd, fr, fn, fi, vs, ll, li, lt) (nI i)) : wpX_perform K (oc, tc, cp, lc, sc, kc, nI d, nI w, er, ep, nI g, cls, num, lnk, lsz, lit, fb, tk, tv, rk, rl, ro, ra, rt, rp, oo, co, sk, kd, fr, fn, fi, vs, ll, li, lt) (nI i) := by
  have ci : (nI i).toNatClampNeg = i := nI_clamp (by omega)
  refine ⟨vp_in_nI hi (by decide), nm_r (e' := 20) (by rw [ci]; exact ho) (br_f (by decide) (br_f (by decide) (br_f (by decide) (br_f (by decide) (br_f (by decide) (br_f (by decide) (br_f (by decide) (br_f (by decide) (br_f (by decide) (br_f (by decide) (br_f (by decide) (br_f (by decide) (br_f (by decide) (br_f (by decide) (br_f (by decide) (br_f (by decide) (br_f (by decide) (br_f (by decide) (br_f (by decide) (br_f (by decide) (br_f (by decide) (br_f (by decide) (br_t (by decide) (?_))))))))))))))))))))))))⟩
  exact h
theorem ex_pf21 {i : Nat} (hi : i < 280) (ho : ro i = 21)  (h : wpX_startLoop K (oc, tc, cp, lc, sc, kc, nI d, nI w, er, ep, nI g, cls, num, lnk, lsz, lit, fb, tk, tv, rk, rl, ro, ra, rt, rp, oo, co, sk, kd, fr, fn, fi, vs, ll, li, lt) (nI i)) : wpX_perform K (oc, tc, cp, lc, sc, kc, nI d, nI w, er, ep, nI g, cls, num, lnk, lsz, lit, fb, tk, tv, rk, rl, ro, ra, rt, rp, oo, co, sk, kd, fr, fn, fi, vs, ll, li, lt) (nI i) := by
  have ci : (nI i).toNatClampNeg = i := nI_clamp (by omega)
  refine ⟨vp_in_nI hi (by decide), nm_r (e' := 21) (by rw [ci]; exact ho) (br_f (by decide) (br_f (by decide) (br_f (by decide) (br_f (by decide) (br_f (by decide) (br_f (by decide) (br_f (by decide) (br_f (by decide) (br_f (by decide) (br_f (by decide) (br_f (by decide) (br_f (by decide) (br_f (by decide) (br_f (by decide) (br_f (by decide) (br_f (by decide) (br_f (by decide) (br_f (by decide) (br_f (by decide) (br_f (by decide) (br_f (by decide) (br_f (by decide) (br_f (by decide) (br_t (by decide) (?_)))))))))))))))))))))))))⟩
  exact h
theorem ex_pf22 {i : Nat} (hi : i < 280) (ho : ro i = 22)  (h : wpX_startLoop K (oc, tc, cp, lc, sc, kc, nI d, nI w, er, ep, nI g, cls, num, lnk, lsz, lit, fb, tk, tv, rk, rl, ro, ra, rt, rp, oo, co, sk, kd, fr, fn, fi, vs, ll, li, lt) (nI i)) : wpX_perform K (oc, tc, cp, lc, sc, kc, nI d, nI w, er, ep, nI g, cls, num, lnk, lsz, lit, fb, tk, tv, rk, rl, ro, ra, rt, rp, oo, co, sk, kd, fr, fn, fi, vs, ll, li, lt) (nI i) := by
  have ci : (nI i).toNatClampNeg = i := nI_clamp (by omega)
  refine ⟨vp_in_nI hi (by decide), nm_r (e' := 22) (by rw [ci]; exact ho) (br_f (by decide) (br_f (by decide) (br_f (by decide) (br_f (by decide) (br_f (by decide) (br_f (by decide) (br_f (by decide) (br_f (by decide) (br_f (by decide) (br_f (by decide) (br_f (by decide) (br_f (by decide) (br_f (by decide) (br_f (by decide) (br_f (by decide) (br_f (by decide) (br_f (by decide) (br_f (by decide) (br_f (by decide) (br_f (by decide) (br_f (by decide) (br_f (by decide) (br_f (by decide) (br_f (by decide) (br_t (by decide) (?_))))))))))))))))))))))))))⟩
  exact h
theorem ex_pf13 {i : Nat} (hi : i < 280) (ho : ro i = 13)  (h : wpX_combine K (oc, tc, cp, lc, sc, kc, nI d, nI w, er, ep, nI g, cls, num, lnk, lsz, lit, fb, tk, tv, rk, rl, ro, ra, rt, rp, oo, co, sk, kd, fr, fn, fi, vs, ll, li, lt) 13) : wpX_perform K (oc, tc, cp, lc, sc, kc, nI d, nI w, er, ep, nI g, cls, num, lnk, lsz, lit, fb, tk, tv, rk, rl, ro, ra, rt, rp, oo, co, sk, kd, fr, fn, fi, vs, ll, li, lt) (nI i) := by
  have ci : (nI i).toNatClampNeg = i := nI_clamp (by omega)
  refine ⟨vp_in_nI hi (by decide), nm_r (e' := 13) (by rw [ci]; exact ho) (br_f (by decide) (br_f (by decide) (br_f (by decide) (br_f (by decide) (br_f (by decide) (br_f (by decide) (br_f (by decide) (br_f (by decide) (br_f (by decide) (br_f (by decide) (br_f (by decide) (br_f (by decide) (br_f (by decide) (br_f (by decide) (br_f (by decide) (br_t (by decide) (?_)))))))))))))))))⟩
  refine ⟨vp_in_nI hi (by decide), ?_⟩
  rw [ci, ho]
  exact h
theorem ex_pf14 {i : Nat} (hi : i < 280) (ho : ro i = 14)  (h : wpX_combine K (oc, tc, cp, lc, sc, kc, nI d, nI w, er, ep, nI g, cls, num, lnk, lsz, lit, fb, tk, tv, rk, rl, ro, ra, rt, rp, oo, co, sk, kd, fr, fn, fi, vs, ll, li, lt) 14) : wpX_perform K (oc, tc, cp, lc, sc, kc, nI d, nI w, er, ep, nI g, cls, num, lnk, lsz, lit, fb, tk, tv, rk, rl, ro, ra, rt, rp, oo, co, sk, kd, fr, fn, fi, vs, ll, li, lt) (nI i) := by
  have ci : (nI i).toNatClampNeg = i := nI_clamp (by omega)
  refine ⟨vp_in_nI hi (by decide), nm_r (e' := 14) (by rw [ci]; exact ho) (br_f (by decide) (br_f (by decide) (br_f (by decide) (br_f (by decide) (br_f (by decide) (br_f (by decide) (br_f (by decide) (br_f (by decide) (br_f (by decide) (br_f (by decide) (br_f (by decide) (br_f (by decide) (br_f (by decide) (br_f (by decide) (br_f (by decide) (br_f (by decide) (br_t (by decide) (?_))))))))))))))))))⟩
  refine ⟨vp_in_nI hi (by decide), ?_⟩
  rw [ci, ho]
  exact h
theorem ex_pf15 {i : Nat} (hi : i < 280) (ho : ro i = 15)  (h : wpX_combine K (oc, tc, cp, lc, sc, kc, nI d, nI w, er, ep, nI g, cls, num, lnk, lsz, lit, fb, tk, tv, rk, rl, ro, ra, rt, rp, oo, co, sk, kd, fr, fn, fi, vs, ll, li, lt) 15) : wpX_perform K (oc, tc, cp, lc, sc, kc, nI d, nI w, er, ep, nI g, cls, num, lnk, lsz, lit, fb, tk, tv, rk, rl, ro, ra, rt, rp, oo, co, sk, kd, fr, fn, fi, vs, ll, li, lt) (nI i) := by
  have ci : (nI i).toNatClampNeg = i := nI_clamp (by omega)
  refine ⟨vp_in_nI hi (by decide), nm_r (e' := 15) (by rw [ci]; exact ho) (br_f (by decide) (br_f (by decide) (br_f (by decide) (br_f (by decide) (br_f (by decide) (br_f (by decide) (br_f (by decide) (br_f (by decide) (br_f (by decide) (br_f (by decide) (br_f (by decide) (br_f (by decide) (br_f (by decide) (br_f (by decide) (br_f (by decide) (br_f (by decide) (br_f (by decide) (br_t (by decide) (?_)))))))))))))))))))⟩
  refine ⟨vp_in_nI hi (by decide), ?_⟩
  rw [ci, ho]
  exact h
theorem ex_pf16 {i : Nat} (hi : i < 280) (ho : ro i = 16)  (h : wpX_combine K (oc, tc, cp, lc, sc, kc, nI d, nI w, er, ep, nI g, cls, num, lnk, lsz, lit, fb, tk, tv, rk, rl, ro, ra, rt, rp, oo, co, sk, kd, fr, fn, fi, vs, ll, li, lt) 16) : wpX_perform K (oc, tc, cp, lc, sc, kc, nI d, nI w, er, ep, nI g, cls, num, lnk, lsz, lit, fb, tk, tv, rk, rl, ro, ra, rt, rp, oo, co, sk, kd, fr, fn, fi, vs, ll, li, lt) (nI i) := by
  have ci : (nI i).toNatClampNeg = i := nI_clamp (by omega)
  refine ⟨vp_in_nI hi (by decide), nm_r (e' := 16) (by rw [ci]; exact ho) (br_f (by decide) (br_f (by decide) (br_f (by decide) (br_f (by decide) (br_f (by decide) (br_f (by decide) (br_f (by decide) (br_f (by decide) (br_f (by decide) (br_f (by decide) (br_f (by decide) (br_f (by decide) (br_f (by decide) (br_f (by decide) (br_f (by decide) (br_f (by decide) (br_f (by decide) (br_f (by decide) (br_t (by decide) (?_))))))))))))))))))))⟩
  refine ⟨vp_in_nI hi (by decide), ?_⟩
  rw [ci, ho]
  exact h
theorem ex_pf17 {i : Nat} (hi : i < 280) (ho : ro i = 17)  (h : wpX_combine K (oc, tc, cp, lc, sc, kc, nI d, nI w, er, ep, nI g, cls, num, lnk, lsz, lit, fb, tk, tv, rk, rl, ro, ra, rt, rp, oo, co, sk, kd, fr, fn, fi, vs, ll, li, lt) 17) : wpX_perform K (oc, tc, cp, lc, sc, kc, nI d, nI w, er, ep, nI g, cls, num, lnk, lsz, lit, fb, tk, tv, rk, rl, ro, ra, rt, rp, oo, co, sk, kd, fr, fn, fi, vs, ll, li, lt) (nI i) := by
  have ci : (nI i).toNatClampNeg = i := nI_clamp (by omega)
  refine ⟨vp_in_nI hi (by decide), nm_r (e' := 17) (by rw [ci]; exact ho) (br_f (by decide) (br_f (by decide) (br_f (by decide) (br_f (by decide) (br_f (by decide) (br_f (by decide) (br_f (by decide) (br_f (by decide) (br_f (by decide) (br_f (by decide) (br_f (by decide) (br_f (by decide) (br_f (by decide) (br_f (by decide) (br_f (by decide) (br_f (by decide) (br_f (by decide) (br_f (by decide) (br_f (by decide) (br_t (by decide) (?_)))))))))))))))))))))⟩
  refine ⟨vp_in_nI hi (by decide), ?_⟩
  rw [ci, ho]
  exact h
theorem ex_pf18 {i : Nat} (hi : i < 280) (ho : ro i = 18)  (h : wpX_combine K (oc, tc, cp, lc, sc, kc, nI d, nI w, er, ep, nI g, cls, num, lnk, lsz, lit, fb, tk, tv, rk, rl, ro, ra, rt, rp, oo, co, sk, kd, fr, fn, fi, vs, ll, li, lt) 18) : wpX_perform K (oc, tc, cp, lc, sc, kc, nI d, nI w, er, ep, nI g, cls, num, lnk, lsz, lit, fb, tk, tv, rk, rl, ro, ra, rt, rp, oo, co, sk, kd, fr, fn, fi, vs, ll, li, lt) (nI i) := by
  have ci : (nI i).toNatClampNeg = i := nI_clamp (by omega)
  refine ⟨vp_in_nI hi (by decide), nm_r (e' := 18) (by rw [ci]; exact ho) (br_f (by decide) (br_f (by decide) (br_f (by decide) (br_f (by decide) (br_f (by decide) (br_f (by decide) (br_f (by decide) (br_f (by decide) (br_f (by decide) (br_f (by decide) (br_f (by decide) (br_f (by decide) (br_f (by decide) (br_f (by decide) (br_f (by decide) (br_f (by decide) (br_f (by decide) (br_f (by decide) (br_f (by decide) (br_f (by decide) (br_t (by decide) (?_))))))))))))))))))))))⟩
  refine ⟨vp_in_nI hi (by decide), ?_⟩
  rw [ci, ho]
  exact h
theorem ex_pf24 {q c m : Nat} (hq : q < 6) (hc : c < 40) (hm : m < 40) (ho : ro (q * 40 + c) = 24) (ea : ra (q * 40 + c) = nI m) (h : wpX_endRound K (oc, tc, cp, lc, sc, kc, nI d, nI w, er, ep, nI g, cls, num, lnk, lsz, lit, fb, tk, tv, rk, rl, ro, ra, rt, rp, oo, co, sk, kd, fr, fn, fi, vs, ll, li, lt) (nI (q * 40 + m))) : wpX_perform K (oc, tc, cp, lc, sc, kc, nI d, nI w, er, ep, nI g, cls, num, lnk, lsz, lit, fb, tk, tv, rk, rl, ro, ra, rt, rp, oo, co, sk, kd, fr, fn, fi, vs, ll, li, lt) (nI (q * 40 + c)) := by
  have ci : (nI (q * 40 + c)).toNatClampNeg = q * 40 + c := nI_clamp (by omega)
  have ix : nI (q * 40 + c) - (nI (q * 40 + c) - nI (q * 40 + c) / 40 * 40) + nI m = nI (q * 40 + m) := by
    rw [show (40 : Int32) = nI 40 from rfl, pk_rem (by omega) (by omega) (by omega), pk_sub (Nat.mod_le _ _), nI_add]
    exact congrArg nI (by omega)
  refine ⟨vp_in_nI (by omega) (by decide), nm_r (e' := 24) (by rw [ci]; exact ho) (br_f (by decide) (br_f (by decide) (br_f (by decide) (br_f (by decide) (br_f (by decide) (br_f (by decide) (br_f (by decide) (br_f (by decide) (br_f (by decide) (br_f (by decide) (br_f (by decide) (br_f (by decide) (br_f (by decide) (br_f (by decide) (br_f (by decide) (br_f (by decide) (br_f (by decide) (br_f (by decide) (br_f (by decide) (br_f (by decide) (br_f (by decide) (br_f (by decide) (br_f (by decide) (br_f (by decide) (br_f (by decide) (br_f (by decide) (br_t (by decide) (?_))))))))))))))))))))))))))))⟩
  rw [ci, ea, ix]
  exact ⟨by decide, vp_in_nI (by omega) (by decide), h⟩
end
