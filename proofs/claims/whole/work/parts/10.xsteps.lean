section
variable {K : Int32 → SX → Prop} {oc tc cp lc sc kc er ep : Int32} {cls num lnk lsz lit fb tk tv rk rl ro ra rt rp oo co sk kd fr fn fi vs ll li lt : Nat → Int32} {d w g : Nat}
theorem ex_push {v : Int32} (hw : w < 200) (h : K 1 (oc, tc, cp, lc, sc, kc, nI d, nI (w + 1), er, ep, nI g, cls, num, lnk, lsz, lit, fb, tk, tv, rk, rl, ro, ra, rt, rp, oo, co, sk, kd, fr, fn, fi, upd vs w v, ll, li, lt)) : wpX_pushValue K (oc, tc, cp, lc, sc, kc, nI d, nI w, er, ep, nI g, cls, num, lnk, lsz, lit, fb, tk, tv, rk, rl, ro, ra, rt, rp, oo, co, sk, kd, fr, fn, fi, vs, ll, li, lt) v := by
  refine ⟨vp_in_nI hw (by decide), nm_r (by rw [nI_clamp (by omega)]) (nm_r (nI_1 w) h)⟩
theorem ex_pop (hw : w < 200) (h : K (vs w) (oc, tc, cp, lc, sc, kc, nI d, nI w, er, ep, nI g, cls, num, lnk, lsz, lit, fb, tk, tv, rk, rl, ro, ra, rt, rp, oo, co, sk, kd, fr, fn, fi, vs, ll, li, lt)) : wpX_popValue K (oc, tc, cp, lc, sc, kc, nI d, nI (w + 1), er, ep, nI g, cls, num, lnk, lsz, lit, fb, tk, tv, rk, rl, ro, ra, rt, rp, oo, co, sk, kd, fr, fn, fi, vs, ll, li, lt) := by
  refine nm_r (nI_pred w) ⟨vp_in_nI hw (by decide), ?_⟩
  rw [nI_clamp (by omega)]
  exact h
theorem ex_enter {K : SX → Prop} {r x : Int32} (hd : d < 5) (h : K (oc, tc, cp, lc, sc, kc, nI (d + 1), nI w, er, ep, nI g, cls, num, lnk, lsz, lit, fb, tk, tv, rk, rl, ro, ra, rt, rp, oo, co, sk, kd, upd fr d r, upd fn d 0, upd fi d x, vs, ll, li, lt)) : wpX_enterRule K (oc, tc, cp, lc, sc, kc, nI d, nI w, er, ep, nI g, cls, num, lnk, lsz, lit, fb, tk, tv, rk, rl, ro, ra, rt, rp, oo, co, sk, kd, fr, fn, fi, vs, ll, li, lt) r x := by
  have c : (nI d).toNatClampNeg = d := nI_clamp (by omega)
  have i : vp_in (nI d) 5 := vp_in_nI hd (by decide)
  exact ⟨i, nm_r (by rw [c]) ⟨i, nm_r (by rw [c]) ⟨i, nm_r (by rw [c]) (nm_r (nI_1 d) h)⟩⟩⟩
theorem ex_rd_nul {p : Int32} (hw : w < 200) (hv : vs w = -1) (h : K 2 (oc, tc, cp, lc, sc, kc, nI d, nI w, er, ep, nI g, cls, num, lnk, lsz, lit, fb, tk, tv, rk, rl, ro, ra, rt, rp, oo, co, sk, kd, fr, fn, fi, vs, ll, li, lt)) : wpX_readProperty K (oc, tc, cp, lc, sc, kc, nI d, nI (w + 1), er, ep, nI g, cls, num, lnk, lsz, lit, fb, tk, tv, rk, rl, ro, ra, rt, rp, oo, co, sk, kd, fr, fn, fi, vs, ll, li, lt) 1 p := by
  unfold wpX_readProperty; refine ex_pop hw ?_
  exact br_t hv (br_t rfl h)
theorem ex_rd_saf {p : Nat} (hw : w < 200) (hp : p < 6) (hv : vs w = -1) (h : K 1 (oc, tc, cp, lc, sc, kc, nI d, nI (w + 1), er, ep, nI g, cls, num, lnk, lsz, lit, fb, tk, tv, rk, rl, ro, ra, rt, rp, oo, co, sk, kd, fr, fn, fi, upd vs w (if p < 3 then 0 else -1), ll, li, lt)) : wpX_readProperty K (oc, tc, cp, lc, sc, kc, nI d, nI (w + 1), er, ep, nI g, cls, num, lnk, lsz, lit, fb, tk, tv, rk, rl, ro, ra, rt, rp, oo, co, sk, kd, fr, fn, fi, vs, ll, li, lt) 2 (nI p) := by
  unfold wpX_readProperty; refine ex_pop hw ?_
  refine br_t hv (br_f (by decide) ?_)
  by_cases h3 : p < 3
  · rw [if_pos h3] at h
    exact br_f (nI_ge (b := 3) h3 (by decide)) (ex_push hw h)
  · rw [if_neg h3] at h
    refine br_t (nI_le (a := 3) (by omega) (by omega)) ?_
    by_cases h4 : nI p = 3
    · exact br_t h4 (ex_push hw h)
    · exact br_f h4 (ex_push hw h)
theorem ex_rd_den {p i c : Nat} {t : Int32} (hw : w < 200) (hp : p < 6) (hi : i < 8) (hv : vs w = nI i) (hc : c < 3) (ec : cls i = nI c) (hf : ¬ fb (c * 6 + p) = 0) (h : K 3 (oc, tc, cp, lc, sc, kc, nI d, nI w, er, ep, nI g, cls, num, lnk, lsz, lit, fb, tk, tv, rk, rl, ro, ra, rt, rp, oo, co, sk, kd, fr, fn, fi, vs, ll, li, lt)) : wpX_readProperty K (oc, tc, cp, lc, sc, kc, nI d, nI (w + 1), er, ep, nI g, cls, num, lnk, lsz, lit, fb, tk, tv, rk, rl, ro, ra, rt, rp, oo, co, sk, kd, fr, fn, fi, vs, ll, li, lt) t (nI p) := by
  unfold wpX_readProperty; refine ex_pop hw ?_
  rw [hv]
  have ci : (nI i).toNatClampNeg = i := nI_clamp (by omega)
  have e : cls (nI i).toNatClampNeg * 6 + nI p = nI (c * 6 + p) := by rw [ci, ec]; exact gr_lin c 6 p rfl rfl
  refine br_f (gr_m1 (by omega)) ⟨vp_in_nI hi (by decide), by rw [e]; exact vp_in_nI (by omega) (by decide), br_f ?_ h⟩
  rw [e, nI_clamp (by omega)]; exact hf
theorem ex_rd_ok {p i c : Nat} {t : Int32} (hw : w < 200) (hp : p < 6) (hi : i < 8) (hv : vs w = nI i) (hc : c < 3) (ec : cls i = nI c) (hf : fb (c * 6 + p) = 0) (h : K 1 (oc, tc, cp, lc, sc, kc, nI d, nI (w + 1), er, ep, nI g, cls, num, lnk, lsz, lit, fb, tk, tv, rk, rl, ro, ra, rt, rp, oo, co, sk, kd, fr, fn, fi, upd vs w (if p < 3 then num (i * 3 + p) else if p = 3 then lnk i else nI (i * 2 + p - 4)), ll, li, lt)) : wpX_readProperty K (oc, tc, cp, lc, sc, kc, nI d, nI (w + 1), er, ep, nI g, cls, num, lnk, lsz, lit, fb, tk, tv, rk, rl, ro, ra, rt, rp, oo, co, sk, kd, fr, fn, fi, vs, ll, li, lt) t (nI p) := by
  unfold wpX_readProperty; refine ex_pop hw ?_
  rw [hv]
  have ci : (nI i).toNatClampNeg = i := nI_clamp (by omega)
  have e : cls (nI i).toNatClampNeg * 6 + nI p = nI (c * 6 + p) := by rw [ci, ec]; exact gr_lin c 6 p rfl rfl
  refine br_f (gr_m1 (by omega)) ⟨vp_in_nI hi (by decide), by rw [e]; exact vp_in_nI (by omega) (by decide), br_t (by rw [e, nI_clamp (by omega)]; exact hf) ?_⟩
  by_cases h3 : p < 3
  · rw [if_pos h3] at h
    have e3 : nI i * 3 + nI p = nI (i * 3 + p) := gr_lin i 3 p rfl rfl
    refine br_f (nI_ge (b := 3) h3 (by decide)) ⟨by rw [e3]; exact vp_in_nI (by omega) (by decide), ?_⟩
    rw [e3, nI_clamp (by omega)]
    exact ex_push hw h
  · rw [if_neg h3] at h
    refine br_t (nI_le (a := 3) (by omega) (by omega)) ?_
    by_cases h4 : p = 3
    · rw [if_pos h4] at h
      refine br_t (by rw [h4]; rfl) ⟨vp_in_nI hi (by decide), ?_⟩
      rw [ci]
      exact ex_push hw h
    · rw [if_neg h4] at h
      refine br_f (fun z => h4 ((nI_eq (b := 3) (by omega) (by decide)).1 z)) ?_
      show wX_readProperty_102 K (nI i * 2 + nI p - 4) oc tc cp lc sc kc (nI d) (nI w) er ep (nI g) cls num lnk lsz lit fb tk tv rk rl ro ra rt rp oo co sk kd fr fn fi vs ll li lt
      rw [gr_list i p (by omega)]
      exact ex_push hw h
theorem ex_cl_nul {r : Int32} (hw : w < 200) (hv : vs w = -1) (h : K 2 (oc, tc, cp, lc, sc, kc, nI d, nI w, er, ep, nI g, cls, num, lnk, lsz, lit, fb, tk, tv, rk, rl, ro, ra, rt, rp, oo, co, sk, kd, fr, fn, fi, vs, ll, li, lt)) : wpX_callRule K (oc, tc, cp, lc, sc, kc, nI d, nI (w + 1), er, ep, nI g, cls, num, lnk, lsz, lit, fb, tk, tv, rk, rl, ro, ra, rt, rp, oo, co, sk, kd, fr, fn, fi, vs, ll, li, lt) r := by
  unfold wpX_callRule; refine ex_pop hw ?_
  exact (br_t hv h)
theorem ex_cl_deep {r : Int32} {i : Nat} (hw : w < 200) (hi : i < 8) (hv : vs w = nI i) (hd : d = 5) (h : K 5 (oc, tc, cp, lc, sc, kc, nI d, nI w, er, ep, nI g, cls, num, lnk, lsz, lit, fb, tk, tv, rk, rl, ro, ra, rt, rp, oo, co, sk, kd, fr, fn, fi, vs, ll, li, lt)) : wpX_callRule K (oc, tc, cp, lc, sc, kc, nI d, nI (w + 1), er, ep, nI g, cls, num, lnk, lsz, lit, fb, tk, tv, rk, rl, ro, ra, rt, rp, oo, co, sk, kd, fr, fn, fi, vs, ll, li, lt) r := by
  unfold wpX_callRule; refine ex_pop hw ?_
  exact (br_f (by rw [hv]; exact gr_m1 (by omega)) (br_f (by rw [hd]; decide) h))
theorem ex_cl_stop {r : Int32} {i : Nat} (hw : w < 200) (hi : i < 8) (hv : vs w = nI i) (hd : d < 5) (hg : g = 40) (h : K 6 (oc, tc, cp, lc, sc, kc, nI d, nI w, er, ep, nI g, cls, num, lnk, lsz, lit, fb, tk, tv, rk, rl, ro, ra, rt, rp, oo, co, sk, kd, fr, fn, fi, vs, ll, li, lt)) : wpX_callRule K (oc, tc, cp, lc, sc, kc, nI d, nI (w + 1), er, ep, nI g, cls, num, lnk, lsz, lit, fb, tk, tv, rk, rl, ro, ra, rt, rp, oo, co, sk, kd, fr, fn, fi, vs, ll, li, lt) r := by
  unfold wpX_callRule; refine ex_pop hw ?_
  exact (br_f (by rw [hv]; exact gr_m1 (by omega)) (br_t (nI_lt (b := 5) hd (by decide)) (br_f (by rw [hg]; decide) h)))
theorem ex_cl_ok {r : Int32} {i : Nat} (hw : w < 200) (hi : i < 8) (hv : vs w = nI i) (hd : d < 5) (hg : g < 40) (h : K 1 (oc, tc, cp, lc, sc, kc, nI (d + 1), nI w, er, ep, nI (g + 1), cls, num, lnk, lsz, lit, fb, tk, tv, rk, rl, ro, ra, rt, rp, oo, co, sk, kd, upd fr d r, upd fn d 0, upd fi d (nI i), vs, ll, li, lt)) : wpX_callRule K (oc, tc, cp, lc, sc, kc, nI d, nI (w + 1), er, ep, nI g, cls, num, lnk, lsz, lit, fb, tk, tv, rk, rl, ro, ra, rt, rp, oo, co, sk, kd, fr, fn, fi, vs, ll, li, lt) r := by
  unfold wpX_callRule; refine ex_pop hw ?_
  refine (br_f (by rw [hv]; exact gr_m1 (by omega)) (br_t (nI_lt (b := 5) hd (by decide)) (br_t (nI_lt (b := 40) hg (by decide)) (nm_r (nI_1 g) ?_))))
  rw [hv]
  exact ex_enter hd h
theorem ex_jump {i : Nat} {z : Int32} (hi : i < 280) (hd : 1 ≤ d) (hd5 : d ≤ 5) (hz : ¬ z = 0) (h : K 1 (oc, tc, cp, lc, sc, kc, nI d, nI w, er, ep, nI g, cls, num, lnk, lsz, lit, fb, tk, tv, rk, rl, ro, ra, rt, rp, oo, co, sk, kd, fr, upd fn (d - 1) (rt i), fi, vs, ll, li, lt)) : wX_branch_102 K (nI i) z oc tc cp lc sc kc (nI d) (nI w) er ep (nI g) cls num lnk lsz lit fb tk tv rk rl ro ra rt rp oo co sk kd fr fn fi vs ll li lt := by
  obtain ⟨e, rfl⟩ : ∃ e, d = e + 1 := ⟨d - 1, by omega⟩
  refine br_f hz ⟨vp_in_nI hi (by decide), ?_, ?_⟩
  · rw [nI_pred]; exact vp_in_nI (by omega) (by decide)
  · refine nm_r ?_ h
    rw [nI_pred, nI_clamp (by omega), nI_clamp (by omega)]; rfl
theorem ex_br9 {i : Nat} (hi : i < 280) (ho : ro i = 9) (hd : 1 ≤ d) (hd5 : d ≤ 5) (h : K 1 (oc, tc, cp, lc, sc, kc, nI d, nI w, er, ep, nI g, cls, num, lnk, lsz, lit, fb, tk, tv, rk, rl, ro, ra, rt, rp, oo, co, sk, kd, fr, upd fn (d - 1) (rt i), fi, vs, ll, li, lt)) : wpX_branch K (oc, tc, cp, lc, sc, kc, nI d, nI w, er, ep, nI g, cls, num, lnk, lsz, lit, fb, tk, tv, rk, rl, ro, ra, rt, rp, oo, co, sk, kd, fr, fn, fi, vs, ll, li, lt) (nI i) :=
  ⟨vp_in_nI hi (by decide), nm_r (e' := 9) (by rw [nI_clamp (by omega)]; exact ho) (br_t rfl (br_t rfl (br_f (by decide) (br_t rfl (br_t rfl (ex_jump hi hd hd5 (by decide) h))))))⟩

theorem ex_ask0 {i : Nat} (hi : i < 280) (ho : ro i = 8) (hd : 1 ≤ d) (hd5 : d ≤ 5) (hw : w < 200) (hv : vs w = 0) (h : K 1 (oc, tc, cp, lc, sc, kc, nI d, nI w, er, ep, nI g, cls, num, lnk, lsz, lit, fb, tk, tv, rk, rl, ro, ra, rt, rp, oo, co, sk, kd, fr, upd fn (d - 1) (rt i), fi, vs, ll, li, lt)) : wpX_branch K (oc, tc, cp, lc, sc, kc, nI d, nI (w + 1), er, ep, nI g, cls, num, lnk, lsz, lit, fb, tk, tv, rk, rl, ro, ra, rt, rp, oo, co, sk, kd, fr, fn, fi, vs, ll, li, lt) (nI i) := by
  have c : vs (nI (w + 1) - 1).toNatClampNeg = vs w := by rw [nI_pred, nI_clamp (by omega)]
  exact ⟨vp_in_nI hi (by decide), nm_r (e' := 8) (by rw [nI_clamp (by omega)]; exact ho) (br_f (by decide) ⟨by rw [nI_pred]; exact vp_in_nI hw (by decide), br_t (by rw [c]; exact hv) (br_f (by decide) (br_f (by decide) (br_t rfl (br_t rfl (br_f (by decide) (nm_r (nI_pred w) (ex_jump hi hd hd5 (by decide) h)))))))⟩)⟩
theorem ex_ask1 {i : Nat} (hi : i < 280) (ho : ro i = 8) (hd : 1 ≤ d) (hd5 : d ≤ 5) (hw : w < 200) (hv : ¬ vs w = 0) (h : K 1 (oc, tc, cp, lc, sc, kc, nI d, nI w, er, ep, nI g, cls, num, lnk, lsz, lit, fb, tk, tv, rk, rl, ro, ra, rt, rp, oo, co, sk, kd, fr, fn, fi, vs, ll, li, lt)) : wpX_branch K (oc, tc, cp, lc, sc, kc, nI d, nI (w + 1), er, ep, nI g, cls, num, lnk, lsz, lit, fb, tk, tv, rk, rl, ro, ra, rt, rp, oo, co, sk, kd, fr, fn, fi, vs, ll, li, lt) (nI i) := by
  have c : vs (nI (w + 1) - 1).toNatClampNeg = vs w := by rw [nI_pred, nI_clamp (by omega)]
  exact ⟨vp_in_nI hi (by decide), nm_r (e' := 8) (by rw [nI_clamp (by omega)]; exact ho) (br_f (by decide) ⟨by rw [nI_pred]; exact vp_in_nI hw (by decide), br_f (by rw [c]; exact hv) (br_f (by decide) (br_f (by decide) (br_f (by decide) (br_t rfl (br_f (by decide) (nm_r (nI_pred w) (br_t rfl h)))))))⟩)⟩
theorem ex_or0 {i : Nat} (hi : i < 280) (ho : ro i = 10) (hd : 1 ≤ d) (hd5 : d ≤ 5) (hw : w < 200) (hv : vs w = 0) (h : K 1 (oc, tc, cp, lc, sc, kc, nI d, nI w, er, ep, nI g, cls, num, lnk, lsz, lit, fb, tk, tv, rk, rl, ro, ra, rt, rp, oo, co, sk, kd, fr, fn, fi, vs, ll, li, lt)) : wpX_branch K (oc, tc, cp, lc, sc, kc, nI d, nI (w + 1), er, ep, nI g, cls, num, lnk, lsz, lit, fb, tk, tv, rk, rl, ro, ra, rt, rp, oo, co, sk, kd, fr, fn, fi, vs, ll, li, lt) (nI i) := by
  have c : vs (nI (w + 1) - 1).toNatClampNeg = vs w := by rw [nI_pred, nI_clamp (by omega)]
  exact ⟨vp_in_nI hi (by decide), nm_r (e' := 10) (by rw [nI_clamp (by omega)]; exact ho) (br_f (by decide) ⟨by rw [nI_pred]; exact vp_in_nI hw (by decide), br_t (by rw [c]; exact hv) (br_f (by decide) (br_t rfl (br_t rfl (br_f (by decide) (br_f (by decide) (br_t rfl (br_f (by decide) (nm_r (nI_pred w) (br_t rfl h)))))))))⟩)⟩
theorem ex_or1 {i : Nat} (hi : i < 280) (ho : ro i = 10) (hd : 1 ≤ d) (hd5 : d ≤ 5) (hw : w < 200) (hv : ¬ vs w = 0) (h : K 1 (oc, tc, cp, lc, sc, kc, nI d, nI (w + 1), er, ep, nI g, cls, num, lnk, lsz, lit, fb, tk, tv, rk, rl, ro, ra, rt, rp, oo, co, sk, kd, fr, upd fn (d - 1) (rt i), fi, vs, ll, li, lt)) : wpX_branch K (oc, tc, cp, lc, sc, kc, nI d, nI (w + 1), er, ep, nI g, cls, num, lnk, lsz, lit, fb, tk, tv, rk, rl, ro, ra, rt, rp, oo, co, sk, kd, fr, fn, fi, vs, ll, li, lt) (nI i) := by
  have c : vs (nI (w + 1) - 1).toNatClampNeg = vs w := by rw [nI_pred, nI_clamp (by omega)]
  exact ⟨vp_in_nI hi (by decide), nm_r (e' := 10) (by rw [nI_clamp (by omega)]; exact ho) (br_f (by decide) ⟨by rw [nI_pred]; exact vp_in_nI hw (by decide), br_f (by rw [c]; exact hv) (br_f (by decide) (br_t rfl (br_f (by decide) (br_f (by decide) (br_f (by decide) (br_f (by decide) (br_t rfl (ex_jump hi hd hd5 (by decide) h))))))))⟩)⟩
theorem ex_and0 {i : Nat} (hi : i < 280) (ho : ro i = 11) (hd : 1 ≤ d) (hd5 : d ≤ 5) (hw : w < 200) (hv : vs w = 0) (h : K 1 (oc, tc, cp, lc, sc, kc, nI d, nI (w + 1), er, ep, nI g, cls, num, lnk, lsz, lit, fb, tk, tv, rk, rl, ro, ra, rt, rp, oo, co, sk, kd, fr, upd fn (d - 1) (rt i), fi, vs, ll, li, lt)) : wpX_branch K (oc, tc, cp, lc, sc, kc, nI d, nI (w + 1), er, ep, nI g, cls, num, lnk, lsz, lit, fb, tk, tv, rk, rl, ro, ra, rt, rp, oo, co, sk, kd, fr, fn, fi, vs, ll, li, lt) (nI i) := by
  have c : vs (nI (w + 1) - 1).toNatClampNeg = vs w := by rw [nI_pred, nI_clamp (by omega)]
  exact ⟨vp_in_nI hi (by decide), nm_r (e' := 11) (by rw [nI_clamp (by omega)]; exact ho) (br_f (by decide) ⟨by rw [nI_pred]; exact vp_in_nI hw (by decide), br_t (by rw [c]; exact hv) (br_f (by decide) (br_f (by decide) (br_t rfl (br_f (by decide) (br_f (by decide) (br_f (by decide) (br_t rfl (ex_jump hi hd hd5 (by decide) h))))))))⟩)⟩
theorem ex_and1 {i : Nat} (hi : i < 280) (ho : ro i = 11) (hd : 1 ≤ d) (hd5 : d ≤ 5) (hw : w < 200) (hv : ¬ vs w = 0) (h : K 1 (oc, tc, cp, lc, sc, kc, nI d, nI w, er, ep, nI g, cls, num, lnk, lsz, lit, fb, tk, tv, rk, rl, ro, ra, rt, rp, oo, co, sk, kd, fr, fn, fi, vs, ll, li, lt)) : wpX_branch K (oc, tc, cp, lc, sc, kc, nI d, nI (w + 1), er, ep, nI g, cls, num, lnk, lsz, lit, fb, tk, tv, rk, rl, ro, ra, rt, rp, oo, co, sk, kd, fr, fn, fi, vs, ll, li, lt) (nI i) := by
  have c : vs (nI (w + 1) - 1).toNatClampNeg = vs w := by rw [nI_pred, nI_clamp (by omega)]
  exact ⟨vp_in_nI hi (by decide), nm_r (e' := 11) (by rw [nI_clamp (by omega)]; exact ho) (br_f (by decide) ⟨by rw [nI_pred]; exact vp_in_nI hw (by decide), br_f (by rw [c]; exact hv) (br_f (by decide) (br_f (by decide) (br_f (by decide) (br_f (by decide) (br_f (by decide) (br_t rfl (br_f (by decide) (nm_r (nI_pred w) (br_t rfl h)))))))))⟩)⟩
end
