def ex_R (post : Int32 → SX → Prop) (oc tc cp lc sc kc er ep : Int32) (cls num lnk lsz lit fb tk tv rk rl ro ra rt rp oo co sk kd : Nat → Int32) (s d w g : Nat) (fr fn fi vs ll li lt : Nat → Int32) : Prop := ∃ n, wX_run_2 post n (nI s) oc tc cp lc sc kc (nI d) (nI w) er ep (nI g) cls num lnk lsz lit fb tk tv rk rl ro ra rt rp oo co sk kd fr fn fi vs ll li lt
/-- the run stands before instruction c of rule q, in frame l -/
def ex_at (rl fr fn : Nat → Int32) (s l q c len : Nat) : Prop := s < 1000000 ∧ l < 5 ∧ q < 6 ∧ fr l = nI q ∧ fn l = nI c ∧ rl q = nI len ∧ c < len ∧ len ≤ 40
section
variable {post : Int32 → SX → Prop} {oc tc cp lc sc kc er ep : Int32} {cls num lnk lsz lit fb tk tv rk rl ro ra rt rp oo co sk kd fr fn fi vs ll li lt : Nat → Int32} {s l w g q c len : Nat}
theorem ex_go {d' w' g' : Nat} {fr' fn' fi' vs' ll' li' lt' : Nat → Int32} (ha : ex_at rl fr fn s l q c len) (H : ∀ K : Int32 → SX → Prop, K 1 (oc, tc, cp, lc, sc, kc, nI d', nI w', er, ep, nI g', cls, num, lnk, lsz, lit, fb, tk, tv, rk, rl, ro, ra, rt, rp, oo, co, sk, kd, fr', fn', fi', vs', ll', li', lt') → wpX_perform K (oc, tc, cp, lc, sc, kc, nI (l + 1), nI w, er, ep, nI g, cls, num, lnk, lsz, lit, fb, tk, tv, rk, rl, ro, ra, rt, rp, oo, co, sk, kd, fr, upd fn l (nI (c + 1)), fi, vs, ll, li, lt) (nI (q * 40 + c))) (h : ex_R post oc tc cp lc sc kc er ep cls num lnk lsz lit fb tk tv rk rl ro ra rt rp oo co sk kd (s + 1) d' w' g' fr' fn' fi' vs' ll' li' lt') : ex_R post oc tc cp lc sc kc er ep cls num lnk lsz lit fb tk tv rk rl ro ra rt rp oo co sk kd s (l + 1) w g fr fn fi vs ll li lt := by
  obtain ⟨hs, hd5, hq, h1, h2, hl, hc, h40⟩ := ha
  obtain ⟨n, hn⟩ := h
  have ce : (nI l).toNatClampNeg = l := nI_clamp (by omega)
  have ie : vp_in (nI l) 5 := vp_in_nI (by omega) (by decide)
  refine ⟨n + 1, br_f (nI_ge (b := 1000000) hs (by decide)) (nm_r (nI_pred l) ⟨ie, nm_r (e' := nI q) (by rw [ce]; exact h1) ⟨ie, nm_r (e' := nI c) (by rw [ce]; exact h2) ⟨vp_in_nI (by omega) (by decide), br_f (by rw [nI_clamp (by omega), hl]; exact nI_ge hc (by omega)) ⟨ie, nm_r (e' := upd fn l (nI (c + 1))) (by rw [ce, nI_1]) ?_⟩⟩⟩⟩)⟩
  rw [show nI q * 40 + nI c = nI (q * 40 + c) from gr_lin q 40 c rfl rfl]
  refine H _ ?_
  exact br_t rfl (nm_r (nI_1 s) hn)
theorem ex_er {d' w' g' x : Nat} {fr' fn' fi' vs' ll' li' lt' : Nat → Int32} (ha : ex_at rl fr fn s l q c len) (hx : ¬ nI x = 1) (H : ∀ K : Int32 → SX → Prop, K (nI x) (oc, tc, cp, lc, sc, kc, nI d', nI w', er, ep, nI g', cls, num, lnk, lsz, lit, fb, tk, tv, rk, rl, ro, ra, rt, rp, oo, co, sk, kd, fr', fn', fi', vs', ll', li', lt') → wpX_perform K (oc, tc, cp, lc, sc, kc, nI (l + 1), nI w, er, ep, nI g, cls, num, lnk, lsz, lit, fb, tk, tv, rk, rl, ro, ra, rt, rp, oo, co, sk, kd, fr, upd fn l (nI (c + 1)), fi, vs, ll, li, lt) (nI (q * 40 + c))) (h : post (nI x) (oc, tc, cp, lc, sc, kc, nI d', nI w', er, ep, nI g', cls, num, lnk, lsz, lit, fb, tk, tv, rk, rl, ro, ra, rt, rp, oo, co, sk, kd, fr', fn', fi', vs', ll', li', lt')) : ex_R post oc tc cp lc sc kc er ep cls num lnk lsz lit fb tk tv rk rl ro ra rt rp oo co sk kd s (l + 1) w g fr fn fi vs ll li lt := by
  obtain ⟨hs, hd5, hq, h1, h2, hl, hc, h40⟩ := ha
  have ce : (nI l).toNatClampNeg = l := nI_clamp (by omega)
  have ie : vp_in (nI l) 5 := vp_in_nI (by omega) (by decide)
  refine ⟨1, br_f (nI_ge (b := 1000000) hs (by decide)) (nm_r (nI_pred l) ⟨ie, nm_r (e' := nI q) (by rw [ce]; exact h1) ⟨ie, nm_r (e' := nI c) (by rw [ce]; exact h2) ⟨vp_in_nI (by omega) (by decide), br_f (by rw [nI_clamp (by omega), hl]; exact nI_ge hc (by omega)) ⟨ie, nm_r (e' := upd fn l (nI (c + 1))) (by rw [ce, nI_1]) ?_⟩⟩⟩⟩)⟩
  rw [show nI q * 40 + nI c = nI (q * 40 + c) from gr_lin q 40 c rfl rfl]
  refine H _ ?_
  exact br_f hx h
theorem xr_ret {d : Nat} (hs : s < 1000000) (hd : 1 ≤ d) (hd5 : d + 1 ≤ 5) (hq : q < 6) (h1 : fr d = nI q) (hl : rl q = nI len) (h40 : len ≤ 40) (h2 : fn d = nI len) (h : ex_R post oc tc cp lc sc kc er ep cls num lnk lsz lit fb tk tv rk rl ro ra rt rp oo co sk kd (s + 1) d w g fr fn fi vs ll li lt) : ex_R post oc tc cp lc sc kc er ep cls num lnk lsz lit fb tk tv rk rl ro ra rt rp oo co sk kd s (d + 1) w g fr fn fi vs ll li lt := by
  obtain ⟨n, hn⟩ := h
  have ce : (nI d).toNatClampNeg = d := nI_clamp (by omega)
  have ie : vp_in (nI d) 5 := vp_in_nI (by omega) (by decide)
  exact ⟨n + 1, br_f (nI_ge (b := 1000000) hs (by decide)) (nm_r (nI_pred d) ⟨ie, nm_r (e' := nI q) (by rw [ce]; exact h1) ⟨ie, nm_r (e' := nI len) (by rw [ce]; exact h2) ⟨vp_in_nI (by omega) (by decide), br_t (by rw [nI_clamp (by omega), hl]; exact nI_le (Nat.le_refl _) (by omega)) (br_f (nI_ne0 hd (by omega)) (nm_r (nI_1 s) hn))⟩⟩⟩)⟩
theorem xr_end (hs : s < 1000000) (hq : q < 6) (h1 : fr 0 = nI q) (hl : rl q = nI len) (h40 : len ≤ 40) (h2 : fn 0 = nI len) (h : post 1 (oc, tc, cp, lc, sc, kc, nI 1, nI w, er, ep, nI g, cls, num, lnk, lsz, lit, fb, tk, tv, rk, rl, ro, ra, rt, rp, oo, co, sk, kd, fr, fn, fi, vs, ll, li, lt)) : ex_R post oc tc cp lc sc kc er ep cls num lnk lsz lit fb tk tv rk rl ro ra rt rp oo co sk kd s 1 w g fr fn fi vs ll li lt := by
  exact ⟨1, br_f (nI_ge (b := 1000000) hs (by decide)) (nm_r (nI_pred 0) ⟨vp_in_nI (by decide) (by decide), nm_r (e' := nI q) h1 ⟨vp_in_nI (by decide) (by decide), nm_r (e' := nI len) h2 ⟨vp_in_nI (by omega) (by decide), br_t (by rw [nI_clamp (by omega), hl]; exact nI_le (Nat.le_refl _) (by omega)) (br_t rfl h)⟩⟩⟩)⟩
theorem xr_num (ha : ex_at rl fr fn s l q c len) (ho : ro (q * 40 + c) = 0) (hw : w < 200) (h : ex_R post oc tc cp lc sc kc er ep cls num lnk lsz lit fb tk tv rk rl ro ra rt rp oo co sk kd (s + 1) (l + 1) (w + 1) g fr (upd fn l (nI (c + 1))) fi (upd vs w (ra (q * 40 + c))) ll li lt) : ex_R post oc tc cp lc sc kc er ep cls num lnk lsz lit fb tk tv rk rl ro ra rt rp oo co sk kd s (l + 1) w g fr fn fi vs ll li lt := by
  obtain ⟨hs, hd4, hq, h1, h2, hlq, hc, h40⟩ := id ha
  have hd : 1 ≤ l + 1 := by omega
  have hd5 : l + 1 ≤ 5 := by omega
  have hi : q * 40 + c < 280 := by omega
  exact ex_go ha (fun K k => ex_pf0 hi ho hw k) h
theorem xr_it (ha : ex_at rl fr fn s l q c len) (ho : ro (q * 40 + c) = 3) (hw : w < 200) (h : ex_R post oc tc cp lc sc kc er ep cls num lnk lsz lit fb tk tv rk rl ro ra rt rp oo co sk kd (s + 1) (l + 1) (w + 1) g fr (upd fn l (nI (c + 1))) fi (upd vs w (fi l)) ll li lt) : ex_R post oc tc cp lc sc kc er ep cls num lnk lsz lit fb tk tv rk rl ro ra rt rp oo co sk kd s (l + 1) w g fr fn fi vs ll li lt := by
  obtain ⟨hs, hd4, hq, h1, h2, hlq, hc, h40⟩ := id ha
  have hd : 1 ≤ l + 1 := by omega
  have hd5 : l + 1 ≤ 5 := by omega
  have hi : q * 40 + c < 280 := by omega
  exact ex_go ha (fun K k => ex_pf3 hi ho hd hd5 hw k) h
theorem xr_nil (ha : ex_at rl fr fn s l q c len) (ho : ro (q * 40 + c) = 19) (hw : w < 200) (h : ex_R post oc tc cp lc sc kc er ep cls num lnk lsz lit fb tk tv rk rl ro ra rt rp oo co sk kd (s + 1) (l + 1) (w + 1) g fr (upd fn l (nI (c + 1))) fi (upd vs w (-1)) ll li lt) : ex_R post oc tc cp lc sc kc er ep cls num lnk lsz lit fb tk tv rk rl ro ra rt rp oo co sk kd s (l + 1) w g fr fn fi vs ll li lt := by
  obtain ⟨hs, hd4, hq, h1, h2, hlq, hc, h40⟩ := id ha
  have hd : 1 ≤ l + 1 := by omega
  have hd5 : l + 1 ≤ 5 := by omega
  have hi : q * 40 + c < 280 := by omega
  exact ex_go ha (fun K k => ex_pf19 hi ho hw k) h
theorem xr_var (ha : ex_at rl fr fn s l q c len) (ho : ro (q * 40 + c) = 4) {v a j : Nat} (hw : w < 200) (hv : v < 3) (ea : ra (q * 40 + c) = nI v) (el : ll (l * 3 + v) = nI a) (ej : li (l * 3 + v) = nI j) (hlj : a * 4 + j < 64) (h : ex_R post oc tc cp lc sc kc er ep cls num lnk lsz lit fb tk tv rk rl ro ra rt rp oo co sk kd (s + 1) (l + 1) (w + 1) g fr (upd fn l (nI (c + 1))) fi (upd vs w (lit (a * 4 + j))) ll li lt) : ex_R post oc tc cp lc sc kc er ep cls num lnk lsz lit fb tk tv rk rl ro ra rt rp oo co sk kd s (l + 1) w g fr fn fi vs ll li lt := by
  obtain ⟨hs, hd4, hq, h1, h2, hlq, hc, h40⟩ := id ha
  have hd : 1 ≤ l + 1 := by omega
  have hd5 : l + 1 ≤ 5 := by omega
  have hi : q * 40 + c < 280 := by omega
  exact ex_go ha (fun K k => ex_pf4 hi ho hd hd5 hw hv ea el ej hlj k) h
theorem xr_rd_nul (ha : ex_at rl fr fn s l q c len) (ho : ro (q * 40 + c) = 1) (hw : w < 200) (hv : vs w = -1) (h : post 2 (oc, tc, cp, lc, sc, kc, nI (l + 1), nI w, er, ep, nI g, cls, num, lnk, lsz, lit, fb, tk, tv, rk, rl, ro, ra, rt, rp, oo, co, sk, kd, fr, upd fn l (nI (c + 1)), fi, vs, ll, li, lt)) : ex_R post oc tc cp lc sc kc er ep cls num lnk lsz lit fb tk tv rk rl ro ra rt rp oo co sk kd s (l + 1) (w + 1) g fr fn fi vs ll li lt := by
  obtain ⟨hs, hd4, hq, h1, h2, hlq, hc, h40⟩ := id ha
  have hd : 1 ≤ l + 1 := by omega
  have hd5 : l + 1 ≤ 5 := by omega
  have hi : q * 40 + c < 280 := by omega
  exact ex_er (x := 2) ha (by decide) (fun K k => ex_pf1 hi ho (ex_rd_nul hw hv k)) h
theorem xr_rd_saf (ha : ex_at rl fr fn s l q c len) (ho : ro (q * 40 + c) = 2) {p : Nat} (hw : w < 200) (hp : p < 6) (ea : ra (q * 40 + c) = nI p) (hv : vs w = -1) (h : ex_R post oc tc cp lc sc kc er ep cls num lnk lsz lit fb tk tv rk rl ro ra rt rp oo co sk kd (s + 1) (l + 1) (w + 1) g fr (upd fn l (nI (c + 1))) fi (upd vs w (if p < 3 then 0 else -1)) ll li lt) : ex_R post oc tc cp lc sc kc er ep cls num lnk lsz lit fb tk tv rk rl ro ra rt rp oo co sk kd s (l + 1) (w + 1) g fr fn fi vs ll li lt := by
  obtain ⟨hs, hd4, hq, h1, h2, hlq, hc, h40⟩ := id ha
  have hd : 1 ≤ l + 1 := by omega
  have hd5 : l + 1 ≤ 5 := by omega
  have hi : q * 40 + c < 280 := by omega
  exact ex_go ha (fun K k => ex_pf2 hi ho (by rw [ea]; exact ex_rd_saf hw hp hv k)) h
theorem xr_rd_den1 (ha : ex_at rl fr fn s l q c len) (ho : ro (q * 40 + c) = 1) {p i cc : Nat} (hw : w < 200) (hp : p < 6) (ea : ra (q * 40 + c) = nI p) (hi8 : i < 8) (hv : vs w = nI i) (hcc : cc < 3) (ec : cls i = nI cc) (hf : ¬ fb (cc * 6 + p) = 0) (h : post 3 (oc, tc, cp, lc, sc, kc, nI (l + 1), nI w, er, ep, nI g, cls, num, lnk, lsz, lit, fb, tk, tv, rk, rl, ro, ra, rt, rp, oo, co, sk, kd, fr, upd fn l (nI (c + 1)), fi, vs, ll, li, lt)) : ex_R post oc tc cp lc sc kc er ep cls num lnk lsz lit fb tk tv rk rl ro ra rt rp oo co sk kd s (l + 1) (w + 1) g fr fn fi vs ll li lt := by
  obtain ⟨hs, hd4, hq, h1, h2, hlq, hc, h40⟩ := id ha
  have hd : 1 ≤ l + 1 := by omega
  have hd5 : l + 1 ≤ 5 := by omega
  have hi : q * 40 + c < 280 := by omega
  exact ex_er (x := 3) ha (by decide) (fun K k => ex_pf1 hi ho (by rw [ea]; exact ex_rd_den hw hp hi8 hv hcc ec hf k)) h
theorem xr_rd_ok1 (ha : ex_at rl fr fn s l q c len) (ho : ro (q * 40 + c) = 1) {p i cc : Nat} (hw : w < 200) (hp : p < 6) (ea : ra (q * 40 + c) = nI p) (hi8 : i < 8) (hv : vs w = nI i) (hcc : cc < 3) (ec : cls i = nI cc) (hf : fb (cc * 6 + p) = 0) (h : ex_R post oc tc cp lc sc kc er ep cls num lnk lsz lit fb tk tv rk rl ro ra rt rp oo co sk kd (s + 1) (l + 1) (w + 1) g fr (upd fn l (nI (c + 1))) fi (upd vs w (if p < 3 then num (i * 3 + p) else if p = 3 then lnk i else nI (i * 2 + p - 4))) ll li lt) : ex_R post oc tc cp lc sc kc er ep cls num lnk lsz lit fb tk tv rk rl ro ra rt rp oo co sk kd s (l + 1) (w + 1) g fr fn fi vs ll li lt := by
  obtain ⟨hs, hd4, hq, h1, h2, hlq, hc, h40⟩ := id ha
  have hd : 1 ≤ l + 1 := by omega
  have hd5 : l + 1 ≤ 5 := by omega
  have hi : q * 40 + c < 280 := by omega
  exact ex_go ha (fun K k => ex_pf1 hi ho (by rw [ea]; exact ex_rd_ok hw hp hi8 hv hcc ec hf k)) h
theorem xr_rd_den2 (ha : ex_at rl fr fn s l q c len) (ho : ro (q * 40 + c) = 2) {p i cc : Nat} (hw : w < 200) (hp : p < 6) (ea : ra (q * 40 + c) = nI p) (hi8 : i < 8) (hv : vs w = nI i) (hcc : cc < 3) (ec : cls i = nI cc) (hf : ¬ fb (cc * 6 + p) = 0) (h : post 3 (oc, tc, cp, lc, sc, kc, nI (l + 1), nI w, er, ep, nI g, cls, num, lnk, lsz, lit, fb, tk, tv, rk, rl, ro, ra, rt, rp, oo, co, sk, kd, fr, upd fn l (nI (c + 1)), fi, vs, ll, li, lt)) : ex_R post oc tc cp lc sc kc er ep cls num lnk lsz lit fb tk tv rk rl ro ra rt rp oo co sk kd s (l + 1) (w + 1) g fr fn fi vs ll li lt := by
  obtain ⟨hs, hd4, hq, h1, h2, hlq, hc, h40⟩ := id ha
  have hd : 1 ≤ l + 1 := by omega
  have hd5 : l + 1 ≤ 5 := by omega
  have hi : q * 40 + c < 280 := by omega
  exact ex_er (x := 3) ha (by decide) (fun K k => ex_pf2 hi ho (by rw [ea]; exact ex_rd_den hw hp hi8 hv hcc ec hf k)) h
theorem xr_rd_ok2 (ha : ex_at rl fr fn s l q c len) (ho : ro (q * 40 + c) = 2) {p i cc : Nat} (hw : w < 200) (hp : p < 6) (ea : ra (q * 40 + c) = nI p) (hi8 : i < 8) (hv : vs w = nI i) (hcc : cc < 3) (ec : cls i = nI cc) (hf : fb (cc * 6 + p) = 0) (h : ex_R post oc tc cp lc sc kc er ep cls num lnk lsz lit fb tk tv rk rl ro ra rt rp oo co sk kd (s + 1) (l + 1) (w + 1) g fr (upd fn l (nI (c + 1))) fi (upd vs w (if p < 3 then num (i * 3 + p) else if p = 3 then lnk i else nI (i * 2 + p - 4))) ll li lt) : ex_R post oc tc cp lc sc kc er ep cls num lnk lsz lit fb tk tv rk rl ro ra rt rp oo co sk kd s (l + 1) (w + 1) g fr fn fi vs ll li lt := by
  obtain ⟨hs, hd4, hq, h1, h2, hlq, hc, h40⟩ := id ha
  have hd : 1 ≤ l + 1 := by omega
  have hd5 : l + 1 ≤ 5 := by omega
  have hi : q * 40 + c < 280 := by omega
  exact ex_go ha (fun K k => ex_pf2 hi ho (by rw [ea]; exact ex_rd_ok hw hp hi8 hv hcc ec hf k)) h
theorem xr_not (ha : ex_at rl fr fn s l q c len) (ho : ro (q * 40 + c) = 12) (hw : w < 200) (h : ex_R post oc tc cp lc sc kc er ep cls num lnk lsz lit fb tk tv rk rl ro ra rt rp oo co sk kd (s + 1) (l + 1) (w + 1) g fr (upd fn l (nI (c + 1))) fi (upd vs w (1 - vs w)) ll li lt) : ex_R post oc tc cp lc sc kc er ep cls num lnk lsz lit fb tk tv rk rl ro ra rt rp oo co sk kd s (l + 1) (w + 1) g fr fn fi vs ll li lt := by
  obtain ⟨hs, hd4, hq, h1, h2, hlq, hc, h40⟩ := id ha
  have hd : 1 ≤ l + 1 := by omega
  have hd5 : l + 1 ≤ 5 := by omega
  have hi : q * 40 + c < 280 := by omega
  exact ex_go ha (fun K k => ex_pf12 hi ho hw k) h
theorem xr_neg (ha : ex_at rl fr fn s l q c len) (ho : ro (q * 40 + c) = 23) (hw : w < 200) (h : ex_R post oc tc cp lc sc kc er ep cls num lnk lsz lit fb tk tv rk rl ro ra rt rp oo co sk kd (s + 1) (l + 1) (w + 1) g fr (upd fn l (nI (c + 1))) fi (upd vs w (-(vs w))) ll li lt) : ex_R post oc tc cp lc sc kc er ep cls num lnk lsz lit fb tk tv rk rl ro ra rt rp oo co sk kd s (l + 1) (w + 1) g fr fn fi vs ll li lt := by
  obtain ⟨hs, hd4, hq, h1, h2, hlq, hc, h40⟩ := id ha
  have hd : 1 ≤ l + 1 := by omega
  have hd5 : l + 1 ≤ 5 := by omega
  have hi : q * 40 + c < 280 := by omega
  exact ex_go ha (fun K k => ex_pf23 hi ho hw k) h
theorem xr_bin (ha : ex_at rl fr fn s l q c len) {t : Nat} (h13 : 13 ≤ t) (h18 : t ≤ 18) (ho : ro (q * 40 + c) = nI t) (hw : w + 1 < 200) (hz : ¬ (t = 18 ∧ vs (w + 1) = 0)) (h : ex_R post oc tc cp lc sc kc er ep cls num lnk lsz lit fb tk tv rk rl ro ra rt rp oo co sk kd (s + 1) (l + 1) (w + 1) g fr (upd fn l (nI (c + 1))) fi (upd vs w (gr_bv t (vs w) (vs (w + 1)))) ll li lt) : ex_R post oc tc cp lc sc kc er ep cls num lnk lsz lit fb tk tv rk rl ro ra rt rp oo co sk kd s (l + 1) (w + 2) g fr fn fi vs ll li lt := by
  obtain ⟨hs, hd4, hq, h1, h2, hlq, hc, h40⟩ := id ha
  have hd : 1 ≤ l + 1 := by omega
  have hd5 : l + 1 ≤ 5 := by omega
  have hi : q * 40 + c < 280 := by omega
  have ht : t = 13 ∨ t = 14 ∨ t = 15 ∨ t = 16 ∨ t = 17 ∨ t = 18 := by omega
  rcases ht with rfl | rfl | rfl | rfl | rfl | rfl
  · exact ex_go ha (fun K k => ex_pf13 hi ho (ex_cmb13 hw k)) h
  · exact ex_go ha (fun K k => ex_pf14 hi ho (ex_cmb14 hw k)) h
  · exact ex_go ha (fun K k => ex_pf15 hi ho (ex_cmb15 hw k)) h
  · exact ex_go ha (fun K k => ex_pf16 hi ho (ex_cmb16 hw k)) h
  · exact ex_go ha (fun K k => ex_pf17 hi ho (ex_cmb17 hw k)) h
  · exact ex_go ha (fun K k => ex_pf18 hi ho (ex_cmb18 hw (fun z => hz ⟨rfl, z⟩) k)) h
theorem xr_div (ha : ex_at rl fr fn s l q c len) (ho : ro (q * 40 + c) = 18) (hw : w + 1 < 200) (hv : vs (w + 1) = 0) (h : post 4 (oc, tc, cp, lc, sc, kc, nI (l + 1), nI w, er, ep, nI g, cls, num, lnk, lsz, lit, fb, tk, tv, rk, rl, ro, ra, rt, rp, oo, co, sk, kd, fr, upd fn l (nI (c + 1)), fi, vs, ll, li, lt)) : ex_R post oc tc cp lc sc kc er ep cls num lnk lsz lit fb tk tv rk rl ro ra rt rp oo co sk kd s (l + 1) (w + 2) g fr fn fi vs ll li lt := by
  obtain ⟨hs, hd4, hq, h1, h2, hlq, hc, h40⟩ := id ha
  have hd : 1 ≤ l + 1 := by omega
  have hd5 : l + 1 ≤ 5 := by omega
  have hi : q * 40 + c < 280 := by omega
  exact ex_er (x := 4) ha (by decide) (fun K k => ex_pf18 hi ho (ex_cmb_div hw hv k)) h
theorem xr_cl_nul (ha : ex_at rl fr fn s l q c len) (ho : ro (q * 40 + c) = 5) (hw : w < 200) (hv : vs w = -1) (h : post 2 (oc, tc, cp, lc, sc, kc, nI (l + 1), nI w, er, ep, nI g, cls, num, lnk, lsz, lit, fb, tk, tv, rk, rl, ro, ra, rt, rp, oo, co, sk, kd, fr, upd fn l (nI (c + 1)), fi, vs, ll, li, lt)) : ex_R post oc tc cp lc sc kc er ep cls num lnk lsz lit fb tk tv rk rl ro ra rt rp oo co sk kd s (l + 1) (w + 1) g fr fn fi vs ll li lt := by
  obtain ⟨hs, hd4, hq, h1, h2, hlq, hc, h40⟩ := id ha
  have hd : 1 ≤ l + 1 := by omega
  have hd5 : l + 1 ≤ 5 := by omega
  have hi : q * 40 + c < 280 := by omega
  exact ex_er (x := 2) ha (by decide) (fun K k => ex_pf5 hi ho (ex_cl_nul hw hv k)) h
theorem xr_cl_deep (ha : ex_at rl fr fn s l q c len) (ho : ro (q * 40 + c) = 5) {i : Nat} (hw : w < 200) (hi8 : i < 8) (hv : vs w = nI i) (hdd : l = 4) (h : post 5 (oc, tc, cp, lc, sc, kc, nI (l + 1), nI w, er, ep, nI g, cls, num, lnk, lsz, lit, fb, tk, tv, rk, rl, ro, ra, rt, rp, oo, co, sk, kd, fr, upd fn l (nI (c + 1)), fi, vs, ll, li, lt)) : ex_R post oc tc cp lc sc kc er ep cls num lnk lsz lit fb tk tv rk rl ro ra rt rp oo co sk kd s (l + 1) (w + 1) g fr fn fi vs ll li lt := by
  obtain ⟨hs, hd4, hq, h1, h2, hlq, hc, h40⟩ := id ha
  have hd : 1 ≤ l + 1 := by omega
  have hd5 : l + 1 ≤ 5 := by omega
  have hi : q * 40 + c < 280 := by omega
  exact ex_er (x := 5) ha (by decide) (fun K k => ex_pf5 hi ho (ex_cl_deep hw hi8 hv (by omega) k)) h
theorem xr_cl_stop (ha : ex_at rl fr fn s l q c len) (ho : ro (q * 40 + c) = 5) {i : Nat} (hw : w < 200) (hi8 : i < 8) (hv : vs w = nI i) (hdd : l < 4) (hg : g = 40) (h : post 6 (oc, tc, cp, lc, sc, kc, nI (l + 1), nI w, er, ep, nI g, cls, num, lnk, lsz, lit, fb, tk, tv, rk, rl, ro, ra, rt, rp, oo, co, sk, kd, fr, upd fn l (nI (c + 1)), fi, vs, ll, li, lt)) : ex_R post oc tc cp lc sc kc er ep cls num lnk lsz lit fb tk tv rk rl ro ra rt rp oo co sk kd s (l + 1) (w + 1) g fr fn fi vs ll li lt := by
  obtain ⟨hs, hd4, hq, h1, h2, hlq, hc, h40⟩ := id ha
  have hd : 1 ≤ l + 1 := by omega
  have hd5 : l + 1 ≤ 5 := by omega
  have hi : q * 40 + c < 280 := by omega
  exact ex_er (x := 6) ha (by decide) (fun K k => ex_pf5 hi ho (ex_cl_stop hw hi8 hv (by omega) hg k)) h
theorem xr_cl_ok (ha : ex_at rl fr fn s l q c len) (ho : ro (q * 40 + c) = 5) {i : Nat} (hw : w < 200) (hi8 : i < 8) (hv : vs w = nI i) (hdd : l < 4) (hg : g < 40) (h : ex_R post oc tc cp lc sc kc er ep cls num lnk lsz lit fb tk tv rk rl ro ra rt rp oo co sk kd (s + 1) (l + 2) w (g + 1) (upd fr (l + 1) (ra (q * 40 + c))) (upd (upd fn l (nI (c + 1))) (l + 1) 0) (upd fi (l + 1) (nI i)) vs ll li lt) : ex_R post oc tc cp lc sc kc er ep cls num lnk lsz lit fb tk tv rk rl ro ra rt rp oo co sk kd s (l + 1) (w + 1) g fr fn fi vs ll li lt := by
  obtain ⟨hs, hd4, hq, h1, h2, hlq, hc, h40⟩ := id ha
  have hd : 1 ≤ l + 1 := by omega
  have hd5 : l + 1 ≤ 5 := by omega
  have hi : q * 40 + c < 280 := by omega
  exact ex_go ha (fun K k => ex_pf5 hi ho (ex_cl_ok hw hi8 hv (by omega) hg k)) h
theorem xr_col (ha : ex_at rl fr fn s l q c len) (ho : ro (q * 40 + c) = 9) (h : ex_R post oc tc cp lc sc kc er ep cls num lnk lsz lit fb tk tv rk rl ro ra rt rp oo co sk kd (s + 1) (l + 1) w g fr (upd (upd fn l (nI (c + 1))) l (rt (q * 40 + c))) fi vs ll li lt) : ex_R post oc tc cp lc sc kc er ep cls num lnk lsz lit fb tk tv rk rl ro ra rt rp oo co sk kd s (l + 1) w g fr fn fi vs ll li lt := by
  obtain ⟨hs, hd4, hq, h1, h2, hlq, hc, h40⟩ := id ha
  have hd : 1 ≤ l + 1 := by omega
  have hd5 : l + 1 ≤ 5 := by omega
  have hi : q * 40 + c < 280 := by omega
  exact ex_go ha (fun K k => ex_pf9 hi ho (ex_br9 hi ho hd hd5 k)) h
theorem xr_ask0 (ha : ex_at rl fr fn s l q c len) (ho : ro (q * 40 + c) = 8) (hw : w < 200) (hv : vs w = 0) (h : ex_R post oc tc cp lc sc kc er ep cls num lnk lsz lit fb tk tv rk rl ro ra rt rp oo co sk kd (s + 1) (l + 1) w g fr (upd (upd fn l (nI (c + 1))) l (rt (q * 40 + c))) fi vs ll li lt) : ex_R post oc tc cp lc sc kc er ep cls num lnk lsz lit fb tk tv rk rl ro ra rt rp oo co sk kd s (l + 1) (w + 1) g fr fn fi vs ll li lt := by
  obtain ⟨hs, hd4, hq, h1, h2, hlq, hc, h40⟩ := id ha
  have hd : 1 ≤ l + 1 := by omega
  have hd5 : l + 1 ≤ 5 := by omega
  have hi : q * 40 + c < 280 := by omega
  exact ex_go ha (fun K k => ex_pf8 hi ho (ex_ask0 hi ho hd hd5 hw hv k)) h
theorem xr_ask1 (ha : ex_at rl fr fn s l q c len) (ho : ro (q * 40 + c) = 8) (hw : w < 200) (hv : ¬ vs w = 0) (h : ex_R post oc tc cp lc sc kc er ep cls num lnk lsz lit fb tk tv rk rl ro ra rt rp oo co sk kd (s + 1) (l + 1) w g fr (upd fn l (nI (c + 1))) fi vs ll li lt) : ex_R post oc tc cp lc sc kc er ep cls num lnk lsz lit fb tk tv rk rl ro ra rt rp oo co sk kd s (l + 1) (w + 1) g fr fn fi vs ll li lt := by
  obtain ⟨hs, hd4, hq, h1, h2, hlq, hc, h40⟩ := id ha
  have hd : 1 ≤ l + 1 := by omega
  have hd5 : l + 1 ≤ 5 := by omega
  have hi : q * 40 + c < 280 := by omega
  exact ex_go ha (fun K k => ex_pf8 hi ho (ex_ask1 hi ho hd hd5 hw hv k)) h
theorem xr_or0 (ha : ex_at rl fr fn s l q c len) (ho : ro (q * 40 + c) = 10) (hw : w < 200) (hv : vs w = 0) (h : ex_R post oc tc cp lc sc kc er ep cls num lnk lsz lit fb tk tv rk rl ro ra rt rp oo co sk kd (s + 1) (l + 1) w g fr (upd fn l (nI (c + 1))) fi vs ll li lt) : ex_R post oc tc cp lc sc kc er ep cls num lnk lsz lit fb tk tv rk rl ro ra rt rp oo co sk kd s (l + 1) (w + 1) g fr fn fi vs ll li lt := by
  obtain ⟨hs, hd4, hq, h1, h2, hlq, hc, h40⟩ := id ha
  have hd : 1 ≤ l + 1 := by omega
  have hd5 : l + 1 ≤ 5 := by omega
  have hi : q * 40 + c < 280 := by omega
  exact ex_go ha (fun K k => ex_pf10 hi ho (ex_or0 hi ho hd hd5 hw hv k)) h
theorem xr_or1 (ha : ex_at rl fr fn s l q c len) (ho : ro (q * 40 + c) = 10) (hw : w < 200) (hv : ¬ vs w = 0) (h : ex_R post oc tc cp lc sc kc er ep cls num lnk lsz lit fb tk tv rk rl ro ra rt rp oo co sk kd (s + 1) (l + 1) (w + 1) g fr (upd (upd fn l (nI (c + 1))) l (rt (q * 40 + c))) fi vs ll li lt) : ex_R post oc tc cp lc sc kc er ep cls num lnk lsz lit fb tk tv rk rl ro ra rt rp oo co sk kd s (l + 1) (w + 1) g fr fn fi vs ll li lt := by
  obtain ⟨hs, hd4, hq, h1, h2, hlq, hc, h40⟩ := id ha
  have hd : 1 ≤ l + 1 := by omega
  have hd5 : l + 1 ≤ 5 := by omega
  have hi : q * 40 + c < 280 := by omega
  exact ex_go ha (fun K k => ex_pf10 hi ho (ex_or1 hi ho hd hd5 hw hv k)) h
theorem xr_and0 (ha : ex_at rl fr fn s l q c len) (ho : ro (q * 40 + c) = 11) (hw : w < 200) (hv : vs w = 0) (h : ex_R post oc tc cp lc sc kc er ep cls num lnk lsz lit fb tk tv rk rl ro ra rt rp oo co sk kd (s + 1) (l + 1) (w + 1) g fr (upd (upd fn l (nI (c + 1))) l (rt (q * 40 + c))) fi vs ll li lt) : ex_R post oc tc cp lc sc kc er ep cls num lnk lsz lit fb tk tv rk rl ro ra rt rp oo co sk kd s (l + 1) (w + 1) g fr fn fi vs ll li lt := by
  obtain ⟨hs, hd4, hq, h1, h2, hlq, hc, h40⟩ := id ha
  have hd : 1 ≤ l + 1 := by omega
  have hd5 : l + 1 ≤ 5 := by omega
  have hi : q * 40 + c < 280 := by omega
  exact ex_go ha (fun K k => ex_pf11 hi ho (ex_and0 hi ho hd hd5 hw hv k)) h
theorem xr_and1 (ha : ex_at rl fr fn s l q c len) (ho : ro (q * 40 + c) = 11) (hw : w < 200) (hv : ¬ vs w = 0) (h : ex_R post oc tc cp lc sc kc er ep cls num lnk lsz lit fb tk tv rk rl ro ra rt rp oo co sk kd (s + 1) (l + 1) w g fr (upd fn l (nI (c + 1))) fi vs ll li lt) : ex_R post oc tc cp lc sc kc er ep cls num lnk lsz lit fb tk tv rk rl ro ra rt rp oo co sk kd s (l + 1) (w + 1) g fr fn fi vs ll li lt := by
  obtain ⟨hs, hd4, hq, h1, h2, hlq, hc, h40⟩ := id ha
  have hd : 1 ≤ l + 1 := by omega
  have hd5 : l + 1 ≤ 5 := by omega
  have hi : q * 40 + c < 280 := by omega
  exact ex_go ha (fun K k => ex_pf11 hi ho (ex_and1 hi ho hd hd5 hw hv k)) h
theorem xr_st_pf (hi : q * 40 + c < 280) {t : Nat} {K : Int32 → SX → Prop} (ht : t = 20 ∨ t = 21 ∨ t = 22) (ho : ro (q * 40 + c) = nI t) (h : wpX_startLoop K (oc, tc, cp, lc, sc, kc, nI (l + 1), nI w, er, ep, nI g, cls, num, lnk, lsz, lit, fb, tk, tv, rk, rl, ro, ra, rt, rp, oo, co, sk, kd, fr, fn, fi, vs, ll, li, lt) (nI (q * 40 + c))) : wpX_perform K (oc, tc, cp, lc, sc, kc, nI (l + 1), nI w, er, ep, nI g, cls, num, lnk, lsz, lit, fb, tk, tv, rk, rl, ro, ra, rt, rp, oo, co, sk, kd, fr, fn, fi, vs, ll, li, lt) (nI (q * 40 + c)) := by
  rcases ht with rfl | rfl | rfl
  · exact ex_pf20 hi ho h
  · exact ex_pf21 hi ho h
  · exact ex_pf22 hi ho h
theorem xr_st_end (ha : ex_at rl fr fn s l q c len) {t v : Nat} (ht : t = 20 ∨ t = 21 ∨ t = 22) (ho : ro (q * 40 + c) = nI t) (hw : w < 200) (hv : v < 3) (ea : ra (q * 40 + c) = nI v) (hl : vs w = -1 ∨ ∃ a, a < 16 ∧ vs w = nI a ∧ lsz a = 0) (h : ex_R post oc tc cp lc sc kc er ep cls num lnk lsz lit fb tk tv rk rl ro ra rt rp oo co sk kd (s + 1) (l + 1) (w + 1) g fr (upd (upd fn l (nI (c + 1))) l (rt (q * 40 + c))) fi (upd vs w (if t = 21 then 1 else 0)) (upd ll (l * 3 + v) (vs w)) (upd li (l * 3 + v) (-1)) (upd lt (l * 3 + v) (if t = 21 then 1 else 0))) : ex_R post oc tc cp lc sc kc er ep cls num lnk lsz lit fb tk tv rk rl ro ra rt rp oo co sk kd s (l + 1) (w + 1) g fr fn fi vs ll li lt := by
  obtain ⟨hs, hd4, hq, h1, h2, hlq, hc, h40⟩ := id ha
  have hd : 1 ≤ l + 1 := by omega
  have hd5 : l + 1 ≤ 5 := by omega
  have hi : q * 40 + c < 280 := by omega
  have hL : l * 3 + v < 15 := by omega
  have ht25 : t < 25 := by omega
  refine ex_go ha (fun K k => xr_st_pf hi ht ho (ex_start hi hd hd5 hv hw ea ho ht25 ?_)) h
  have k' : wX_nextRound_40 K (nI (q * 40 + c)) (nI (l * 3 + v)) oc tc cp lc sc kc (nI (l + 1)) (nI w) er ep (nI g) cls num lnk lsz lit fb tk tv rk rl ro ra rt rp oo co sk kd fr (upd fn l (nI (c + 1))) fi vs (upd ll (l * 3 + v) (vs w)) (upd li (l * 3 + v) (-1)) (upd lt (l * 3 + v) (if t = 21 then 1 else 0)) := by
    refine ex_nr_fin hi hL hd hd5 hw ?_
    rw [pk_us]
    exact k
  rcases hl with hl | ⟨a, hl16, hl, hz⟩
  · exact ex_nr_emp hL (pk_us.trans hl) k'
  · exact ex_nr_out (l := a) (j := 0) (z := 0) hL (pk_us.trans hl) hl16 (by rw [pk_us]; rfl) (by omega) hz (by omega) k' 
theorem xr_st_stop (ha : ex_at rl fr fn s l q c len) {t v : Nat} (ht : t = 20 ∨ t = 21 ∨ t = 22) (ho : ro (q * 40 + c) = nI t) (hw : w < 200) (hv : v < 3) (ea : ra (q * 40 + c) = nI v) {a z : Nat} (hl16 : a < 16) (hl : vs w = nI a) (hz : lsz a = nI z) (hz0 : 0 < z) (hz4 : z ≤ 4) (hg : g = 40) (h : post 6 (oc, tc, cp, lc, sc, kc, nI (l + 1), nI w, er, ep, nI g, cls, num, lnk, lsz, lit, fb, tk, tv, rk, rl, ro, ra, rt, rp, oo, co, sk, kd, fr, upd fn l (nI (c + 1)), fi, vs, upd ll (l * 3 + v) (vs w), upd li (l * 3 + v) (-1), upd lt (l * 3 + v) (if t = 21 then 1 else 0))) : ex_R post oc tc cp lc sc kc er ep cls num lnk lsz lit fb tk tv rk rl ro ra rt rp oo co sk kd s (l + 1) (w + 1) g fr fn fi vs ll li lt := by
  obtain ⟨hs, hd4, hq, h1, h2, hlq, hc, h40⟩ := id ha
  have hd : 1 ≤ l + 1 := by omega
  have hd5 : l + 1 ≤ 5 := by omega
  have hi : q * 40 + c < 280 := by omega
  have hL : l * 3 + v < 15 := by omega
  have ht25 : t < 25 := by omega
  exact ex_er (x := 6) ha (by decide) (fun K k => xr_st_pf hi ht ho (ex_start hi hd hd5 hv hw ea ho ht25 (ex_nr_stop (j := 0) hL (pk_us.trans hl) hl16 (by rw [pk_us]; rfl) hz hz0 hz4 hg k))) h
theorem xr_st_go (ha : ex_at rl fr fn s l q c len) {t v : Nat} (ht : t = 20 ∨ t = 21 ∨ t = 22) (ho : ro (q * 40 + c) = nI t) (hw : w < 200) (hv : v < 3) (ea : ra (q * 40 + c) = nI v) {a z : Nat} (hl16 : a < 16) (hl : vs w = nI a) (hz : lsz a = nI z) (hz0 : 0 < z) (hz4 : z ≤ 4) (hg : g < 40) (h : ex_R post oc tc cp lc sc kc er ep cls num lnk lsz lit fb tk tv rk rl ro ra rt rp oo co sk kd (s + 1) (l + 1) w (g + 1) fr (upd (upd fn l (nI (c + 1))) l (nI (c + 1))) fi vs (upd ll (l * 3 + v) (vs w)) (upd (upd li (l * 3 + v) (-1)) (l * 3 + v) (nI 0)) (upd lt (l * 3 + v) (if t = 21 then 1 else 0))) : ex_R post oc tc cp lc sc kc er ep cls num lnk lsz lit fb tk tv rk rl ro ra rt rp oo co sk kd s (l + 1) (w + 1) g fr fn fi vs ll li lt := by
  obtain ⟨hs, hd4, hq, h1, h2, hlq, hc, h40⟩ := id ha
  have hd : 1 ≤ l + 1 := by omega
  have hd5 : l + 1 ≤ 5 := by omega
  have hi : q * 40 + c < 280 := by omega
  have hL : l * 3 + v < 15 := by omega
  have ht25 : t < 25 := by omega
  exact ex_go ha (fun K k => xr_st_pf hi ht ho (ex_start hi hd hd5 hv hw ea ho ht25 (ex_nr_go (j := 0) hq (by omega) hd hd5 hL (pk_us.trans hl) hl16 (by rw [pk_us]; rfl) hz hz0 hz4 hg k))) h
theorem xr_nx_end (ha : ex_at rl fr fn s l q c len) {t v m : Nat} (ht : t = 20 ∨ t = 21 ∨ t = 22) (hm : m < 40) (ho : ro (q * 40 + c) = 24) (ea : ra (q * 40 + c) = nI m) (hom : ro (q * 40 + m) = nI t) (eam : ra (q * 40 + m) = nI v) (hw : w < 200) (hv : v < 3) (hl : gr_dec t (vs w) ∨ ∃ a j z, a < 16 ∧ ll (l * 3 + v) = nI a ∧ li (l * 3 + v) = nI j ∧ j < 2 ^ 30 ∧ lsz a = nI z ∧ z ≤ j + 1) (h : ex_R post oc tc cp lc sc kc er ep cls num lnk lsz lit fb tk tv rk rl ro ra rt rp oo co sk kd (s + 1) (l + 1) (w + 1) g fr (upd (upd fn l (nI (c + 1))) l (rt (q * 40 + m))) fi (upd vs w (if t = 22 then lt (l * 3 + v) + vs w else vs w)) ll li (upd lt (l * 3 + v) (if t = 22 then lt (l * 3 + v) + vs w else vs w))) : ex_R post oc tc cp lc sc kc er ep cls num lnk lsz lit fb tk tv rk rl ro ra rt rp oo co sk kd s (l + 1) (w + 1) g fr fn fi vs ll li lt := by
  obtain ⟨hs, hd4, hq, h1, h2, hlq, hc, h40⟩ := id ha
  have hd : 1 ≤ l + 1 := by omega
  have hd5 : l + 1 ≤ 5 := by omega
  have hi : q * 40 + c < 280 := by omega
  have hL : l * 3 + v < 15 := by omega
  have hc40 : c < 40 := by omega
  have ht25 : t < 25 := by omega
  have him : q * 40 + m < 280 := by omega
  refine ex_go ha (fun K k => ex_pf24 hq hc40 hm ho ea (ex_endr him hd hd5 hv hw eam hom ht25 (fun z z1 z0 => ?_))) h
  have k' : wX_nextRound_40 K (nI (q * 40 + m)) (nI (l * 3 + v)) oc tc cp lc sc kc (nI (l + 1)) (nI w) er ep (nI g) cls num lnk lsz lit fb tk tv rk rl ro ra rt rp oo co sk kd fr (upd fn l (nI (c + 1))) fi vs ll li (upd lt (l * 3 + v) (if t = 22 then lt (l * 3 + v) + vs w else vs w)) := by
    refine ex_nr_fin him hL hd hd5 hw ?_
    rw [pk_us]
    exact k
  by_cases hd2 : gr_dec t (vs w)
  · exact ex_nr_dec hL (z1 hd2) k'
  · obtain ⟨a, j, y, hl16, el, ej, hj, hz, hzj⟩ := hl.resolve_left hd2
    rw [z0 hd2]
    exact ex_nr_out (j := j + 1) hL el hl16 (by rw [Nat.add_sub_cancel, ej, nI_1]) (by omega) hz hzj k' 
theorem xr_nx_stop (ha : ex_at rl fr fn s l q c len) {t v m : Nat} (ht : t = 20 ∨ t = 21 ∨ t = 22) (hm : m < 40) (ho : ro (q * 40 + c) = 24) (ea : ra (q * 40 + c) = nI m) (hom : ro (q * 40 + m) = nI t) (eam : ra (q * 40 + m) = nI v) (hw : w < 200) (hv : v < 3) (hnd : ¬ gr_dec t (vs w)) {a j z : Nat} (hl16 : a < 16) (el : ll (l * 3 + v) = nI a) (ej : li (l * 3 + v) = nI j) (hz : lsz a = nI z) (hjz : j + 1 < z) (hz4 : z ≤ 4) (hg : g = 40) (h : post 6 (oc, tc, cp, lc, sc, kc, nI (l + 1), nI w, er, ep, nI g, cls, num, lnk, lsz, lit, fb, tk, tv, rk, rl, ro, ra, rt, rp, oo, co, sk, kd, fr, upd fn l (nI (c + 1)), fi, vs, ll, li, upd lt (l * 3 + v) (if t = 22 then lt (l * 3 + v) + vs w else vs w))) : ex_R post oc tc cp lc sc kc er ep cls num lnk lsz lit fb tk tv rk rl ro ra rt rp oo co sk kd s (l + 1) (w + 1) g fr fn fi vs ll li lt := by
  obtain ⟨hs, hd4, hq, h1, h2, hlq, hc, h40⟩ := id ha
  have hd : 1 ≤ l + 1 := by omega
  have hd5 : l + 1 ≤ 5 := by omega
  have hi : q * 40 + c < 280 := by omega
  have hL : l * 3 + v < 15 := by omega
  have hc40 : c < 40 := by omega
  have ht25 : t < 25 := by omega
  have him : q * 40 + m < 280 := by omega
  exact ex_er (x := 6) ha (by decide) (fun K k => ex_pf24 hq hc40 hm ho ea (ex_endr him hd hd5 hv hw eam hom ht25 (fun z z1 z0 => by rw [z0 hnd]; exact ex_nr_stop (j := j + 1) hL el hl16 (by rw [Nat.add_sub_cancel, ej, nI_1]) hz hjz hz4 hg k))) h
theorem xr_nx_go (ha : ex_at rl fr fn s l q c len) {t v m : Nat} (ht : t = 20 ∨ t = 21 ∨ t = 22) (hm : m < 40) (ho : ro (q * 40 + c) = 24) (ea : ra (q * 40 + c) = nI m) (hom : ro (q * 40 + m) = nI t) (eam : ra (q * 40 + m) = nI v) (hw : w < 200) (hv : v < 3) (hnd : ¬ gr_dec t (vs w)) {a j z : Nat} (hl16 : a < 16) (el : ll (l * 3 + v) = nI a) (ej : li (l * 3 + v) = nI j) (hz : lsz a = nI z) (hjz : j + 1 < z) (hz4 : z ≤ 4) (hg : g < 40) (h : ex_R post oc tc cp lc sc kc er ep cls num lnk lsz lit fb tk tv rk rl ro ra rt rp oo co sk kd (s + 1) (l + 1) w (g + 1) fr (upd (upd fn l (nI (c + 1))) l (nI (m + 1))) fi vs ll (upd li (l * 3 + v) (nI (j + 1))) (upd lt (l * 3 + v) (if t = 22 then lt (l * 3 + v) + vs w else vs w))) : ex_R post oc tc cp lc sc kc er ep cls num lnk lsz lit fb tk tv rk rl ro ra rt rp oo co sk kd s (l + 1) (w + 1) g fr fn fi vs ll li lt := by
  obtain ⟨hs, hd4, hq, h1, h2, hlq, hc, h40⟩ := id ha
  have hd : 1 ≤ l + 1 := by omega
  have hd5 : l + 1 ≤ 5 := by omega
  have hi : q * 40 + c < 280 := by omega
  have hL : l * 3 + v < 15 := by omega
  have hc40 : c < 40 := by omega
  have ht25 : t < 25 := by omega
  have him : q * 40 + m < 280 := by omega
  exact ex_go ha (fun K k => ex_pf24 hq hc40 hm ho ea (ex_endr him hd hd5 hv hw eam hom ht25 (fun z z1 z0 => by rw [z0 hnd]; exact ex_nr_go (j := j + 1) hq hm hd hd5 hL el hl16 (by rw [Nat.add_sub_cancel, ej, nI_1]) hz hjz hz4 hg k))) h
end
