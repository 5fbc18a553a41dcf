def ey_F (Z : (Int32 → SY → Prop) → Prop) (ob tks pl nds res : Int32) (cls prp lit lsz fb tk tv opd rk rn op nm ay prt ylo yhi : Nat → Int32) (s p l g : Nat) (ret out : Int32) (sN sP sX sK it vr : Nat → Int32) : Prop := ∀ post, (∃ n, wY_eval_75 post n (nI s) ob tks pl nds (1) res ((-1)) (nI g) (nI p) (nI l) ret out (cls) prp (lit) (lsz) (fb) (tk) (tv) opd (rk) rn op nm ay prt ylo yhi sN sP sX sK it vr) → Z post
def ey_E (Z : (Int32 → SY → Prop) → Prop) (ob tks pl nds res : Int32) (cls prp lit lsz fb tk tv opd rk rn op nm ay prt ylo yhi : Nat → Int32) (x : Nat) (e : Int32) (g : Nat) : Prop := ∀ post : Int32 → SY → Prop, (∀ (sp lv ret out : Int32) (sN sP sX sK it vr : Nat → Int32), post (nI x) (ob, tks, pl, nds, nI x, res, e, nI g, sp, lv, ret, out, cls, prp, lit, lsz, fb, tk, tv, opd, rk, rn, op, nm, ay, prt, ylo, yhi, sN, sP, sX, sK, it, vr)) → Z post
section
variable {K : SY → Prop} {ob tks pl nds res sts era ret out : Int32} {cls prp lit lsz fb tk tv opd rk rn op nm ay prt ylo yhi sN sP sX sK it vr : Nat → Int32} {p l g : Nat}
theorem ey_down {x : Int32} (hp : p < 220) (h : K (ob, tks, pl, nds, sts, res, era, nI g, nI (p + 1), nI l, ret, out, cls, prp, lit, lsz, fb, tk, tv, opd, rk, rn, op, nm, ay, prt, ylo, yhi, upd sN p x, upd sP p 0, sX, sK, it, vr)) : wpY_down K (ob, tks, pl, nds, sts, res, era, nI g, nI p, nI l, ret, out, cls, prp, lit, lsz, fb, tk, tv, opd, rk, rn, op, nm, ay, prt, ylo, yhi, sN, sP, sX, sK, it, vr) x := by
  have c : (nI p).toNatClampNeg = p := nI_clamp (by omega)
  exact ⟨vp_in_nI hp (by decide), nm_r (by rw [c]) ⟨vp_in_nI hp (by decide), nm_r (by rw [c]) (nm_r (nI_1 p) h)⟩⟩
theorem ey_give {x : Int32} (h : K (ob, tks, pl, nds, sts, res, era, nI g, nI p, nI l, x, out, cls, prp, lit, lsz, fb, tk, tv, opd, rk, rn, op, nm, ay, prt, ylo, yhi, sN, sP, sX, sK, it, vr)) : wpY_give K (ob, tks, pl, nds, sts, res, era, nI g, nI (p + 1), nI l, ret, out, cls, prp, lit, lsz, fb, tk, tv, opd, rk, rn, op, nm, ay, prt, ylo, yhi, sN, sP, sX, sK, it, vr) x := nm_r (nI_pred p) h
theorem ey_error {x : Int32} {k : Nat} (hl : l < 5) (hk : k < 280) (h : K (ob, tks, pl, nds, x, res, if l = 0 then ay k else out, nI g, nI (p + 1), nI l, ret, out, cls, prp, lit, lsz, fb, tk, tv, opd, rk, rn, op, nm, ay, prt, ylo, yhi, sN, sP, sX, sK, it, vr)) : wpY_error K (ob, tks, pl, nds, sts, res, era, nI g, nI (p + 1), nI l, ret, out, cls, prp, lit, lsz, fb, tk, tv, opd, rk, rn, op, nm, ay, prt, ylo, yhi, sN, sP, sX, sK, it, vr) x (nI k) := by
  by_cases z : l = 0
  · rw [if_pos z] at h
    exact br_t (by rw [z]; rfl) ⟨vp_in_nI hk (by decide), nm_r (by rw [nI_clamp (by omega)]) h⟩
  · rw [if_neg z] at h
    exact br_f (nI_ne0 (by omega) (by omega)) h
theorem ey_unit0 {K : Int32 → SY → Prop} {k : Nat} (hl : l < 5) (hk : k < 280) (hg : g = 40) (h : K 0 (ob, tks, pl, nds, 6, res, if l = 0 then ay k else out, nI g, nI (p + 1), nI l, ret, out, cls, prp, lit, lsz, fb, tk, tv, opd, rk, rn, op, nm, ay, prt, ylo, yhi, sN, sP, sX, sK, it, vr)) : wpY_unit K (ob, tks, pl, nds, sts, res, era, nI g, nI (p + 1), nI l, ret, out, cls, prp, lit, lsz, fb, tk, tv, opd, rk, rn, op, nm, ay, prt, ylo, yhi, sN, sP, sX, sK, it, vr) (nI k) := by
  refine br_t (by rw [hg]; rfl) (ey_error hl hk h)
theorem ey_unit1 {K : Int32 → SY → Prop} {k : Int32} (hg : g < 40) (h : K 1 (ob, tks, pl, nds, sts, res, era, nI (g + 1), nI (p + 1), nI l, ret, out, cls, prp, lit, lsz, fb, tk, tv, opd, rk, rn, op, nm, ay, prt, ylo, yhi, sN, sP, sX, sK, it, vr)) : wpY_unit K (ob, tks, pl, nds, sts, res, era, nI g, nI (p + 1), nI l, ret, out, cls, prp, lit, lsz, fb, tk, tv, opd, rk, rn, op, nm, ay, prt, ylo, yhi, sN, sP, sX, sK, it, vr) k :=
  br_f (fun z => absurd ((nI_eq (b := 40) (by omega) (by decide)).1 z) (by omega)) (nm_r (nI_1 g) h)
end
section
variable {Z : (Int32 → SY → Prop) → Prop} {ob tks pl nds res ret out : Int32} {cls prp lit lsz fb tk tv opd rk rn op nm ay prt ylo yhi sN sP sX sK it vr : Nat → Int32} {s p l g k ph : Nat}
/-- the frame on top stands at node k, phase ph -/
def ey_at (sN sP : Nat → Int32) (s p l k ph : Nat) : Prop := s < 20000 ∧ p < 220 ∧ l < 5 ∧ k < 280 ∧ sN p = nI k ∧ sP p = nI ph ∧ ph < 1000
theorem ey_go {p' l' g' : Nat} {ret' out' : Int32} {sN' sP' sX' sK' it' vr' : Nat → Int32} (ha : ey_at sN sP s p l k ph) (H : ∀ K : SY → Prop, K (ob, tks, pl, nds, 1, res, (-1), nI g', nI p', nI l', ret', out', cls, prp, lit, lsz, fb, tk, tv, opd, rk, rn, op, nm, ay, prt, ylo, yhi, sN', sP', sX', sK', it', vr') → wpY_step K (ob, tks, pl, nds, 1, res, (-1), nI g, nI (p + 1), nI l, ret, out, cls, prp, lit, lsz, fb, tk, tv, opd, rk, rn, op, nm, ay, prt, ylo, yhi, sN, sP, sX, sK, it, vr) (nI p)) (h : ey_F Z ob tks pl nds res cls prp lit lsz fb tk tv opd rk rn op nm ay prt ylo yhi s (p + 1) l g ret out sN sP sX sK it vr) : ey_F Z ob tks pl nds res cls prp lit lsz fb tk tv opd rk rn op nm ay prt ylo yhi (s + 1) p' l' g' ret' out' sN' sP' sX' sK' it' vr' := by
  intro post hn
  obtain ⟨n, hn⟩ := hn
  refine h post ⟨n + 1, br_f (nI_ge (b := 20000) ha.1 (by decide)) (br_f (nI_nle (by omega) (by have := ha.2.1; omega)) (br_t rfl ?_))⟩
  rw [nI_pred]
  exact H _ (nm_r (nI_1 s) hn)
theorem ey_ef {x : Nat} {e : Int32} {p' : Nat} {ret' out' : Int32} {sN' sP' sX' sK' it' vr' : Nat → Int32} (ha : ey_at sN sP s p l k ph) (hx : ¬ nI x = 1) (H : ∀ K : SY → Prop, K (ob, tks, pl, nds, nI x, res, e, nI g, nI p', nI l, ret', out', cls, prp, lit, lsz, fb, tk, tv, opd, rk, rn, op, nm, ay, prt, ylo, yhi, sN', sP', sX', sK', it', vr') → wpY_step K (ob, tks, pl, nds, 1, res, (-1), nI g, nI (p + 1), nI l, ret, out, cls, prp, lit, lsz, fb, tk, tv, opd, rk, rn, op, nm, ay, prt, ylo, yhi, sN, sP, sX, sK, it, vr) (nI p)) (h : ey_F Z ob tks pl nds res cls prp lit lsz fb tk tv opd rk rn op nm ay prt ylo yhi s (p + 1) l g ret out sN sP sX sK it vr) : ey_E Z ob tks pl nds res cls prp lit lsz fb tk tv opd rk rn op nm ay prt ylo yhi x e g := by
  intro post hp
  have hq : ∀ y, wY_eval_75 post 1 y ob tks pl nds (nI x) res (e) (nI g) (nI p') (nI l) (ret') (out') (cls) prp (lit) (lsz) (fb) (tk) (tv) opd (rk) rn op nm ay prt ylo yhi (sN') (sP') (sX') (sK') (it') (vr') := by
    intro y
    have hh := hp (nI p') (nI l) ret' out' sN' sP' sX' sK' it' vr'
    by_cases z1 : (20000 : Int32) ≤ y
    · exact br_t z1 (br_f hx hh)
    · refine br_f z1 ?_
      by_cases z2 : nI p' ≤ 0
      · exact br_t z2 (br_f hx hh)
      · exact br_f z2 (br_f hx (br_f hx hh))
  refine h post ⟨2, br_f (nI_ge (b := 20000) ha.1 (by decide)) (br_f (nI_nle (by omega) (by have := ha.2.1; omega)) (br_t rfl ?_))⟩
  rw [nI_pred]
  exact H _ (nm_e (hq _))
theorem yr_num (ha : ey_at sN sP s p l k ph) (ho : op k = 0)  (h : ey_F Z ob tks pl nds res cls prp lit lsz fb tk tv opd rk rn op nm ay prt ylo yhi s (p + 1) l g ret out sN sP sX sK it vr) : ey_F Z ob tks pl nds res cls prp lit lsz fb tk tv opd rk rn op nm ay prt ylo yhi (s + 1) p l g (nm k) out sN (upd sP p (nI (ph + 1))) sX sK it vr := by
  obtain ⟨hs, hp, hl, hk, eN, eP, hph1⟩ := id ha
  have cp : (nI p).toNatClampNeg = p := nI_clamp (by omega)
  have ck : (nI k).toNatClampNeg = k := nI_clamp (by omega)
  have ip : vp_in (nI p) 220 := vp_in_nI hp (by decide)
  have ik : vp_in (nI k) 280 := vp_in_nI hk (by decide)
  refine ey_go ha (fun K kk => ⟨ip, nm_r (e' := nI k) (by rw [cp]; exact eN) ⟨ik, nm_r (e' := 0) (by rw [ck]; exact ho) ⟨ip, nm_r (e' := nI ph) (by rw [cp]; exact eP) ⟨ip, ip, nm_r (e' := upd sP p (nI (ph + 1))) (by rw [cp, eP, nI_1]) (br_t rfl (?_))⟩⟩⟩⟩) h
  rw [ck]
  exact ⟨ik, ey_give kk⟩
theorem yr_it (ha : ey_at sN sP s p l k ph) (ho : op k = 3)  (h : ey_F Z ob tks pl nds res cls prp lit lsz fb tk tv opd rk rn op nm ay prt ylo yhi s (p + 1) l g ret out sN sP sX sK it vr) : ey_F Z ob tks pl nds res cls prp lit lsz fb tk tv opd rk rn op nm ay prt ylo yhi (s + 1) p l g (it l) out sN (upd sP p (nI (ph + 1))) sX sK it vr := by
  obtain ⟨hs, hp, hl, hk, eN, eP, hph1⟩ := id ha
  have cp : (nI p).toNatClampNeg = p := nI_clamp (by omega)
  have ck : (nI k).toNatClampNeg = k := nI_clamp (by omega)
  have ip : vp_in (nI p) 220 := vp_in_nI hp (by decide)
  have ik : vp_in (nI k) 280 := vp_in_nI hk (by decide)
  refine ey_go ha (fun K kk => ⟨ip, nm_r (e' := nI k) (by rw [cp]; exact eN) ⟨ik, nm_r (e' := 3) (by rw [ck]; exact ho) ⟨ip, nm_r (e' := nI ph) (by rw [cp]; exact eP) ⟨ip, ip, nm_r (e' := upd sP p (nI (ph + 1))) (by rw [cp, eP, nI_1]) (br_f (by decide) (br_t rfl (?_)))⟩⟩⟩⟩) h
  rw [nI_clamp (n := l) (by omega)]
  exact ⟨vp_in_nI hl (by decide), ey_give kk⟩
theorem yr_nil (ha : ey_at sN sP s p l k ph) (ho : op k = 19)  (h : ey_F Z ob tks pl nds res cls prp lit lsz fb tk tv opd rk rn op nm ay prt ylo yhi s (p + 1) l g ret out sN sP sX sK it vr) : ey_F Z ob tks pl nds res cls prp lit lsz fb tk tv opd rk rn op nm ay prt ylo yhi (s + 1) p l g (-1) out sN (upd sP p (nI (ph + 1))) sX sK it vr := by
  obtain ⟨hs, hp, hl, hk, eN, eP, hph1⟩ := id ha
  have cp : (nI p).toNatClampNeg = p := nI_clamp (by omega)
  have ck : (nI k).toNatClampNeg = k := nI_clamp (by omega)
  have ip : vp_in (nI p) 220 := vp_in_nI hp (by decide)
  have ik : vp_in (nI k) 280 := vp_in_nI hk (by decide)
  refine ey_go ha (fun K kk => ⟨ip, nm_r (e' := nI k) (by rw [cp]; exact eN) ⟨ik, nm_r (e' := 19) (by rw [ck]; exact ho) ⟨ip, nm_r (e' := nI ph) (by rw [cp]; exact eP) ⟨ip, ip, nm_r (e' := upd sP p (nI (ph + 1))) (by rw [cp, eP, nI_1]) (br_f (by decide) (br_f (by decide) (br_t rfl (?_))))⟩⟩⟩⟩) h
  exact ey_give kk
theorem yr_var (ha : ey_at sN sP s p l k ph) (ho : op k = 4) {v : Nat} (hv : v < 3) (en : nm k = nI v) (h : ey_F Z ob tks pl nds res cls prp lit lsz fb tk tv opd rk rn op nm ay prt ylo yhi s (p + 1) l g ret out sN sP sX sK it vr) : ey_F Z ob tks pl nds res cls prp lit lsz fb tk tv opd rk rn op nm ay prt ylo yhi (s + 1) p l g (vr (l * 3 + v)) out sN (upd sP p (nI (ph + 1))) sX sK it vr := by
  obtain ⟨hs, hp, hl, hk, eN, eP, hph1⟩ := id ha
  have cp : (nI p).toNatClampNeg = p := nI_clamp (by omega)
  have ck : (nI k).toNatClampNeg = k := nI_clamp (by omega)
  have ip : vp_in (nI p) 220 := vp_in_nI hp (by decide)
  have ik : vp_in (nI k) 280 := vp_in_nI hk (by decide)
  refine ey_go ha (fun K kk => ⟨ip, nm_r (e' := nI k) (by rw [cp]; exact eN) ⟨ik, nm_r (e' := 4) (by rw [ck]; exact ho) ⟨ip, nm_r (e' := nI ph) (by rw [cp]; exact eP) ⟨ip, ip, nm_r (e' := upd sP p (nI (ph + 1))) (by rw [cp, eP, nI_1]) (br_f (by decide) (br_f (by decide) (br_f (by decide) (br_t rfl (?_)))))⟩⟩⟩⟩) h
  rw [ck, en, show nI l * 3 + nI v = nI (l * 3 + v) from gr_lin l 3 v rfl rfl, nI_clamp (n := l * 3 + v) (by omega)]
  exact ⟨ik, vp_in_nI (by omega) (by decide), ey_give kk⟩
theorem yr_dn (ha : ey_at sN sP s p l k 0) {t : Nat} (ho : op k = nI t) (ht : t < 25) (h0 : t ≠ 0) (h3 : t ≠ 3) (h19 : t ≠ 19) (h4 : t ≠ 4) (hp1 : p + 1 < 220) (h : ey_F Z ob tks pl nds res cls prp lit lsz fb tk tv opd rk rn op nm ay prt ylo yhi s (p + 1) l g ret out sN sP sX sK it vr) : ey_F Z ob tks pl nds res cls prp lit lsz fb tk tv opd rk rn op nm ay prt ylo yhi (s + 1) (p + 2) l g ret out (upd sN (p + 1) (prt (k * 3))) (upd (upd sP p (nI 1)) (p + 1) 0) sX sK it vr := by
  obtain ⟨hs, hp, hl, hk, eN, eP, hph1⟩ := id ha
  have cp : (nI p).toNatClampNeg = p := nI_clamp (by omega)
  have ck : (nI k).toNatClampNeg = k := nI_clamp (by omega)
  have ip : vp_in (nI p) 220 := vp_in_nI hp (by decide)
  have ik : vp_in (nI k) 280 := vp_in_nI hk (by decide)
  have e0 : ∀ b, b < 25 → t ≠ b → ¬ nI t = nI b := fun b hb z y => z ((nI_eq (by omega) (by omega)).1 y)
  refine ey_go ha (fun K kk => ⟨ip, nm_r (e' := nI k) (by rw [cp]; exact eN) ⟨ik, nm_r (e' := nI t) (by rw [ck]; exact ho) ⟨ip, nm_r (e' := nI 0) (by rw [cp]; exact eP) ⟨ip, ip, nm_r (e' := upd sP p (nI 1)) (by rw [cp, eP, nI_1]) (br_f (e0 0 (by decide) h0) (br_f (e0 3 (by decide) h3) (br_f (e0 19 (by decide) h19) (br_f (e0 4 (by decide) h4) (br_t rfl ?_)))))⟩⟩⟩⟩) h
  rw [show nI k * 3 = nI (k * 3) from gr_mul k 3 rfl, nI_clamp (n := k * 3) (by omega)]
  exact ⟨vp_in_nI (by omega) (by decide), ey_down (p := p + 1) hp1 kk⟩
theorem yr_rd_nul (ha : ey_at sN sP s p l k ph) (ho : op k = 1) (hph : ¬ nI ph = 0) (hr : ret = -1) (h : ey_F Z ob tks pl nds res cls prp lit lsz fb tk tv opd rk rn op nm ay prt ylo yhi s (p + 1) l g ret out sN sP sX sK it vr) : ey_E Z ob tks pl nds res cls prp lit lsz fb tk tv opd rk rn op nm ay prt ylo yhi 2 (if l = 0 then ay k else out) g := by
  obtain ⟨hs, hp, hl, hk, eN, eP, hph1⟩ := id ha
  have cp : (nI p).toNatClampNeg = p := nI_clamp (by omega)
  have ck : (nI k).toNatClampNeg = k := nI_clamp (by omega)
  have ip : vp_in (nI p) 220 := vp_in_nI hp (by decide)
  have ik : vp_in (nI k) 280 := vp_in_nI hk (by decide)
  refine ey_ef (x := 2) (p' := p + 1) (ret' := ret) (out' := out) (sN' := sN) (sP' := upd sP p (nI (ph + 1))) (sX' := sX) (sK' := sK) (it' := it) (vr' := vr) ha (by decide) (fun K kk => ⟨ip, nm_r (e' := nI k) (by rw [cp]; exact eN) ⟨ik, nm_r (e' := 1) (by rw [ck]; exact ho) ⟨ip, nm_r (e' := nI ph) (by rw [cp]; exact eP) ⟨ip, ip, nm_r (e' := upd sP p (nI (ph + 1))) (by rw [cp, eP, nI_1]) (br_f (by decide) (br_f (by decide) (br_f (by decide) (br_f (by decide) (br_f hph (br_t rfl (?_)))))))⟩⟩⟩⟩) h
  refine ⟨ik, nm_e (br_f (by rw [hr]; decide) (br_t rfl (ey_error hl hk kk)))⟩
theorem yr_rd_saf (ha : ey_at sN sP s p l k ph) (ho : op k = 2) (hph : ¬ nI ph = 0) {q : Nat} (hq : q < 6) (en : nm k = nI q) (hr : ret = -1) (h : ey_F Z ob tks pl nds res cls prp lit lsz fb tk tv opd rk rn op nm ay prt ylo yhi s (p + 1) l g ret out sN sP sX sK it vr) : ey_F Z ob tks pl nds res cls prp lit lsz fb tk tv opd rk rn op nm ay prt ylo yhi (s + 1) p l g (if q < 3 then 0 else -1) out sN (upd sP p (nI (ph + 1))) sX sK it vr := by
  obtain ⟨hs, hp, hl, hk, eN, eP, hph1⟩ := id ha
  have cp : (nI p).toNatClampNeg = p := nI_clamp (by omega)
  have ck : (nI k).toNatClampNeg = k := nI_clamp (by omega)
  have ip : vp_in (nI p) 220 := vp_in_nI hp (by decide)
  have ik : vp_in (nI k) 280 := vp_in_nI hk (by decide)
  refine ey_go ha (fun K kk => ⟨ip, nm_r (e' := nI k) (by rw [cp]; exact eN) ⟨ik, nm_r (e' := 2) (by rw [ck]; exact ho) ⟨ip, nm_r (e' := nI ph) (by rw [cp]; exact eP) ⟨ip, ip, nm_r (e' := upd sP p (nI (ph + 1))) (by rw [cp, eP, nI_1]) (br_f (by decide) (br_f (by decide) (br_f (by decide) (br_f (by decide) (br_f hph (br_f (by decide) (br_t rfl (?_))))))))⟩⟩⟩⟩) h
  refine ⟨ik, nm_r (e' := nI q) (by rw [ck]; exact en) (br_f (by rw [hr]; decide) (br_f (by decide) (br_f (by rw [hr]; decide) ?_)))⟩
  by_cases h3 : q < 3
  · rw [if_pos h3] at kk
    exact br_f (nI_nlt (a := 2) (by omega) (by omega)) (ey_give kk)
  · rw [if_neg h3] at kk
    exact br_t (nI_lt (a := 2) (by omega) (by omega)) (ey_give kk)
theorem yr_rd_den1 (ha : ey_at sN sP s p l k ph) (ho : op k = 1) (hph : ¬ nI ph = 0) {q : Nat} (hq : q < 6) (en : nm k = nI q) {i cc : Nat} (hi8 : i < 8) (hr : ret = nI i) (hcc : cc < 3) (ec : cls i = nI cc) (hf : ¬ fb (cc * 6 + q) = 0) (h : ey_F Z ob tks pl nds res cls prp lit lsz fb tk tv opd rk rn op nm ay prt ylo yhi s (p + 1) l g ret out sN sP sX sK it vr) : ey_E Z ob tks pl nds res cls prp lit lsz fb tk tv opd rk rn op nm ay prt ylo yhi 3 (if l = 0 then ay k else out) g := by
  obtain ⟨hs, hp, hl, hk, eN, eP, hph1⟩ := id ha
  have cp : (nI p).toNatClampNeg = p := nI_clamp (by omega)
  have ck : (nI k).toNatClampNeg = k := nI_clamp (by omega)
  have ip : vp_in (nI p) 220 := vp_in_nI hp (by decide)
  have ik : vp_in (nI k) 280 := vp_in_nI hk (by decide)
  refine ey_ef (x := 3) (p' := p + 1) (ret' := ret) (out' := out) (sN' := sN) (sP' := upd sP p (nI (ph + 1))) (sX' := sX) (sK' := sK) (it' := it) (vr' := vr) ha (by decide) (fun K kk => ⟨ip, nm_r (e' := nI k) (by rw [cp]; exact eN) ⟨ik, nm_r (e' := 1) (by rw [ck]; exact ho) ⟨ip, nm_r (e' := nI ph) (by rw [cp]; exact eP) ⟨ip, ip, nm_r (e' := upd sP p (nI (ph + 1))) (by rw [cp, eP, nI_1]) (br_f (by decide) (br_f (by decide) (br_f (by decide) (br_f (by decide) (br_f hph (br_t rfl (?_)))))))⟩⟩⟩⟩) h
  have ci : (nI i).toNatClampNeg = i := nI_clamp (by omega)
  have e6 : cls (nI i).toNatClampNeg * 6 + nI q = nI (cc * 6 + q) := by rw [ci, ec]; exact gr_lin cc 6 q rfl rfl
  have r0 : 0 ≤ ret := by rw [hr]; exact nI_pos' (by omega)
  refine ⟨ik, nm_r (e' := nI q) (by rw [ck]; exact en) (br_t r0 (br_t r0 ?_))⟩
  rw [hr]
  rw [hr] at kk
  refine ⟨vp_in_nI hi8 (by decide), by rw [e6]; exact vp_in_nI (by omega) (by decide), br_f (by rw [e6, nI_clamp (by omega)]; exact hf) (ey_error hl hk kk)⟩
theorem yr_rd_ok1 (ha : ey_at sN sP s p l k ph) (ho : op k = 1) (hph : ¬ nI ph = 0) {q : Nat} (hq : q < 6) (en : nm k = nI q) {i cc : Nat} (hi8 : i < 8) (hr : ret = nI i) (hcc : cc < 3) (ec : cls i = nI cc) (hf : fb (cc * 6 + q) = 0) (h : ey_F Z ob tks pl nds res cls prp lit lsz fb tk tv opd rk rn op nm ay prt ylo yhi s (p + 1) l g ret out sN sP sX sK it vr) : ey_F Z ob tks pl nds res cls prp lit lsz fb tk tv opd rk rn op nm ay prt ylo yhi (s + 1) p l g (if q ≤ 3 then prp (i * 4 + q) else nI (i * 2 + q - 4)) out sN (upd sP p (nI (ph + 1))) sX sK it vr := by
  obtain ⟨hs, hp, hl, hk, eN, eP, hph1⟩ := id ha
  have cp : (nI p).toNatClampNeg = p := nI_clamp (by omega)
  have ck : (nI k).toNatClampNeg = k := nI_clamp (by omega)
  have ip : vp_in (nI p) 220 := vp_in_nI hp (by decide)
  have ik : vp_in (nI k) 280 := vp_in_nI hk (by decide)
  refine ey_go ha (fun K kk => ⟨ip, nm_r (e' := nI k) (by rw [cp]; exact eN) ⟨ik, nm_r (e' := 1) (by rw [ck]; exact ho) ⟨ip, nm_r (e' := nI ph) (by rw [cp]; exact eP) ⟨ip, ip, nm_r (e' := upd sP p (nI (ph + 1))) (by rw [cp, eP, nI_1]) (br_f (by decide) (br_f (by decide) (br_f (by decide) (br_f (by decide) (br_f hph (br_t rfl (?_)))))))⟩⟩⟩⟩) h
  have ci : (nI i).toNatClampNeg = i := nI_clamp (by omega)
  have e6 : cls (nI i).toNatClampNeg * 6 + nI q = nI (cc * 6 + q) := by rw [ci, ec]; exact gr_lin cc 6 q rfl rfl
  have r0 : 0 ≤ ret := by rw [hr]; exact nI_pos' (by omega)
  refine ⟨ik, nm_r (e' := nI q) (by rw [ck]; exact en) (br_t r0 (br_t r0 ?_))⟩
  rw [hr]
  refine ⟨vp_in_nI hi8 (by decide), by rw [e6]; exact vp_in_nI (by omega) (by decide), br_t (by rw [e6, nI_clamp (by omega)]; exact hf) ?_⟩
  by_cases h3 : q ≤ 3
  · rw [if_pos h3] at kk
    have e4 : nI i * 4 + nI q = nI (i * 4 + q) := gr_lin i 4 q rfl rfl
    refine br_f (nI_nlt (a := 3) (by omega) (by omega)) ⟨by rw [e4]; exact vp_in_nI (by omega) (by decide), ?_⟩
    rw [e4, nI_clamp (by omega)]
    exact ey_give kk
  · rw [if_neg h3] at kk
    refine br_t (nI_lt (a := 3) (by omega) (by omega)) ?_
    rw [gr_list i q (by omega)]
    exact ey_give kk
theorem yr_rd_den2 (ha : ey_at sN sP s p l k ph) (ho : op k = 2) (hph : ¬ nI ph = 0) {q : Nat} (hq : q < 6) (en : nm k = nI q) {i cc : Nat} (hi8 : i < 8) (hr : ret = nI i) (hcc : cc < 3) (ec : cls i = nI cc) (hf : ¬ fb (cc * 6 + q) = 0) (h : ey_F Z ob tks pl nds res cls prp lit lsz fb tk tv opd rk rn op nm ay prt ylo yhi s (p + 1) l g ret out sN sP sX sK it vr) : ey_E Z ob tks pl nds res cls prp lit lsz fb tk tv opd rk rn op nm ay prt ylo yhi 3 (if l = 0 then ay k else out) g := by
  obtain ⟨hs, hp, hl, hk, eN, eP, hph1⟩ := id ha
  have cp : (nI p).toNatClampNeg = p := nI_clamp (by omega)
  have ck : (nI k).toNatClampNeg = k := nI_clamp (by omega)
  have ip : vp_in (nI p) 220 := vp_in_nI hp (by decide)
  have ik : vp_in (nI k) 280 := vp_in_nI hk (by decide)
  refine ey_ef (x := 3) (p' := p + 1) (ret' := ret) (out' := out) (sN' := sN) (sP' := upd sP p (nI (ph + 1))) (sX' := sX) (sK' := sK) (it' := it) (vr' := vr) ha (by decide) (fun K kk => ⟨ip, nm_r (e' := nI k) (by rw [cp]; exact eN) ⟨ik, nm_r (e' := 2) (by rw [ck]; exact ho) ⟨ip, nm_r (e' := nI ph) (by rw [cp]; exact eP) ⟨ip, ip, nm_r (e' := upd sP p (nI (ph + 1))) (by rw [cp, eP, nI_1]) (br_f (by decide) (br_f (by decide) (br_f (by decide) (br_f (by decide) (br_f hph (br_f (by decide) (br_t rfl (?_))))))))⟩⟩⟩⟩) h
  have ci : (nI i).toNatClampNeg = i := nI_clamp (by omega)
  have e6 : cls (nI i).toNatClampNeg * 6 + nI q = nI (cc * 6 + q) := by rw [ci, ec]; exact gr_lin cc 6 q rfl rfl
  have r0 : 0 ≤ ret := by rw [hr]; exact nI_pos' (by omega)
  refine ⟨ik, nm_r (e' := nI q) (by rw [ck]; exact en) (br_t r0 (br_t r0 ?_))⟩
  rw [hr]
  rw [hr] at kk
  refine ⟨vp_in_nI hi8 (by decide), by rw [e6]; exact vp_in_nI (by omega) (by decide), br_f (by rw [e6, nI_clamp (by omega)]; exact hf) (ey_error hl hk kk)⟩
theorem yr_rd_ok2 (ha : ey_at sN sP s p l k ph) (ho : op k = 2) (hph : ¬ nI ph = 0) {q : Nat} (hq : q < 6) (en : nm k = nI q) {i cc : Nat} (hi8 : i < 8) (hr : ret = nI i) (hcc : cc < 3) (ec : cls i = nI cc) (hf : fb (cc * 6 + q) = 0) (h : ey_F Z ob tks pl nds res cls prp lit lsz fb tk tv opd rk rn op nm ay prt ylo yhi s (p + 1) l g ret out sN sP sX sK it vr) : ey_F Z ob tks pl nds res cls prp lit lsz fb tk tv opd rk rn op nm ay prt ylo yhi (s + 1) p l g (if q ≤ 3 then prp (i * 4 + q) else nI (i * 2 + q - 4)) out sN (upd sP p (nI (ph + 1))) sX sK it vr := by
  obtain ⟨hs, hp, hl, hk, eN, eP, hph1⟩ := id ha
  have cp : (nI p).toNatClampNeg = p := nI_clamp (by omega)
  have ck : (nI k).toNatClampNeg = k := nI_clamp (by omega)
  have ip : vp_in (nI p) 220 := vp_in_nI hp (by decide)
  have ik : vp_in (nI k) 280 := vp_in_nI hk (by decide)
  refine ey_go ha (fun K kk => ⟨ip, nm_r (e' := nI k) (by rw [cp]; exact eN) ⟨ik, nm_r (e' := 2) (by rw [ck]; exact ho) ⟨ip, nm_r (e' := nI ph) (by rw [cp]; exact eP) ⟨ip, ip, nm_r (e' := upd sP p (nI (ph + 1))) (by rw [cp, eP, nI_1]) (br_f (by decide) (br_f (by decide) (br_f (by decide) (br_f (by decide) (br_f hph (br_f (by decide) (br_t rfl (?_))))))))⟩⟩⟩⟩) h
  have ci : (nI i).toNatClampNeg = i := nI_clamp (by omega)
  have e6 : cls (nI i).toNatClampNeg * 6 + nI q = nI (cc * 6 + q) := by rw [ci, ec]; exact gr_lin cc 6 q rfl rfl
  have r0 : 0 ≤ ret := by rw [hr]; exact nI_pos' (by omega)
  refine ⟨ik, nm_r (e' := nI q) (by rw [ck]; exact en) (br_t r0 (br_t r0 ?_))⟩
  rw [hr]
  refine ⟨vp_in_nI hi8 (by decide), by rw [e6]; exact vp_in_nI (by omega) (by decide), br_t (by rw [e6, nI_clamp (by omega)]; exact hf) ?_⟩
  by_cases h3 : q ≤ 3
  · rw [if_pos h3] at kk
    have e4 : nI i * 4 + nI q = nI (i * 4 + q) := gr_lin i 4 q rfl rfl
    refine br_f (nI_nlt (a := 3) (by omega) (by omega)) ⟨by rw [e4]; exact vp_in_nI (by omega) (by decide), ?_⟩
    rw [e4, nI_clamp (by omega)]
    exact ey_give kk
  · rw [if_neg h3] at kk
    refine br_t (nI_lt (a := 3) (by omega) (by omega)) ?_
    rw [gr_list i q (by omega)]
    exact ey_give kk
theorem yr_neg (ha : ey_at sN sP s p l k ph) (ho : op k = 23) (hph : ¬ nI ph = 0)  (h : ey_F Z ob tks pl nds res cls prp lit lsz fb tk tv opd rk rn op nm ay prt ylo yhi s (p + 1) l g ret out sN sP sX sK it vr) : ey_F Z ob tks pl nds res cls prp lit lsz fb tk tv opd rk rn op nm ay prt ylo yhi (s + 1) p l g (-ret) out sN (upd sP p (nI (ph + 1))) sX sK it vr := by
  obtain ⟨hs, hp, hl, hk, eN, eP, hph1⟩ := id ha
  have cp : (nI p).toNatClampNeg = p := nI_clamp (by omega)
  have ck : (nI k).toNatClampNeg = k := nI_clamp (by omega)
  have ip : vp_in (nI p) 220 := vp_in_nI hp (by decide)
  have ik : vp_in (nI k) 280 := vp_in_nI hk (by decide)
  refine ey_go ha (fun K kk => ⟨ip, nm_r (e' := nI k) (by rw [cp]; exact eN) ⟨ik, nm_r (e' := 23) (by rw [ck]; exact ho) ⟨ip, nm_r (e' := nI ph) (by rw [cp]; exact eP) ⟨ip, ip, nm_r (e' := upd sP p (nI (ph + 1))) (by rw [cp, eP, nI_1]) (br_f (by decide) (br_f (by decide) (br_f (by decide) (br_f (by decide) (br_f hph (br_f (by decide) (br_f (by decide) (br_t rfl (?_)))))))))⟩⟩⟩⟩) h
  exact br_t rfl (ey_give kk)
theorem yr_not (ha : ey_at sN sP s p l k ph) (ho : op k = 12) (hph : ¬ nI ph = 0)  (h : ey_F Z ob tks pl nds res cls prp lit lsz fb tk tv opd rk rn op nm ay prt ylo yhi s (p + 1) l g ret out sN sP sX sK it vr) : ey_F Z ob tks pl nds res cls prp lit lsz fb tk tv opd rk rn op nm ay prt ylo yhi (s + 1) p l g (1 - ret) out sN (upd sP p (nI (ph + 1))) sX sK it vr := by
  obtain ⟨hs, hp, hl, hk, eN, eP, hph1⟩ := id ha
  have cp : (nI p).toNatClampNeg = p := nI_clamp (by omega)
  have ck : (nI k).toNatClampNeg = k := nI_clamp (by omega)
  have ip : vp_in (nI p) 220 := vp_in_nI hp (by decide)
  have ik : vp_in (nI k) 280 := vp_in_nI hk (by decide)
  refine ey_go ha (fun K kk => ⟨ip, nm_r (e' := nI k) (by rw [cp]; exact eN) ⟨ik, nm_r (e' := 12) (by rw [ck]; exact ho) ⟨ip, nm_r (e' := nI ph) (by rw [cp]; exact eP) ⟨ip, ip, nm_r (e' := upd sP p (nI (ph + 1))) (by rw [cp, eP, nI_1]) (br_f (by decide) (br_f (by decide) (br_f (by decide) (br_f (by decide) (br_f hph (br_f (by decide) (br_f (by decide) (br_f (by decide) (br_t rfl (?_))))))))))⟩⟩⟩⟩) h
  exact br_f (by decide) (ey_give kk)
theorem yr_cl_ret (ha : ey_at sN sP s p l k ph) (ho : op k = 5) (hphe : ph = 2) (hl1 : 1 ≤ l) (h : ey_F Z ob tks pl nds res cls prp lit lsz fb tk tv opd rk rn op nm ay prt ylo yhi s (p + 1) l g ret out sN sP sX sK it vr) : ey_F Z ob tks pl nds res cls prp lit lsz fb tk tv opd rk rn op nm ay prt ylo yhi (s + 1) p (l - 1) g ret out sN (upd sP p (nI (ph + 1))) sX sK it vr := by
  obtain ⟨hs, hp, hl, hk, eN, eP, hph1⟩ := id ha
  have cp : (nI p).toNatClampNeg = p := nI_clamp (by omega)
  have ck : (nI k).toNatClampNeg = k := nI_clamp (by omega)
  have ip : vp_in (nI p) 220 := vp_in_nI hp (by decide)
  have ik : vp_in (nI k) 280 := vp_in_nI hk (by decide)
  have hph : ¬ nI ph = 0 := by subst hphe; decide
  refine ey_go ha (fun K kk => ⟨ip, nm_r (e' := nI k) (by rw [cp]; exact eN) ⟨ik, nm_r (e' := 5) (by rw [ck]; exact ho) ⟨ip, nm_r (e' := nI ph) (by rw [cp]; exact eP) ⟨ip, ip, nm_r (e' := upd sP p (nI (ph + 1))) (by rw [cp, eP, nI_1]) (br_f (by decide) (br_f (by decide) (br_f (by decide) (br_f (by decide) (br_f hph (br_f (by decide) (br_f (by decide) (br_f (by decide) (br_f (by decide) (br_t rfl (?_)))))))))))⟩⟩⟩⟩) h
  obtain ⟨e, rfl⟩ : ∃ e, l = e + 1 := ⟨l - 1, by omega⟩
  exact br_t (by rw [hphe]; rfl) (nm_r (nI_pred e) (ey_give kk))
theorem yr_cl_nul (ha : ey_at sN sP s p l k ph) (ho : op k = 5) (hphe : ph = 1) (hr : ret = -1) (h : ey_F Z ob tks pl nds res cls prp lit lsz fb tk tv opd rk rn op nm ay prt ylo yhi s (p + 1) l g ret out sN sP sX sK it vr) : ey_E Z ob tks pl nds res cls prp lit lsz fb tk tv opd rk rn op nm ay prt ylo yhi 2 (if l = 0 then ay k else out) g := by
  obtain ⟨hs, hp, hl, hk, eN, eP, hph1⟩ := id ha
  have cp : (nI p).toNatClampNeg = p := nI_clamp (by omega)
  have ck : (nI k).toNatClampNeg = k := nI_clamp (by omega)
  have ip : vp_in (nI p) 220 := vp_in_nI hp (by decide)
  have ik : vp_in (nI k) 280 := vp_in_nI hk (by decide)
  have hph : ¬ nI ph = 0 := by subst hphe; decide
  refine ey_ef (x := 2) (p' := p + 1) (ret' := ret) (out' := out) (sN' := sN) (sP' := upd sP p (nI (ph + 1))) (sX' := sX) (sK' := sK) (it' := it) (vr' := vr) ha (by decide) (fun K kk => ⟨ip, nm_r (e' := nI k) (by rw [cp]; exact eN) ⟨ik, nm_r (e' := 5) (by rw [ck]; exact ho) ⟨ip, nm_r (e' := nI ph) (by rw [cp]; exact eP) ⟨ip, ip, nm_r (e' := upd sP p (nI (ph + 1))) (by rw [cp, eP, nI_1]) (br_f (by decide) (br_f (by decide) (br_f (by decide) (br_f (by decide) (br_f hph (br_f (by decide) (br_f (by decide) (br_f (by decide) (br_f (by decide) (br_t rfl (?_)))))))))))⟩⟩⟩⟩) h
  exact br_f (by rw [hphe]; decide) (br_f (by rw [hr]; decide) (ey_error hl hk kk))
theorem yr_cl_deep (ha : ey_at sN sP s p l k ph) (ho : op k = 5) (hphe : ph = 1) {i : Nat} (hi8 : i < 8) (hr : ret = nI i) (hl4 : l = 4) (h : ey_F Z ob tks pl nds res cls prp lit lsz fb tk tv opd rk rn op nm ay prt ylo yhi s (p + 1) l g ret out sN sP sX sK it vr) : ey_E Z ob tks pl nds res cls prp lit lsz fb tk tv opd rk rn op nm ay prt ylo yhi 5 (if l = 0 then ay k else out) g := by
  obtain ⟨hs, hp, hl, hk, eN, eP, hph1⟩ := id ha
  have cp : (nI p).toNatClampNeg = p := nI_clamp (by omega)
  have ck : (nI k).toNatClampNeg = k := nI_clamp (by omega)
  have ip : vp_in (nI p) 220 := vp_in_nI hp (by decide)
  have ik : vp_in (nI k) 280 := vp_in_nI hk (by decide)
  have hph : ¬ nI ph = 0 := by subst hphe; decide
  refine ey_ef (x := 5) (p' := p + 1) (ret' := ret) (out' := out) (sN' := sN) (sP' := upd sP p (nI (ph + 1))) (sX' := sX) (sK' := sK) (it' := it) (vr' := vr) ha (by decide) (fun K kk => ⟨ip, nm_r (e' := nI k) (by rw [cp]; exact eN) ⟨ik, nm_r (e' := 5) (by rw [ck]; exact ho) ⟨ip, nm_r (e' := nI ph) (by rw [cp]; exact eP) ⟨ip, ip, nm_r (e' := upd sP p (nI (ph + 1))) (by rw [cp, eP, nI_1]) (br_f (by decide) (br_f (by decide) (br_f (by decide) (br_f (by decide) (br_f hph (br_f (by decide) (br_f (by decide) (br_f (by decide) (br_f (by decide) (br_t rfl (?_)))))))))))⟩⟩⟩⟩) h
  exact br_f (by rw [hphe]; decide) (br_t (by rw [hr]; exact nI_pos' (by omega)) (br_t (by rw [hl4]; rfl) (ey_error hl hk kk)))
theorem yr_cl_stop (ha : ey_at sN sP s p l k ph) (ho : op k = 5) (hphe : ph = 1) {i : Nat} (hi8 : i < 8) (hr : ret = nI i) (hl4 : l < 4) (hg : g = 40) (h : ey_F Z ob tks pl nds res cls prp lit lsz fb tk tv opd rk rn op nm ay prt ylo yhi s (p + 1) l g ret out sN sP sX sK it vr) : ey_E Z ob tks pl nds res cls prp lit lsz fb tk tv opd rk rn op nm ay prt ylo yhi 6 (if l = 0 then ay k else out) g := by
  obtain ⟨hs, hp, hl, hk, eN, eP, hph1⟩ := id ha
  have cp : (nI p).toNatClampNeg = p := nI_clamp (by omega)
  have ck : (nI k).toNatClampNeg = k := nI_clamp (by omega)
  have ip : vp_in (nI p) 220 := vp_in_nI hp (by decide)
  have ik : vp_in (nI k) 280 := vp_in_nI hk (by decide)
  have hph : ¬ nI ph = 0 := by subst hphe; decide
  refine ey_ef (x := 6) (p' := p + 1) (ret' := ret) (out' := out) (sN' := sN) (sP' := upd sP p (nI (ph + 1))) (sX' := sX) (sK' := sK) (it' := it) (vr' := vr) ha (by decide) (fun K kk => ⟨ip, nm_r (e' := nI k) (by rw [cp]; exact eN) ⟨ik, nm_r (e' := 5) (by rw [ck]; exact ho) ⟨ip, nm_r (e' := nI ph) (by rw [cp]; exact eP) ⟨ip, ip, nm_r (e' := upd sP p (nI (ph + 1))) (by rw [cp, eP, nI_1]) (br_f (by decide) (br_f (by decide) (br_f (by decide) (br_f (by decide) (br_f hph (br_f (by decide) (br_f (by decide) (br_f (by decide) (br_f (by decide) (br_t rfl (?_)))))))))))⟩⟩⟩⟩) h
  refine br_f (by rw [hphe]; decide) (br_t (by rw [hr]; exact nI_pos' (by omega)) (br_f (fun z => absurd ((nI_eq (b := 4) (by omega) (by decide)).1 z) (by omega)) (ey_unit0 hl hk hg ?_)))
  exact br_t rfl kk
theorem yr_cl_ok (ha : ey_at sN sP s p l k ph) (ho : op k = 5) (hphe : ph = 1) {i : Nat} (hi8 : i < 8) (hr : ret = nI i) (hl4 : l < 4) (hg : g < 40) {r : Nat} (hr6 : r < 6) (en : nm k = nI r) (hp1 : p + 1 < 220) (h : ey_F Z ob tks pl nds res cls prp lit lsz fb tk tv opd rk rn op nm ay prt ylo yhi s (p + 1) l g ret out sN sP sX sK it vr) : ey_F Z ob tks pl nds res cls prp lit lsz fb tk tv opd rk rn op nm ay prt ylo yhi (s + 1) (p + 2) (l + 1) (g + 1) ret (if l = 0 then ay k else out) (upd sN (p + 1) (nI (r * 40))) (upd (upd sP p (nI (ph + 1))) (p + 1) 0) sX sK (upd it (l + 1) ret) vr := by
  obtain ⟨hs, hp, hl, hk, eN, eP, hph1⟩ := id ha
  have cp : (nI p).toNatClampNeg = p := nI_clamp (by omega)
  have ck : (nI k).toNatClampNeg = k := nI_clamp (by omega)
  have ip : vp_in (nI p) 220 := vp_in_nI hp (by decide)
  have ik : vp_in (nI k) 280 := vp_in_nI hk (by decide)
  have hph : ¬ nI ph = 0 := by subst hphe; decide
  refine ey_go ha (fun K kk => ⟨ip, nm_r (e' := nI k) (by rw [cp]; exact eN) ⟨ik, nm_r (e' := 5) (by rw [ck]; exact ho) ⟨ip, nm_r (e' := nI ph) (by rw [cp]; exact eP) ⟨ip, ip, nm_r (e' := upd sP p (nI (ph + 1))) (by rw [cp, eP, nI_1]) (br_f (by decide) (br_f (by decide) (br_f (by decide) (br_f (by decide) (br_f hph (br_f (by decide) (br_f (by decide) (br_f (by decide) (br_f (by decide) (br_t rfl (?_)))))))))))⟩⟩⟩⟩) h
  refine br_f (by rw [hphe]; decide) (br_t (by rw [hr]; exact nI_pos' (by omega)) (br_f (fun z => absurd ((nI_eq (b := 4) (by omega) (by decide)).1 z) (by omega)) (ey_unit1 hg ?_)))
  refine br_f (by decide) ?_
  have nx : ∀ out', K (ob, tks, pl, nds, 1, res, (-1), nI (g + 1), nI (p + 2), nI (l + 1), ret, out', cls, prp, lit, lsz, fb, tk, tv, opd, rk, rn, op, nm, ay, prt, ylo, yhi, upd sN (p + 1) (nI (r * 40)), upd (upd sP p (nI (ph + 1))) (p + 1) 0, sX, sK, upd it (l + 1) ret, vr) → wY_call_82 K (nI k) ob tks pl nds (1) res ((-1)) (nI (g + 1)) (nI (p + 1)) (nI l) ret (out') (cls) prp (lit) (lsz) (fb) (tk) (tv) opd (rk) rn op nm ay prt ylo yhi sN (upd sP p (nI (ph + 1))) sX sK it vr := by
    intro out' kk
    refine nm_r (nI_1 l) ⟨vp_in_nI (by omega) (by decide), nm_r (by rw [nI_clamp (by omega)]) ⟨ik, ?_⟩⟩
    rw [ck, en, show nI r * 40 = nI (r * 40) from gr_mul r 40 rfl]
    exact ey_down (p := p + 1) hp1 kk
  by_cases z : l = 0
  · rw [if_pos z] at kk
    exact br_t (by rw [z]; rfl) ⟨ik, nm_r (by rw [ck]) (nx _ kk)⟩
  · rw [if_neg z] at kk
    exact br_f (nI_ne0 (by omega) (by omega)) (nx _ kk)
end
