section
variable {Z : (Int32 → SY → Prop) → Prop} {ob tks pl nds res ret out : Int32} {cls prp lit lsz fb tk tv opd rk rn op nm ay prt ylo yhi sN sP sX sK it vr : Nat → Int32} {s p l g k ph : Nat}
theorem yr_ch8 (ha : ey_at sN sP s p l k ph) (ho : op k = 8) (hphe : ph = 2)  (h : ey_F Z ob tks pl nds res cls prp lit lsz fb tk tv opd rk rn op nm ay prt ylo yhi s (p + 1) l g ret out sN sP sX sK it vr) : ey_F Z ob tks pl nds res cls prp lit lsz fb tk tv opd rk rn op nm ay prt ylo yhi (s + 1) p l g ret out sN (upd sP p (nI (ph + 1))) sX sK it vr := by
  obtain ⟨hs, hp, hl, hk, eN, eP, hph1⟩ := id ha
  have cp : (nI p).toNatClampNeg = p := nI_clamp (by omega)
  have ck : (nI k).toNatClampNeg = k := nI_clamp (by omega)
  have ip : vp_in (nI p) 220 := vp_in_nI hp (by decide)
  have ik : vp_in (nI k) 280 := vp_in_nI hk (by decide)
  have hph : ¬ nI ph = 0 := by subst hphe; decide
  refine ey_go ha (fun K kk => ⟨ip, nm_r (e' := nI k) (by rw [cp]; exact eN) ⟨ik, nm_r (e' := 8) (by rw [ck]; exact ho) ⟨ip, nm_r (e' := nI ph) (by rw [cp]; exact eP) ⟨ip, ip, nm_r (e' := upd sP p (nI (ph + 1))) (by rw [cp, eP, nI_1]) (br_f (by decide) (br_f (by decide) (br_f (by decide) (br_f (by decide) (br_f hph (br_f (by decide) (br_f (by decide) (br_f (by decide) (br_f (by decide) (br_f (by decide) (br_t (by decide) (br_t rfl (?_)))))))))))))⟩⟩⟩⟩) h
  exact br_t (by rw [hphe]; rfl) (ey_give kk)
theorem yr_ch10 (ha : ey_at sN sP s p l k ph) (ho : op k = 10) (hphe : ph = 2)  (h : ey_F Z ob tks pl nds res cls prp lit lsz fb tk tv opd rk rn op nm ay prt ylo yhi s (p + 1) l g ret out sN sP sX sK it vr) : ey_F Z ob tks pl nds res cls prp lit lsz fb tk tv opd rk rn op nm ay prt ylo yhi (s + 1) p l g ret out sN (upd sP p (nI (ph + 1))) sX sK it vr := by
  obtain ⟨hs, hp, hl, hk, eN, eP, hph1⟩ := id ha
  have cp : (nI p).toNatClampNeg = p := nI_clamp (by omega)
  have ck : (nI k).toNatClampNeg = k := nI_clamp (by omega)
  have ip : vp_in (nI p) 220 := vp_in_nI hp (by decide)
  have ik : vp_in (nI k) 280 := vp_in_nI hk (by decide)
  have hph : ¬ nI ph = 0 := by subst hphe; decide
  refine ey_go ha (fun K kk => ⟨ip, nm_r (e' := nI k) (by rw [cp]; exact eN) ⟨ik, nm_r (e' := 10) (by rw [ck]; exact ho) ⟨ip, nm_r (e' := nI ph) (by rw [cp]; exact eP) ⟨ip, ip, nm_r (e' := upd sP p (nI (ph + 1))) (by rw [cp, eP, nI_1]) (br_f (by decide) (br_f (by decide) (br_f (by decide) (br_f (by decide) (br_f hph (br_f (by decide) (br_f (by decide) (br_f (by decide) (br_f (by decide) (br_f (by decide) (br_t (by decide) (br_f (by decide) (br_f (by decide) (br_t rfl (?_)))))))))))))))⟩⟩⟩⟩) h
  exact br_t (by rw [hphe]; rfl) (ey_give kk)
theorem yr_ch11 (ha : ey_at sN sP s p l k ph) (ho : op k = 11) (hphe : ph = 2)  (h : ey_F Z ob tks pl nds res cls prp lit lsz fb tk tv opd rk rn op nm ay prt ylo yhi s (p + 1) l g ret out sN sP sX sK it vr) : ey_F Z ob tks pl nds res cls prp lit lsz fb tk tv opd rk rn op nm ay prt ylo yhi (s + 1) p l g ret out sN (upd sP p (nI (ph + 1))) sX sK it vr := by
  obtain ⟨hs, hp, hl, hk, eN, eP, hph1⟩ := id ha
  have cp : (nI p).toNatClampNeg = p := nI_clamp (by omega)
  have ck : (nI k).toNatClampNeg = k := nI_clamp (by omega)
  have ip : vp_in (nI p) 220 := vp_in_nI hp (by decide)
  have ik : vp_in (nI k) 280 := vp_in_nI hk (by decide)
  have hph : ¬ nI ph = 0 := by subst hphe; decide
  refine ey_go ha (fun K kk => ⟨ip, nm_r (e' := nI k) (by rw [cp]; exact eN) ⟨ik, nm_r (e' := 11) (by rw [ck]; exact ho) ⟨ip, nm_r (e' := nI ph) (by rw [cp]; exact eP) ⟨ip, ip, nm_r (e' := upd sP p (nI (ph + 1))) (by rw [cp, eP, nI_1]) (br_f (by decide) (br_f (by decide) (br_f (by decide) (br_f (by decide) (br_f hph (br_f (by decide) (br_f (by decide) (br_f (by decide) (br_f (by decide) (br_f (by decide) (br_t (by decide) (br_f (by decide) (br_t rfl (?_))))))))))))))⟩⟩⟩⟩) h
  exact br_t (by rw [hphe]; rfl) (ey_give kk)
theorem yr_if1 (ha : ey_at sN sP s p l k ph) (ho : op k = 8) (hphe : ph = 1) (hp1 : p + 1 < 220) (hr : ret = 1) (h : ey_F Z ob tks pl nds res cls prp lit lsz fb tk tv opd rk rn op nm ay prt ylo yhi s (p + 1) l g ret out sN sP sX sK it vr) : ey_F Z ob tks pl nds res cls prp lit lsz fb tk tv opd rk rn op nm ay prt ylo yhi (s + 1) (p + 2) l g ret out (upd sN (p + 1) (prt (k * 3 + 1))) (upd (upd sP p (nI (ph + 1))) (p + 1) 0) sX sK it vr := by
  obtain ⟨hs, hp, hl, hk, eN, eP, hph1⟩ := id ha
  have cp : (nI p).toNatClampNeg = p := nI_clamp (by omega)
  have ck : (nI k).toNatClampNeg = k := nI_clamp (by omega)
  have ip : vp_in (nI p) 220 := vp_in_nI hp (by decide)
  have ik : vp_in (nI k) 280 := vp_in_nI hk (by decide)
  have hph : ¬ nI ph = 0 := by subst hphe; decide
  refine ey_go ha (fun K kk => ⟨ip, nm_r (e' := nI k) (by rw [cp]; exact eN) ⟨ik, nm_r (e' := 8) (by rw [ck]; exact ho) ⟨ip, nm_r (e' := nI ph) (by rw [cp]; exact eP) ⟨ip, ip, nm_r (e' := upd sP p (nI (ph + 1))) (by rw [cp, eP, nI_1]) (br_f (by decide) (br_f (by decide) (br_f (by decide) (br_f (by decide) (br_f hph (br_f (by decide) (br_f (by decide) (br_f (by decide) (br_f (by decide) (br_f (by decide) (br_t (by decide) (br_t rfl (?_)))))))))))))⟩⟩⟩⟩) h
  refine br_f (by rw [hphe]; decide) (br_t rfl (br_t hr ?_))
  rw [show nI k * 3 + 1 = nI (k * 3 + 1) from gr_lin k 3 1 rfl rfl, nI_clamp (n := k * 3 + 1) (by omega)]
  exact ⟨vp_in_nI (by omega) (by decide), ey_down (p := p + 1) hp1 kk⟩
theorem yr_if0 (ha : ey_at sN sP s p l k ph) (ho : op k = 8) (hphe : ph = 1) (hp1 : p + 1 < 220) (hr : ¬ ret = 1) (h : ey_F Z ob tks pl nds res cls prp lit lsz fb tk tv opd rk rn op nm ay prt ylo yhi s (p + 1) l g ret out sN sP sX sK it vr) : ey_F Z ob tks pl nds res cls prp lit lsz fb tk tv opd rk rn op nm ay prt ylo yhi (s + 1) (p + 2) l g ret out (upd sN (p + 1) (prt (k * 3 + 2))) (upd (upd sP p (nI (ph + 1))) (p + 1) 0) sX sK it vr := by
  obtain ⟨hs, hp, hl, hk, eN, eP, hph1⟩ := id ha
  have cp : (nI p).toNatClampNeg = p := nI_clamp (by omega)
  have ck : (nI k).toNatClampNeg = k := nI_clamp (by omega)
  have ip : vp_in (nI p) 220 := vp_in_nI hp (by decide)
  have ik : vp_in (nI k) 280 := vp_in_nI hk (by decide)
  have hph : ¬ nI ph = 0 := by subst hphe; decide
  refine ey_go ha (fun K kk => ⟨ip, nm_r (e' := nI k) (by rw [cp]; exact eN) ⟨ik, nm_r (e' := 8) (by rw [ck]; exact ho) ⟨ip, nm_r (e' := nI ph) (by rw [cp]; exact eP) ⟨ip, ip, nm_r (e' := upd sP p (nI (ph + 1))) (by rw [cp, eP, nI_1]) (br_f (by decide) (br_f (by decide) (br_f (by decide) (br_f (by decide) (br_f hph (br_f (by decide) (br_f (by decide) (br_f (by decide) (br_f (by decide) (br_f (by decide) (br_t (by decide) (br_t rfl (?_)))))))))))))⟩⟩⟩⟩) h
  refine br_f (by rw [hphe]; decide) (br_t rfl (br_f hr ?_))
  rw [show nI k * 3 + 2 = nI (k * 3 + 2) from gr_lin k 3 2 rfl rfl, nI_clamp (n := k * 3 + 2) (by omega)]
  exact ⟨vp_in_nI (by omega) (by decide), ey_down (p := p + 1) hp1 kk⟩
theorem yr_and0 (ha : ey_at sN sP s p l k ph) (ho : op k = 11) (hphe : ph = 1) (hr : ret = 0) (h : ey_F Z ob tks pl nds res cls prp lit lsz fb tk tv opd rk rn op nm ay prt ylo yhi s (p + 1) l g ret out sN sP sX sK it vr) : ey_F Z ob tks pl nds res cls prp lit lsz fb tk tv opd rk rn op nm ay prt ylo yhi (s + 1) p l g ret out sN (upd sP p (nI (ph + 1))) sX sK it vr := by
  obtain ⟨hs, hp, hl, hk, eN, eP, hph1⟩ := id ha
  have cp : (nI p).toNatClampNeg = p := nI_clamp (by omega)
  have ck : (nI k).toNatClampNeg = k := nI_clamp (by omega)
  have ip : vp_in (nI p) 220 := vp_in_nI hp (by decide)
  have ik : vp_in (nI k) 280 := vp_in_nI hk (by decide)
  have hph : ¬ nI ph = 0 := by subst hphe; decide
  refine ey_go ha (fun K kk => ⟨ip, nm_r (e' := nI k) (by rw [cp]; exact eN) ⟨ik, nm_r (e' := 11) (by rw [ck]; exact ho) ⟨ip, nm_r (e' := nI ph) (by rw [cp]; exact eP) ⟨ip, ip, nm_r (e' := upd sP p (nI (ph + 1))) (by rw [cp, eP, nI_1]) (br_f (by decide) (br_f (by decide) (br_f (by decide) (br_f (by decide) (br_f hph (br_f (by decide) (br_f (by decide) (br_f (by decide) (br_f (by decide) (br_f (by decide) (br_t (by decide) (br_f (by decide) (br_t rfl (?_))))))))))))))⟩⟩⟩⟩) h
  exact br_f (by rw [hphe]; decide) (br_f (by decide) (br_t rfl (br_t hr (ey_give kk))))
theorem yr_and1 (ha : ey_at sN sP s p l k ph) (ho : op k = 11) (hphe : ph = 1) (hp1 : p + 1 < 220) (hr : ¬ ret = 0) (h : ey_F Z ob tks pl nds res cls prp lit lsz fb tk tv opd rk rn op nm ay prt ylo yhi s (p + 1) l g ret out sN sP sX sK it vr) : ey_F Z ob tks pl nds res cls prp lit lsz fb tk tv opd rk rn op nm ay prt ylo yhi (s + 1) (p + 2) l g ret out (upd sN (p + 1) (prt (k * 3 + 1))) (upd (upd sP p (nI (ph + 1))) (p + 1) 0) sX sK it vr := by
  obtain ⟨hs, hp, hl, hk, eN, eP, hph1⟩ := id ha
  have cp : (nI p).toNatClampNeg = p := nI_clamp (by omega)
  have ck : (nI k).toNatClampNeg = k := nI_clamp (by omega)
  have ip : vp_in (nI p) 220 := vp_in_nI hp (by decide)
  have ik : vp_in (nI k) 280 := vp_in_nI hk (by decide)
  have hph : ¬ nI ph = 0 := by subst hphe; decide
  refine ey_go ha (fun K kk => ⟨ip, nm_r (e' := nI k) (by rw [cp]; exact eN) ⟨ik, nm_r (e' := 11) (by rw [ck]; exact ho) ⟨ip, nm_r (e' := nI ph) (by rw [cp]; exact eP) ⟨ip, ip, nm_r (e' := upd sP p (nI (ph + 1))) (by rw [cp, eP, nI_1]) (br_f (by decide) (br_f (by decide) (br_f (by decide) (br_f (by decide) (br_f hph (br_f (by decide) (br_f (by decide) (br_f (by decide) (br_f (by decide) (br_f (by decide) (br_t (by decide) (br_f (by decide) (br_t rfl (?_))))))))))))))⟩⟩⟩⟩) h
  refine br_f (by rw [hphe]; decide) (br_f (by decide) (br_t rfl (br_f hr ?_)))
  rw [show nI k * 3 + 1 = nI (k * 3 + 1) from gr_lin k 3 1 rfl rfl, nI_clamp (n := k * 3 + 1) (by omega)]
  exact ⟨vp_in_nI (by omega) (by decide), ey_down (p := p + 1) hp1 kk⟩
theorem yr_or1 (ha : ey_at sN sP s p l k ph) (ho : op k = 10) (hphe : ph = 1) (hr : ret = 1) (h : ey_F Z ob tks pl nds res cls prp lit lsz fb tk tv opd rk rn op nm ay prt ylo yhi s (p + 1) l g ret out sN sP sX sK it vr) : ey_F Z ob tks pl nds res cls prp lit lsz fb tk tv opd rk rn op nm ay prt ylo yhi (s + 1) p l g ret out sN (upd sP p (nI (ph + 1))) sX sK it vr := by
  obtain ⟨hs, hp, hl, hk, eN, eP, hph1⟩ := id ha
  have cp : (nI p).toNatClampNeg = p := nI_clamp (by omega)
  have ck : (nI k).toNatClampNeg = k := nI_clamp (by omega)
  have ip : vp_in (nI p) 220 := vp_in_nI hp (by decide)
  have ik : vp_in (nI k) 280 := vp_in_nI hk (by decide)
  have hph : ¬ nI ph = 0 := by subst hphe; decide
  refine ey_go ha (fun K kk => ⟨ip, nm_r (e' := nI k) (by rw [cp]; exact eN) ⟨ik, nm_r (e' := 10) (by rw [ck]; exact ho) ⟨ip, nm_r (e' := nI ph) (by rw [cp]; exact eP) ⟨ip, ip, nm_r (e' := upd sP p (nI (ph + 1))) (by rw [cp, eP, nI_1]) (br_f (by decide) (br_f (by decide) (br_f (by decide) (br_f (by decide) (br_f hph (br_f (by decide) (br_f (by decide) (br_f (by decide) (br_f (by decide) (br_f (by decide) (br_t (by decide) (br_f (by decide) (br_f (by decide) (br_t rfl (?_)))))))))))))))⟩⟩⟩⟩) h
  exact br_f (by rw [hphe]; decide) (br_f (by decide) (br_f (by decide) (br_t hr (ey_give kk))))
theorem yr_or0 (ha : ey_at sN sP s p l k ph) (ho : op k = 10) (hphe : ph = 1) (hp1 : p + 1 < 220) (hr : ¬ ret = 1) (h : ey_F Z ob tks pl nds res cls prp lit lsz fb tk tv opd rk rn op nm ay prt ylo yhi s (p + 1) l g ret out sN sP sX sK it vr) : ey_F Z ob tks pl nds res cls prp lit lsz fb tk tv opd rk rn op nm ay prt ylo yhi (s + 1) (p + 2) l g ret out (upd sN (p + 1) (prt (k * 3 + 1))) (upd (upd sP p (nI (ph + 1))) (p + 1) 0) sX sK it vr := by
  obtain ⟨hs, hp, hl, hk, eN, eP, hph1⟩ := id ha
  have cp : (nI p).toNatClampNeg = p := nI_clamp (by omega)
  have ck : (nI k).toNatClampNeg = k := nI_clamp (by omega)
  have ip : vp_in (nI p) 220 := vp_in_nI hp (by decide)
  have ik : vp_in (nI k) 280 := vp_in_nI hk (by decide)
  have hph : ¬ nI ph = 0 := by subst hphe; decide
  refine ey_go ha (fun K kk => ⟨ip, nm_r (e' := nI k) (by rw [cp]; exact eN) ⟨ik, nm_r (e' := 10) (by rw [ck]; exact ho) ⟨ip, nm_r (e' := nI ph) (by rw [cp]; exact eP) ⟨ip, ip, nm_r (e' := upd sP p (nI (ph + 1))) (by rw [cp, eP, nI_1]) (br_f (by decide) (br_f (by decide) (br_f (by decide) (br_f (by decide) (br_f hph (br_f (by decide) (br_f (by decide) (br_f (by decide) (br_f (by decide) (br_f (by decide) (br_t (by decide) (br_f (by decide) (br_f (by decide) (br_t rfl (?_)))))))))))))))⟩⟩⟩⟩) h
  refine br_f (by rw [hphe]; decide) (br_f (by decide) (br_f (by decide) (br_f hr ?_)))
  rw [show nI k * 3 + 1 = nI (k * 3 + 1) from gr_lin k 3 1 rfl rfl, nI_clamp (n := k * 3 + 1) (by omega)]
  exact ⟨vp_in_nI (by omega) (by decide), ey_down (p := p + 1) hp1 kk⟩
theorem yr_bl13 (ha : ey_at sN sP s p l k ph) (ho : op k = 13) (hphe : ph = 1) (hp1 : p + 1 < 220) (h : ey_F Z ob tks pl nds res cls prp lit lsz fb tk tv opd rk rn op nm ay prt ylo yhi s (p + 1) l g ret out sN sP sX sK it vr) : ey_F Z ob tks pl nds res cls prp lit lsz fb tk tv opd rk rn op nm ay prt ylo yhi (s + 1) (p + 2) l g ret out (upd sN (p + 1) (prt (k * 3 + 1))) (upd (upd sP p (nI (ph + 1))) (p + 1) 0) (upd sX p ret) sK it vr := by
  obtain ⟨hs, hp, hl, hk, eN, eP, hph1⟩ := id ha
  have cp : (nI p).toNatClampNeg = p := nI_clamp (by omega)
  have ck : (nI k).toNatClampNeg = k := nI_clamp (by omega)
  have ip : vp_in (nI p) 220 := vp_in_nI hp (by decide)
  have ik : vp_in (nI k) 280 := vp_in_nI hk (by decide)
  have hph : ¬ nI ph = 0 := by subst hphe; decide
  refine ey_go ha (fun K kk => ⟨ip, nm_r (e' := nI k) (by rw [cp]; exact eN) ⟨ik, nm_r (e' := 13) (by rw [ck]; exact ho) ⟨ip, nm_r (e' := nI ph) (by rw [cp]; exact eP) ⟨ip, ip, nm_r (e' := upd sP p (nI (ph + 1))) (by rw [cp, eP, nI_1]) (br_f (by decide) (br_f (by decide) (br_f (by decide) (br_f (by decide) (br_f hph (br_f (by decide) (br_f (by decide) (br_f (by decide) (br_f (by decide) (br_f (by decide) (br_t (by decide) (br_f (by decide) (br_f (by decide) (br_f (by decide) (?_)))))))))))))))⟩⟩⟩⟩) h
  refine br_t (by rw [hphe]; rfl) ⟨ip, nm_r (by rw [cp]) ?_⟩
  rw [show nI k * 3 + 1 = nI (k * 3 + 1) from gr_lin k 3 1 rfl rfl, nI_clamp (n := k * 3 + 1) (by omega)]
  exact ⟨vp_in_nI (by omega) (by decide), ey_down (p := p + 1) hp1 kk⟩
theorem yr_br13 (ha : ey_at sN sP s p l k ph) (ho : op k = 13) (hphe : ph = 2)  (h : ey_F Z ob tks pl nds res cls prp lit lsz fb tk tv opd rk rn op nm ay prt ylo yhi s (p + 1) l g ret out sN sP sX sK it vr) : ey_F Z ob tks pl nds res cls prp lit lsz fb tk tv opd rk rn op nm ay prt ylo yhi (s + 1) p l g (gr_bv 13 (sX p) ret) out sN (upd sP p (nI (ph + 1))) sX sK it vr := by
  obtain ⟨hs, hp, hl, hk, eN, eP, hph1⟩ := id ha
  have cp : (nI p).toNatClampNeg = p := nI_clamp (by omega)
  have ck : (nI k).toNatClampNeg = k := nI_clamp (by omega)
  have ip : vp_in (nI p) 220 := vp_in_nI hp (by decide)
  have ik : vp_in (nI k) 280 := vp_in_nI hk (by decide)
  have hph : ¬ nI ph = 0 := by subst hphe; decide
  refine ey_go ha (fun K kk => ⟨ip, nm_r (e' := nI k) (by rw [cp]; exact eN) ⟨ik, nm_r (e' := 13) (by rw [ck]; exact ho) ⟨ip, nm_r (e' := nI ph) (by rw [cp]; exact eP) ⟨ip, ip, nm_r (e' := upd sP p (nI (ph + 1))) (by rw [cp, eP, nI_1]) (br_f (by decide) (br_f (by decide) (br_f (by decide) (br_f (by decide) (br_f hph (br_f (by decide) (br_f (by decide) (br_f (by decide) (br_f (by decide) (br_f (by decide) (br_t (by decide) (br_f (by decide) (br_f (by decide) (br_f (by decide) (?_)))))))))))))))⟩⟩⟩⟩) h
  refine br_f (by rw [hphe]; decide) ⟨ip, ?_⟩
  rw [cp]
  refine br_f (by decide) (br_f (by decide) (br_t (by decide) ?_))
  by_cases z : sX p = ret
  · rw [show gr_bv 13 (sX p) ret = 1 from if_pos z] at kk
    exact br_t z (ey_give kk)
  · rw [show gr_bv 13 (sX p) ret = 0 from if_neg z] at kk
    exact br_f z (ey_give kk)
theorem yr_bl14 (ha : ey_at sN sP s p l k ph) (ho : op k = 14) (hphe : ph = 1) (hp1 : p + 1 < 220) (h : ey_F Z ob tks pl nds res cls prp lit lsz fb tk tv opd rk rn op nm ay prt ylo yhi s (p + 1) l g ret out sN sP sX sK it vr) : ey_F Z ob tks pl nds res cls prp lit lsz fb tk tv opd rk rn op nm ay prt ylo yhi (s + 1) (p + 2) l g ret out (upd sN (p + 1) (prt (k * 3 + 1))) (upd (upd sP p (nI (ph + 1))) (p + 1) 0) (upd sX p ret) sK it vr := by
  obtain ⟨hs, hp, hl, hk, eN, eP, hph1⟩ := id ha
  have cp : (nI p).toNatClampNeg = p := nI_clamp (by omega)
  have ck : (nI k).toNatClampNeg = k := nI_clamp (by omega)
  have ip : vp_in (nI p) 220 := vp_in_nI hp (by decide)
  have ik : vp_in (nI k) 280 := vp_in_nI hk (by decide)
  have hph : ¬ nI ph = 0 := by subst hphe; decide
  refine ey_go ha (fun K kk => ⟨ip, nm_r (e' := nI k) (by rw [cp]; exact eN) ⟨ik, nm_r (e' := 14) (by rw [ck]; exact ho) ⟨ip, nm_r (e' := nI ph) (by rw [cp]; exact eP) ⟨ip, ip, nm_r (e' := upd sP p (nI (ph + 1))) (by rw [cp, eP, nI_1]) (br_f (by decide) (br_f (by decide) (br_f (by decide) (br_f (by decide) (br_f hph (br_f (by decide) (br_f (by decide) (br_f (by decide) (br_f (by decide) (br_f (by decide) (br_t (by decide) (br_f (by decide) (br_f (by decide) (br_f (by decide) (?_)))))))))))))))⟩⟩⟩⟩) h
  refine br_t (by rw [hphe]; rfl) ⟨ip, nm_r (by rw [cp]) ?_⟩
  rw [show nI k * 3 + 1 = nI (k * 3 + 1) from gr_lin k 3 1 rfl rfl, nI_clamp (n := k * 3 + 1) (by omega)]
  exact ⟨vp_in_nI (by omega) (by decide), ey_down (p := p + 1) hp1 kk⟩
theorem yr_br14 (ha : ey_at sN sP s p l k ph) (ho : op k = 14) (hphe : ph = 2)  (h : ey_F Z ob tks pl nds res cls prp lit lsz fb tk tv opd rk rn op nm ay prt ylo yhi s (p + 1) l g ret out sN sP sX sK it vr) : ey_F Z ob tks pl nds res cls prp lit lsz fb tk tv opd rk rn op nm ay prt ylo yhi (s + 1) p l g (gr_bv 14 (sX p) ret) out sN (upd sP p (nI (ph + 1))) sX sK it vr := by
  obtain ⟨hs, hp, hl, hk, eN, eP, hph1⟩ := id ha
  have cp : (nI p).toNatClampNeg = p := nI_clamp (by omega)
  have ck : (nI k).toNatClampNeg = k := nI_clamp (by omega)
  have ip : vp_in (nI p) 220 := vp_in_nI hp (by decide)
  have ik : vp_in (nI k) 280 := vp_in_nI hk (by decide)
  have hph : ¬ nI ph = 0 := by subst hphe; decide
  refine ey_go ha (fun K kk => ⟨ip, nm_r (e' := nI k) (by rw [cp]; exact eN) ⟨ik, nm_r (e' := 14) (by rw [ck]; exact ho) ⟨ip, nm_r (e' := nI ph) (by rw [cp]; exact eP) ⟨ip, ip, nm_r (e' := upd sP p (nI (ph + 1))) (by rw [cp, eP, nI_1]) (br_f (by decide) (br_f (by decide) (br_f (by decide) (br_f (by decide) (br_f hph (br_f (by decide) (br_f (by decide) (br_f (by decide) (br_f (by decide) (br_f (by decide) (br_t (by decide) (br_f (by decide) (br_f (by decide) (br_f (by decide) (?_)))))))))))))))⟩⟩⟩⟩) h
  refine br_f (by rw [hphe]; decide) ⟨ip, ?_⟩
  rw [cp]
  refine br_f (by decide) (br_f (by decide) (br_f (by decide) (br_t (by decide) ?_)))
  by_cases z : ret ≤ sX p
  · rw [show gr_bv 14 (sX p) ret = 0 from if_pos z] at kk
    exact br_t z (ey_give kk)
  · rw [show gr_bv 14 (sX p) ret = 1 from if_neg z] at kk
    exact br_f z (ey_give kk)
theorem yr_bl15 (ha : ey_at sN sP s p l k ph) (ho : op k = 15) (hphe : ph = 1) (hp1 : p + 1 < 220) (h : ey_F Z ob tks pl nds res cls prp lit lsz fb tk tv opd rk rn op nm ay prt ylo yhi s (p + 1) l g ret out sN sP sX sK it vr) : ey_F Z ob tks pl nds res cls prp lit lsz fb tk tv opd rk rn op nm ay prt ylo yhi (s + 1) (p + 2) l g ret out (upd sN (p + 1) (prt (k * 3 + 1))) (upd (upd sP p (nI (ph + 1))) (p + 1) 0) (upd sX p ret) sK it vr := by
  obtain ⟨hs, hp, hl, hk, eN, eP, hph1⟩ := id ha
  have cp : (nI p).toNatClampNeg = p := nI_clamp (by omega)
  have ck : (nI k).toNatClampNeg = k := nI_clamp (by omega)
  have ip : vp_in (nI p) 220 := vp_in_nI hp (by decide)
  have ik : vp_in (nI k) 280 := vp_in_nI hk (by decide)
  have hph : ¬ nI ph = 0 := by subst hphe; decide
  refine ey_go ha (fun K kk => ⟨ip, nm_r (e' := nI k) (by rw [cp]; exact eN) ⟨ik, nm_r (e' := 15) (by rw [ck]; exact ho) ⟨ip, nm_r (e' := nI ph) (by rw [cp]; exact eP) ⟨ip, ip, nm_r (e' := upd sP p (nI (ph + 1))) (by rw [cp, eP, nI_1]) (br_f (by decide) (br_f (by decide) (br_f (by decide) (br_f (by decide) (br_f hph (br_f (by decide) (br_f (by decide) (br_f (by decide) (br_f (by decide) (br_f (by decide) (br_t (by decide) (br_f (by decide) (br_f (by decide) (br_f (by decide) (?_)))))))))))))))⟩⟩⟩⟩) h
  refine br_t (by rw [hphe]; rfl) ⟨ip, nm_r (by rw [cp]) ?_⟩
  rw [show nI k * 3 + 1 = nI (k * 3 + 1) from gr_lin k 3 1 rfl rfl, nI_clamp (n := k * 3 + 1) (by omega)]
  exact ⟨vp_in_nI (by omega) (by decide), ey_down (p := p + 1) hp1 kk⟩
theorem yr_br15 (ha : ey_at sN sP s p l k ph) (ho : op k = 15) (hphe : ph = 2)  (h : ey_F Z ob tks pl nds res cls prp lit lsz fb tk tv opd rk rn op nm ay prt ylo yhi s (p + 1) l g ret out sN sP sX sK it vr) : ey_F Z ob tks pl nds res cls prp lit lsz fb tk tv opd rk rn op nm ay prt ylo yhi (s + 1) p l g (gr_bv 15 (sX p) ret) out sN (upd sP p (nI (ph + 1))) sX sK it vr := by
  obtain ⟨hs, hp, hl, hk, eN, eP, hph1⟩ := id ha
  have cp : (nI p).toNatClampNeg = p := nI_clamp (by omega)
  have ck : (nI k).toNatClampNeg = k := nI_clamp (by omega)
  have ip : vp_in (nI p) 220 := vp_in_nI hp (by decide)
  have ik : vp_in (nI k) 280 := vp_in_nI hk (by decide)
  have hph : ¬ nI ph = 0 := by subst hphe; decide
  refine ey_go ha (fun K kk => ⟨ip, nm_r (e' := nI k) (by rw [cp]; exact eN) ⟨ik, nm_r (e' := 15) (by rw [ck]; exact ho) ⟨ip, nm_r (e' := nI ph) (by rw [cp]; exact eP) ⟨ip, ip, nm_r (e' := upd sP p (nI (ph + 1))) (by rw [cp, eP, nI_1]) (br_f (by decide) (br_f (by decide) (br_f (by decide) (br_f (by decide) (br_f hph (br_f (by decide) (br_f (by decide) (br_f (by decide) (br_f (by decide) (br_f (by decide) (br_t (by decide) (br_f (by decide) (br_f (by decide) (br_f (by decide) (?_)))))))))))))))⟩⟩⟩⟩) h
  refine br_f (by rw [hphe]; decide) ⟨ip, ?_⟩
  rw [cp]
  exact br_f (by decide) (br_f (by decide) (br_f (by decide) (br_f (by decide) (br_t (by decide) (ey_give kk)))))
theorem yr_bl16 (ha : ey_at sN sP s p l k ph) (ho : op k = 16) (hphe : ph = 1) (hp1 : p + 1 < 220) (h : ey_F Z ob tks pl nds res cls prp lit lsz fb tk tv opd rk rn op nm ay prt ylo yhi s (p + 1) l g ret out sN sP sX sK it vr) : ey_F Z ob tks pl nds res cls prp lit lsz fb tk tv opd rk rn op nm ay prt ylo yhi (s + 1) (p + 2) l g ret out (upd sN (p + 1) (prt (k * 3 + 1))) (upd (upd sP p (nI (ph + 1))) (p + 1) 0) (upd sX p ret) sK it vr := by
  obtain ⟨hs, hp, hl, hk, eN, eP, hph1⟩ := id ha
  have cp : (nI p).toNatClampNeg = p := nI_clamp (by omega)
  have ck : (nI k).toNatClampNeg = k := nI_clamp (by omega)
  have ip : vp_in (nI p) 220 := vp_in_nI hp (by decide)
  have ik : vp_in (nI k) 280 := vp_in_nI hk (by decide)
  have hph : ¬ nI ph = 0 := by subst hphe; decide
  refine ey_go ha (fun K kk => ⟨ip, nm_r (e' := nI k) (by rw [cp]; exact eN) ⟨ik, nm_r (e' := 16) (by rw [ck]; exact ho) ⟨ip, nm_r (e' := nI ph) (by rw [cp]; exact eP) ⟨ip, ip, nm_r (e' := upd sP p (nI (ph + 1))) (by rw [cp, eP, nI_1]) (br_f (by decide) (br_f (by decide) (br_f (by decide) (br_f (by decide) (br_f hph (br_f (by decide) (br_f (by decide) (br_f (by decide) (br_f (by decide) (br_f (by decide) (br_t (by decide) (br_f (by decide) (br_f (by decide) (br_f (by decide) (?_)))))))))))))))⟩⟩⟩⟩) h
  refine br_t (by rw [hphe]; rfl) ⟨ip, nm_r (by rw [cp]) ?_⟩
  rw [show nI k * 3 + 1 = nI (k * 3 + 1) from gr_lin k 3 1 rfl rfl, nI_clamp (n := k * 3 + 1) (by omega)]
  exact ⟨vp_in_nI (by omega) (by decide), ey_down (p := p + 1) hp1 kk⟩
theorem yr_br16 (ha : ey_at sN sP s p l k ph) (ho : op k = 16) (hphe : ph = 2)  (h : ey_F Z ob tks pl nds res cls prp lit lsz fb tk tv opd rk rn op nm ay prt ylo yhi s (p + 1) l g ret out sN sP sX sK it vr) : ey_F Z ob tks pl nds res cls prp lit lsz fb tk tv opd rk rn op nm ay prt ylo yhi (s + 1) p l g (gr_bv 16 (sX p) ret) out sN (upd sP p (nI (ph + 1))) sX sK it vr := by
  obtain ⟨hs, hp, hl, hk, eN, eP, hph1⟩ := id ha
  have cp : (nI p).toNatClampNeg = p := nI_clamp (by omega)
  have ck : (nI k).toNatClampNeg = k := nI_clamp (by omega)
  have ip : vp_in (nI p) 220 := vp_in_nI hp (by decide)
  have ik : vp_in (nI k) 280 := vp_in_nI hk (by decide)
  have hph : ¬ nI ph = 0 := by subst hphe; decide
  refine ey_go ha (fun K kk => ⟨ip, nm_r (e' := nI k) (by rw [cp]; exact eN) ⟨ik, nm_r (e' := 16) (by rw [ck]; exact ho) ⟨ip, nm_r (e' := nI ph) (by rw [cp]; exact eP) ⟨ip, ip, nm_r (e' := upd sP p (nI (ph + 1))) (by rw [cp, eP, nI_1]) (br_f (by decide) (br_f (by decide) (br_f (by decide) (br_f (by decide) (br_f hph (br_f (by decide) (br_f (by decide) (br_f (by decide) (br_f (by decide) (br_f (by decide) (br_t (by decide) (br_f (by decide) (br_f (by decide) (br_f (by decide) (?_)))))))))))))))⟩⟩⟩⟩) h
  refine br_f (by rw [hphe]; decide) ⟨ip, ?_⟩
  rw [cp]
  exact br_f (by decide) (br_f (by decide) (br_f (by decide) (br_f (by decide) (br_f (by decide) (br_t (by decide) (ey_give kk))))))
theorem yr_bl17 (ha : ey_at sN sP s p l k ph) (ho : op k = 17) (hphe : ph = 1) (hp1 : p + 1 < 220) (h : ey_F Z ob tks pl nds res cls prp lit lsz fb tk tv opd rk rn op nm ay prt ylo yhi s (p + 1) l g ret out sN sP sX sK it vr) : ey_F Z ob tks pl nds res cls prp lit lsz fb tk tv opd rk rn op nm ay prt ylo yhi (s + 1) (p + 2) l g ret out (upd sN (p + 1) (prt (k * 3 + 1))) (upd (upd sP p (nI (ph + 1))) (p + 1) 0) (upd sX p ret) sK it vr := by
  obtain ⟨hs, hp, hl, hk, eN, eP, hph1⟩ := id ha
  have cp : (nI p).toNatClampNeg = p := nI_clamp (by omega)
  have ck : (nI k).toNatClampNeg = k := nI_clamp (by omega)
  have ip : vp_in (nI p) 220 := vp_in_nI hp (by decide)
  have ik : vp_in (nI k) 280 := vp_in_nI hk (by decide)
  have hph : ¬ nI ph = 0 := by subst hphe; decide
  refine ey_go ha (fun K kk => ⟨ip, nm_r (e' := nI k) (by rw [cp]; exact eN) ⟨ik, nm_r (e' := 17) (by rw [ck]; exact ho) ⟨ip, nm_r (e' := nI ph) (by rw [cp]; exact eP) ⟨ip, ip, nm_r (e' := upd sP p (nI (ph + 1))) (by rw [cp, eP, nI_1]) (br_f (by decide) (br_f (by decide) (br_f (by decide) (br_f (by decide) (br_f hph (br_f (by decide) (br_f (by decide) (br_f (by decide) (br_f (by decide) (br_f (by decide) (br_t (by decide) (br_f (by decide) (br_f (by decide) (br_f (by decide) (?_)))))))))))))))⟩⟩⟩⟩) h
  refine br_t (by rw [hphe]; rfl) ⟨ip, nm_r (by rw [cp]) ?_⟩
  rw [show nI k * 3 + 1 = nI (k * 3 + 1) from gr_lin k 3 1 rfl rfl, nI_clamp (n := k * 3 + 1) (by omega)]
  exact ⟨vp_in_nI (by omega) (by decide), ey_down (p := p + 1) hp1 kk⟩
theorem yr_br17 (ha : ey_at sN sP s p l k ph) (ho : op k = 17) (hphe : ph = 2)  (h : ey_F Z ob tks pl nds res cls prp lit lsz fb tk tv opd rk rn op nm ay prt ylo yhi s (p + 1) l g ret out sN sP sX sK it vr) : ey_F Z ob tks pl nds res cls prp lit lsz fb tk tv opd rk rn op nm ay prt ylo yhi (s + 1) p l g (gr_bv 17 (sX p) ret) out sN (upd sP p (nI (ph + 1))) sX sK it vr := by
  obtain ⟨hs, hp, hl, hk, eN, eP, hph1⟩ := id ha
  have cp : (nI p).toNatClampNeg = p := nI_clamp (by omega)
  have ck : (nI k).toNatClampNeg = k := nI_clamp (by omega)
  have ip : vp_in (nI p) 220 := vp_in_nI hp (by decide)
  have ik : vp_in (nI k) 280 := vp_in_nI hk (by decide)
  have hph : ¬ nI ph = 0 := by subst hphe; decide
  refine ey_go ha (fun K kk => ⟨ip, nm_r (e' := nI k) (by rw [cp]; exact eN) ⟨ik, nm_r (e' := 17) (by rw [ck]; exact ho) ⟨ip, nm_r (e' := nI ph) (by rw [cp]; exact eP) ⟨ip, ip, nm_r (e' := upd sP p (nI (ph + 1))) (by rw [cp, eP, nI_1]) (br_f (by decide) (br_f (by decide) (br_f (by decide) (br_f (by decide) (br_f hph (br_f (by decide) (br_f (by decide) (br_f (by decide) (br_f (by decide) (br_f (by decide) (br_t (by decide) (br_f (by decide) (br_f (by decide) (br_f (by decide) (?_)))))))))))))))⟩⟩⟩⟩) h
  refine br_f (by rw [hphe]; decide) ⟨ip, ?_⟩
  rw [cp]
  exact br_f (by decide) (br_f (by decide) (br_f (by decide) (br_f (by decide) (br_f (by decide) (br_f (by decide) (ey_give kk))))))
theorem yr_bl18 (ha : ey_at sN sP s p l k ph) (ho : op k = 18) (hphe : ph = 1) (hp1 : p + 1 < 220) (h : ey_F Z ob tks pl nds res cls prp lit lsz fb tk tv opd rk rn op nm ay prt ylo yhi s (p + 1) l g ret out sN sP sX sK it vr) : ey_F Z ob tks pl nds res cls prp lit lsz fb tk tv opd rk rn op nm ay prt ylo yhi (s + 1) (p + 2) l g ret out (upd sN (p + 1) (prt (k * 3 + 1))) (upd (upd sP p (nI (ph + 1))) (p + 1) 0) (upd sX p ret) sK it vr := by
  obtain ⟨hs, hp, hl, hk, eN, eP, hph1⟩ := id ha
  have cp : (nI p).toNatClampNeg = p := nI_clamp (by omega)
  have ck : (nI k).toNatClampNeg = k := nI_clamp (by omega)
  have ip : vp_in (nI p) 220 := vp_in_nI hp (by decide)
  have ik : vp_in (nI k) 280 := vp_in_nI hk (by decide)
  have hph : ¬ nI ph = 0 := by subst hphe; decide
  refine ey_go ha (fun K kk => ⟨ip, nm_r (e' := nI k) (by rw [cp]; exact eN) ⟨ik, nm_r (e' := 18) (by rw [ck]; exact ho) ⟨ip, nm_r (e' := nI ph) (by rw [cp]; exact eP) ⟨ip, ip, nm_r (e' := upd sP p (nI (ph + 1))) (by rw [cp, eP, nI_1]) (br_f (by decide) (br_f (by decide) (br_f (by decide) (br_f (by decide) (br_f hph (br_f (by decide) (br_f (by decide) (br_f (by decide) (br_f (by decide) (br_f (by decide) (br_t (by decide) (br_f (by decide) (br_f (by decide) (br_f (by decide) (?_)))))))))))))))⟩⟩⟩⟩) h
  refine br_t (by rw [hphe]; rfl) ⟨ip, nm_r (by rw [cp]) ?_⟩
  rw [show nI k * 3 + 1 = nI (k * 3 + 1) from gr_lin k 3 1 rfl rfl, nI_clamp (n := k * 3 + 1) (by omega)]
  exact ⟨vp_in_nI (by omega) (by decide), ey_down (p := p + 1) hp1 kk⟩
theorem yr_br18 (ha : ey_at sN sP s p l k ph) (ho : op k = 18) (hphe : ph = 2) (hz : ¬ ret = 0) (h : ey_F Z ob tks pl nds res cls prp lit lsz fb tk tv opd rk rn op nm ay prt ylo yhi s (p + 1) l g ret out sN sP sX sK it vr) : ey_F Z ob tks pl nds res cls prp lit lsz fb tk tv opd rk rn op nm ay prt ylo yhi (s + 1) p l g (gr_bv 18 (sX p) ret) out sN (upd sP p (nI (ph + 1))) sX sK it vr := by
  obtain ⟨hs, hp, hl, hk, eN, eP, hph1⟩ := id ha
  have cp : (nI p).toNatClampNeg = p := nI_clamp (by omega)
  have ck : (nI k).toNatClampNeg = k := nI_clamp (by omega)
  have ip : vp_in (nI p) 220 := vp_in_nI hp (by decide)
  have ik : vp_in (nI k) 280 := vp_in_nI hk (by decide)
  have hph : ¬ nI ph = 0 := by subst hphe; decide
  refine ey_go ha (fun K kk => ⟨ip, nm_r (e' := nI k) (by rw [cp]; exact eN) ⟨ik, nm_r (e' := 18) (by rw [ck]; exact ho) ⟨ip, nm_r (e' := nI ph) (by rw [cp]; exact eP) ⟨ip, ip, nm_r (e' := upd sP p (nI (ph + 1))) (by rw [cp, eP, nI_1]) (br_f (by decide) (br_f (by decide) (br_f (by decide) (br_f (by decide) (br_f hph (br_f (by decide) (br_f (by decide) (br_f (by decide) (br_f (by decide) (br_f (by decide) (br_t (by decide) (br_f (by decide) (br_f (by decide) (br_f (by decide) (?_)))))))))))))))⟩⟩⟩⟩) h
  refine br_f (by rw [hphe]; decide) ⟨ip, ?_⟩
  rw [cp]
  exact br_t (by decide) (br_f hz (br_t (by decide) ⟨hz, ey_give kk⟩))
theorem yr_div (ha : ey_at sN sP s p l k ph) (ho : op k = 18) (hphe : ph = 2) (hr : ret = 0) (h : ey_F Z ob tks pl nds res cls prp lit lsz fb tk tv opd rk rn op nm ay prt ylo yhi s (p + 1) l g ret out sN sP sX sK it vr) : ey_E Z ob tks pl nds res cls prp lit lsz fb tk tv opd rk rn op nm ay prt ylo yhi 4 (if l = 0 then ay k else out) g := by
  obtain ⟨hs, hp, hl, hk, eN, eP, hph1⟩ := id ha
  have cp : (nI p).toNatClampNeg = p := nI_clamp (by omega)
  have ck : (nI k).toNatClampNeg = k := nI_clamp (by omega)
  have ip : vp_in (nI p) 220 := vp_in_nI hp (by decide)
  have ik : vp_in (nI k) 280 := vp_in_nI hk (by decide)
  have hph : ¬ nI ph = 0 := by subst hphe; decide
  refine ey_ef (x := 4) (p' := p + 1) (ret' := ret) (out' := out) (sN' := sN) (sP' := upd sP p (nI (ph + 1))) (sX' := sX) (sK' := sK) (it' := it) (vr' := vr) ha (by decide) (fun K kk => ⟨ip, nm_r (e' := nI k) (by rw [cp]; exact eN) ⟨ik, nm_r (e' := 18) (by rw [ck]; exact ho) ⟨ip, nm_r (e' := nI ph) (by rw [cp]; exact eP) ⟨ip, ip, nm_r (e' := upd sP p (nI (ph + 1))) (by rw [cp, eP, nI_1]) (br_f (by decide) (br_f (by decide) (br_f (by decide) (br_f (by decide) (br_f hph (br_f (by decide) (br_f (by decide) (br_f (by decide) (br_f (by decide) (br_f (by decide) (br_t (by decide) (br_f (by decide) (br_f (by decide) (br_f (by decide) (?_)))))))))))))))⟩⟩⟩⟩) h
  refine br_f (by rw [hphe]; decide) ⟨ip, ?_⟩
  exact br_t (by decide) (br_t hr (ey_error hl hk kk))
theorem yr_bl {t : Nat} (h13 : 13 ≤ t) (h18 : t ≤ 18) (ha : ey_at sN sP s p l k ph) (ho : op k = nI t) (hphe : ph = 1) (hp1 : p + 1 < 220) (h : ey_F Z ob tks pl nds res cls prp lit lsz fb tk tv opd rk rn op nm ay prt ylo yhi s (p + 1) l g ret out sN sP sX sK it vr) : ey_F Z ob tks pl nds res cls prp lit lsz fb tk tv opd rk rn op nm ay prt ylo yhi (s + 1) (p + 2) l g ret out (upd sN (p + 1) (prt (k * 3 + 1))) (upd (upd sP p (nI (ph + 1))) (p + 1) 0) (upd sX p ret) sK it vr := by
  have ht : t = 13 ∨ t = 14 ∨ t = 15 ∨ t = 16 ∨ t = 17 ∨ t = 18 := by omega
  rcases ht with rfl | rfl | rfl | rfl | rfl | rfl
  · exact yr_bl13 ha ho hphe hp1 h
  · exact yr_bl14 ha ho hphe hp1 h
  · exact yr_bl15 ha ho hphe hp1 h
  · exact yr_bl16 ha ho hphe hp1 h
  · exact yr_bl17 ha ho hphe hp1 h
  · exact yr_bl18 ha ho hphe hp1 h
theorem yr_br {t : Nat} (h13 : 13 ≤ t) (h18 : t ≤ 18) (ha : ey_at sN sP s p l k ph) (ho : op k = nI t) (hphe : ph = 2) (hz : ¬ (t = 18 ∧ ret = 0)) (h : ey_F Z ob tks pl nds res cls prp lit lsz fb tk tv opd rk rn op nm ay prt ylo yhi s (p + 1) l g ret out sN sP sX sK it vr) : ey_F Z ob tks pl nds res cls prp lit lsz fb tk tv opd rk rn op nm ay prt ylo yhi (s + 1) p l g (gr_bv t (sX p) ret) out sN (upd sP p (nI (ph + 1))) sX sK it vr := by
  have ht : t = 13 ∨ t = 14 ∨ t = 15 ∨ t = 16 ∨ t = 17 ∨ t = 18 := by omega
  rcases ht with rfl | rfl | rfl | rfl | rfl | rfl
  · exact yr_br13 ha ho hphe h
  · exact yr_br14 ha ho hphe h
  · exact yr_br15 ha ho hphe h
  · exact yr_br16 ha ho hphe h
  · exact yr_br17 ha ho hphe h
  · exact yr_br18 ha ho hphe (fun z => hz ⟨rfl, z⟩) h
end
section
variable {K : SY → Prop} {ob tks pl nds res ret out : Int32} {cls prp lit lsz fb tk tv opd rk rn op nm ay prt ylo yhi sN sP sX sK it vr : Nat → Int32} {p l g k ph : Nat}
theorem ey_q146 (hp : p < 220) (h : K (ob, tks, pl, nds, 1, res, (-1), nI g, nI p, nI l, sK p, out, cls, prp, lit, lsz, fb, tk, tv, opd, rk, rn, op, nm, ay, prt, ylo, yhi, sN, sP, sX, sK, it, vr)) : wY_quantify_146 K (nI p) ob tks pl nds (1) res ((-1)) (nI g) (nI (p + 1)) (nI l) ret out (cls) prp (lit) (lsz) (fb) (tk) (tv) opd (rk) rn op nm ay prt ylo yhi sN sP sX sK it vr := by
  refine ⟨vp_in_nI hp (by decide), ?_⟩
  rw [nI_clamp (by omega)]
  exact ey_give h
theorem ey_q_neg (hp : p < 220) (hx : sX p = -1) (h : wY_quantify_146 K (nI p) ob tks pl nds (1) res ((-1)) (nI g) (nI (p + 1)) (nI l) ret out (cls) prp (lit) (lsz) (fb) (tk) (tv) opd (rk) rn op nm ay prt ylo yhi sN sP sX sK it vr) : wY_quantify_113 K (nI p) (nI k) (nI ph) 0 ob tks pl nds (1) res ((-1)) (nI g) (nI (p + 1)) (nI l) ret out (cls) prp (lit) (lsz) (fb) (tk) (tv) opd (rk) rn op nm ay prt ylo yhi sN sP sX sK it vr :=
  br_t rfl ⟨vp_in_nI hp (by decide), br_t (by rw [nI_clamp (by omega), hx]; decide) h⟩
theorem ey_q_out {a y : Nat} (hp : p < 220) (hph : 1 ≤ ph) (hph1 : ph < 1000) (ha : a < 16) (hx : sX p = nI a) (hy : lsz a = nI y) (hyp : y ≤ ph - 1) (h : wY_quantify_146 K (nI p) ob tks pl nds (1) res ((-1)) (nI g) (nI (p + 1)) (nI l) ret out (cls) prp (lit) (lsz) (fb) (tk) (tv) opd (rk) rn op nm ay prt ylo yhi sN sP sX sK it vr) : wY_quantify_113 K (nI p) (nI k) (nI ph) 0 ob tks pl nds (1) res ((-1)) (nI g) (nI (p + 1)) (nI l) ret out (cls) prp (lit) (lsz) (fb) (tk) (tv) opd (rk) rn op nm ay prt ylo yhi sN sP sX sK it vr := by
  obtain ⟨e, rfl⟩ : ∃ e, ph = e + 1 := ⟨ph - 1, by omega⟩
  have cx : sX (nI p).toNatClampNeg = nI a := by rw [nI_clamp (by omega)]; exact hx
  exact br_t rfl ⟨vp_in_nI hp (by decide), br_f (by rw [cx]; exact nI_pos (by omega)) ⟨vp_in_nI hp (by decide), by rw [cx]; exact vp_in_nI ha (by decide), br_f (by rw [cx, nI_clamp (by omega), hy, nI_pred]; exact nI_nlt (by omega) (by omega)) h⟩⟩
theorem ey_q_stop {a y : Nat} (hp : p < 220) (hl : l < 5) (hk : k < 280) (hph : 1 ≤ ph) (hph1 : ph < 1000) (ha : a < 16) (hx : sX p = nI a) (hy : lsz a = nI y) (hy4 : y ≤ 4) (hyp : ph - 1 < y) (hg : g = 40) (h : K (ob, tks, pl, nds, 6, res, if l = 0 then ay k else out, nI g, nI (p + 1), nI l, ret, out, cls, prp, lit, lsz, fb, tk, tv, opd, rk, rn, op, nm, ay, prt, ylo, yhi, sN, sP, sX, sK, it, vr)) : wY_quantify_113 K (nI p) (nI k) (nI ph) 0 ob tks pl nds (1) res ((-1)) (nI g) (nI (p + 1)) (nI l) ret out (cls) prp (lit) (lsz) (fb) (tk) (tv) opd (rk) rn op nm ay prt ylo yhi sN sP sX sK it vr := by
  obtain ⟨e, rfl⟩ : ∃ e, ph = e + 1 := ⟨ph - 1, by omega⟩
  have cx : sX (nI p).toNatClampNeg = nI a := by rw [nI_clamp (by omega)]; exact hx
  refine br_t rfl ⟨vp_in_nI hp (by decide), br_f (by rw [cx]; exact nI_pos (by omega)) ⟨vp_in_nI hp (by decide), by rw [cx]; exact vp_in_nI ha (by decide), br_t (by rw [cx, nI_clamp (by omega), hy, nI_pred]; exact nI_lt (by omega) (by omega)) (ey_unit0 hl hk hg ?_)⟩⟩
  exact br_t rfl h
theorem ey_q_go {a y v : Nat} (hp : p + 1 < 220) (hl : l < 5) (hk : k < 280) (hph : 1 ≤ ph) (hph1 : ph < 1000) (ha : a < 16) (hx : sX p = nI a) (hy : lsz a = nI y) (hy4 : y ≤ 4) (hyp : ph - 1 < y) (hg : g < 40) (hv : v < 3) (en : nm k = nI v) (h : K (ob, tks, pl, nds, 1, res, (-1), nI (g + 1), nI (p + 2), nI l, ret, out, cls, prp, lit, lsz, fb, tk, tv, opd, rk, rn, op, nm, ay, prt, ylo, yhi, upd sN (p + 1) (prt (k * 3 + 1)), upd sP (p + 1) 0, sX, sK, it, upd vr (l * 3 + v) (lit (a * 4 + (ph - 1))))) : wY_quantify_113 K (nI p) (nI k) (nI ph) 0 ob tks pl nds (1) res ((-1)) (nI g) (nI (p + 1)) (nI l) ret out (cls) prp (lit) (lsz) (fb) (tk) (tv) opd (rk) rn op nm ay prt ylo yhi sN sP sX sK it vr := by
  obtain ⟨e, rfl⟩ : ∃ e, ph = e + 1 := ⟨ph - 1, by omega⟩
  have cx : sX (nI p).toNatClampNeg = nI a := by rw [nI_clamp (by omega)]; exact hx
  refine br_t rfl ⟨vp_in_nI (by omega) (by decide), br_f (by rw [cx]; exact nI_pos (by omega)) ⟨vp_in_nI (by omega) (by decide), by rw [cx]; exact vp_in_nI ha (by decide), br_t (by rw [cx, nI_clamp (by omega), hy, nI_pred]; exact nI_lt (by omega) (by omega)) (ey_unit1 hg ?_)⟩⟩
  refine br_f (by decide) ⟨vp_in_nI hk (by decide), vp_in_nI (by omega) (by decide), ?_⟩
  rw [cx, nI_clamp (n := k) (by omega), en, show nI a * 4 + nI (e + 1) = nI (a * 4 + e + 1) from gr_lin a 4 (e + 1) rfl rfl, nI_pred, show nI l * 3 + nI v = nI (l * 3 + v) from gr_lin l 3 v rfl rfl, nI_clamp (n := l * 3 + v) (by omega), nI_clamp (n := a * 4 + e) (by omega), show nI k * 3 + 1 = nI (k * 3 + 1) from gr_lin k 3 1 rfl rfl, nI_clamp (n := k * 3 + 1) (by omega)]
  exact ⟨vp_in_nI (by omega) (by decide), vp_in_nI (by omega) (by decide), nm_e ⟨vp_in_nI (by omega) (by decide), ey_down (p := p + 1) hp h⟩⟩
/-- decided, as the reference asks -/
def ey_dec (t : Nat) (x : Int32) : Prop := (t = 20 ∧ x = 1) ∨ (t = 21 ∧ x = 0)
theorem ey_qa20 (hp : p < 220) (hk : k < 280) (ho : op k = 20) (h : wY_quantify_113 K (nI p) (nI k) (nI 1) 0 ob tks pl nds (1) res ((-1)) (nI g) (nI (p + 1)) (nI l) ret out (cls) prp (lit) (lsz) (fb) (tk) (tv) opd (rk) rn op nm ay prt ylo yhi sN sP (upd sX p ret) (upd sK p 0) it vr) : wpY_quantify K (ob, tks, pl, nds, 1, res, (-1), nI g, nI (p + 1), nI l, ret, out, cls, prp, lit, lsz, fb, tk, tv, opd, rk, rn, op, nm, ay, prt, ylo, yhi, sN, sP, sX, sK, it, vr) (nI p) (nI k) (nI 1) := by
  have cp : (nI p).toNatClampNeg = p := nI_clamp (by omega)
  have ip : vp_in (nI p) 220 := vp_in_nI hp (by decide)
  exact ⟨vp_in_nI hk (by decide), nm_r (e' := 20) (by rw [nI_clamp (by omega)]; exact ho) (br_t rfl ⟨ip, nm_r (by rw [cp]) (br_f (by decide) ⟨ip, nm_r (by rw [cp]) (br_t (by decide) h)⟩)⟩)⟩
theorem ey_qb20 (hp : p < 220) (hk : k < 280) (hph : 2 ≤ ph) (hph1 : ph < 1000) (ho : op k = 20) (h1 : ey_dec 20 ret → wY_quantify_113 K (nI p) (nI k) (nI ph) 1 ob tks pl nds (1) res ((-1)) (nI g) (nI (p + 1)) (nI l) ret out (cls) prp (lit) (lsz) (fb) (tk) (tv) opd (rk) rn op nm ay prt ylo yhi sN sP sX (upd sK p (ret)) it vr) (h0 : ¬ ey_dec 20 ret → wY_quantify_113 K (nI p) (nI k) (nI ph) 0 ob tks pl nds (1) res ((-1)) (nI g) (nI (p + 1)) (nI l) ret out (cls) prp (lit) (lsz) (fb) (tk) (tv) opd (rk) rn op nm ay prt ylo yhi sN sP sX (upd sK p (ret)) it vr) : wpY_quantify K (ob, tks, pl, nds, 1, res, (-1), nI g, nI (p + 1), nI l, ret, out, cls, prp, lit, lsz, fb, tk, tv, opd, rk, rn, op, nm, ay, prt, ylo, yhi, sN, sP, sX, sK, it, vr) (nI p) (nI k) (nI ph) := by
  have cp : (nI p).toNatClampNeg = p := nI_clamp (by omega)
  have ip : vp_in (nI p) 220 := vp_in_nI hp (by decide)
  refine ⟨vp_in_nI hk (by decide), nm_r (e' := 20) (by rw [nI_clamp (by omega)]; exact ho) (br_f (fun z => absurd ((nI_eq (b := 1) (by omega) (by decide)).1 z) (by omega)) ?_)⟩
  refine br_f (by decide) ⟨ip, nm_r (by rw [cp]) (br_f (nI_ge (a := 1) (by omega) (by omega)) (br_f (by decide) (br_t rfl ?_)))⟩
  by_cases z : ret = 1
  · exact br_t z (h1 (Or.inl ⟨rfl, z⟩))
  · refine br_f z (h0 (fun y => ?_))
    rcases y with y | y
    · exact z y.2
    · exact absurd y.1 (by decide)
theorem ey_qa21 (hp : p < 220) (hk : k < 280) (ho : op k = 21) (h : wY_quantify_113 K (nI p) (nI k) (nI 1) 0 ob tks pl nds (1) res ((-1)) (nI g) (nI (p + 1)) (nI l) ret out (cls) prp (lit) (lsz) (fb) (tk) (tv) opd (rk) rn op nm ay prt ylo yhi sN sP (upd sX p ret) (upd sK p 1) it vr) : wpY_quantify K (ob, tks, pl, nds, 1, res, (-1), nI g, nI (p + 1), nI l, ret, out, cls, prp, lit, lsz, fb, tk, tv, opd, rk, rn, op, nm, ay, prt, ylo, yhi, sN, sP, sX, sK, it, vr) (nI p) (nI k) (nI 1) := by
  have cp : (nI p).toNatClampNeg = p := nI_clamp (by omega)
  have ip : vp_in (nI p) 220 := vp_in_nI hp (by decide)
  exact ⟨vp_in_nI hk (by decide), nm_r (e' := 21) (by rw [nI_clamp (by omega)]; exact ho) (br_t rfl ⟨ip, nm_r (by rw [cp]) (br_t rfl ⟨ip, nm_r (by rw [cp]) (br_t (by decide) h)⟩)⟩)⟩
theorem ey_qb21 (hp : p < 220) (hk : k < 280) (hph : 2 ≤ ph) (hph1 : ph < 1000) (ho : op k = 21) (h1 : ey_dec 21 ret → wY_quantify_113 K (nI p) (nI k) (nI ph) 1 ob tks pl nds (1) res ((-1)) (nI g) (nI (p + 1)) (nI l) ret out (cls) prp (lit) (lsz) (fb) (tk) (tv) opd (rk) rn op nm ay prt ylo yhi sN sP sX (upd sK p (ret)) it vr) (h0 : ¬ ey_dec 21 ret → wY_quantify_113 K (nI p) (nI k) (nI ph) 0 ob tks pl nds (1) res ((-1)) (nI g) (nI (p + 1)) (nI l) ret out (cls) prp (lit) (lsz) (fb) (tk) (tv) opd (rk) rn op nm ay prt ylo yhi sN sP sX (upd sK p (ret)) it vr) : wpY_quantify K (ob, tks, pl, nds, 1, res, (-1), nI g, nI (p + 1), nI l, ret, out, cls, prp, lit, lsz, fb, tk, tv, opd, rk, rn, op, nm, ay, prt, ylo, yhi, sN, sP, sX, sK, it, vr) (nI p) (nI k) (nI ph) := by
  have cp : (nI p).toNatClampNeg = p := nI_clamp (by omega)
  have ip : vp_in (nI p) 220 := vp_in_nI hp (by decide)
  refine ⟨vp_in_nI hk (by decide), nm_r (e' := 21) (by rw [nI_clamp (by omega)]; exact ho) (br_f (fun z => absurd ((nI_eq (b := 1) (by omega) (by decide)).1 z) (by omega)) ?_)⟩
  refine br_f (by decide) ⟨ip, nm_r (by rw [cp]) (br_f (nI_ge (a := 1) (by omega) (by omega)) (br_f (by decide) (br_f (by decide) ?_)))⟩
  by_cases z : ret = 0
  · exact br_t z (h1 (Or.inr ⟨rfl, z⟩))
  · refine br_f z (h0 (fun y => ?_))
    rcases y with y | y
    · exact absurd y.1 (by decide)
    · exact z y.2
theorem ey_qa22 (hp : p < 220) (hk : k < 280) (ho : op k = 22) (h : wY_quantify_113 K (nI p) (nI k) (nI 1) 0 ob tks pl nds (1) res ((-1)) (nI g) (nI (p + 1)) (nI l) ret out (cls) prp (lit) (lsz) (fb) (tk) (tv) opd (rk) rn op nm ay prt ylo yhi sN sP (upd sX p ret) (upd sK p 0) it vr) : wpY_quantify K (ob, tks, pl, nds, 1, res, (-1), nI g, nI (p + 1), nI l, ret, out, cls, prp, lit, lsz, fb, tk, tv, opd, rk, rn, op, nm, ay, prt, ylo, yhi, sN, sP, sX, sK, it, vr) (nI p) (nI k) (nI 1) := by
  have cp : (nI p).toNatClampNeg = p := nI_clamp (by omega)
  have ip : vp_in (nI p) 220 := vp_in_nI hp (by decide)
  exact ⟨vp_in_nI hk (by decide), nm_r (e' := 22) (by rw [nI_clamp (by omega)]; exact ho) (br_t rfl ⟨ip, nm_r (by rw [cp]) (br_f (by decide) ⟨ip, nm_r (by rw [cp]) (br_t (by decide) h)⟩)⟩)⟩
theorem ey_qb22 (hp : p < 220) (hk : k < 280) (hph : 2 ≤ ph) (hph1 : ph < 1000) (ho : op k = 22) (h1 : ey_dec 22 ret → wY_quantify_113 K (nI p) (nI k) (nI ph) 1 ob tks pl nds (1) res ((-1)) (nI g) (nI (p + 1)) (nI l) ret out (cls) prp (lit) (lsz) (fb) (tk) (tv) opd (rk) rn op nm ay prt ylo yhi sN sP sX (upd sK p (sK p + ret)) it vr) (h0 : ¬ ey_dec 22 ret → wY_quantify_113 K (nI p) (nI k) (nI ph) 0 ob tks pl nds (1) res ((-1)) (nI g) (nI (p + 1)) (nI l) ret out (cls) prp (lit) (lsz) (fb) (tk) (tv) opd (rk) rn op nm ay prt ylo yhi sN sP sX (upd sK p (sK p + ret)) it vr) : wpY_quantify K (ob, tks, pl, nds, 1, res, (-1), nI g, nI (p + 1), nI l, ret, out, cls, prp, lit, lsz, fb, tk, tv, opd, rk, rn, op, nm, ay, prt, ylo, yhi, sN, sP, sX, sK, it, vr) (nI p) (nI k) (nI ph) := by
  have cp : (nI p).toNatClampNeg = p := nI_clamp (by omega)
  have ip : vp_in (nI p) 220 := vp_in_nI hp (by decide)
  refine ⟨vp_in_nI hk (by decide), nm_r (e' := 22) (by rw [nI_clamp (by omega)]; exact ho) (br_f (fun z => absurd ((nI_eq (b := 1) (by omega) (by decide)).1 z) (by omega)) ?_)⟩
  exact br_t rfl ⟨ip, ip, nm_r (by rw [cp]) (br_f (nI_ge (a := 1) (by omega) (by omega)) (br_t rfl (h0 (fun z => by rcases z with z | z <;> exact absurd z.1 (by decide)))))⟩
end
section
variable {Z : (Int32 → SY → Prop) → Prop} {ob tks pl nds res ret out : Int32} {cls prp lit lsz fb tk tv opd rk rn op nm ay prt ylo yhi sN sP sX sK it vr : Nat → Int32} {s p l g k ph : Nat}
theorem yr_qa_end20 (ha : ey_at sN sP s p l k ph) (ho : op k = 20) (hphe : ph = 1) (hr : ret = -1 ∨ ∃ a, a < 16 ∧ ret = nI a ∧ lsz a = 0) (h : ey_F Z ob tks pl nds res cls prp lit lsz fb tk tv opd rk rn op nm ay prt ylo yhi s (p + 1) l g ret out sN sP sX sK it vr) : ey_F Z ob tks pl nds res cls prp lit lsz fb tk tv opd rk rn op nm ay prt ylo yhi (s + 1) p l g 0 out sN (upd sP p (nI (ph + 1))) (upd sX p ret) (upd sK p 0) it vr := by
  obtain ⟨hs, hp, hl, hk, eN, eP, hph1⟩ := id ha
  have cp : (nI p).toNatClampNeg = p := nI_clamp (by omega)
  have ck : (nI k).toNatClampNeg = k := nI_clamp (by omega)
  have ip : vp_in (nI p) 220 := vp_in_nI hp (by decide)
  have ik : vp_in (nI k) 280 := vp_in_nI hk (by decide)
  have hph : ¬ nI ph = 0 := by subst hphe; decide
  refine ey_go ha (fun K kk => ⟨ip, nm_r (e' := nI k) (by rw [cp]; exact eN) ⟨ik, nm_r (e' := 20) (by rw [ck]; exact ho) ⟨ip, nm_r (e' := nI ph) (by rw [cp]; exact eP) ⟨ip, ip, nm_r (e' := upd sP p (nI (ph + 1))) (by rw [cp, eP, nI_1]) (br_f (by decide) (br_f (by decide) (br_f (by decide) (br_f (by decide) (br_f hph (br_f (by decide) (br_f (by decide) (br_f (by decide) (br_f (by decide) (br_f (by decide) (br_f (by decide) (?_))))))))))))⟩⟩⟩⟩) h
  subst hphe
  refine ey_qa20 hp hk ho ?_
  have kk' := ey_q146 (K := K) (ret := ret) (sX := upd sX p ret) (sK := upd sK p 0) hp (by rw [pk_us]; exact kk)
  rcases hr with hr | ⟨a, ha16, hr, hz⟩
  · exact ey_q_neg hp (pk_us.trans hr) kk'
  · exact ey_q_out (y := 0) hp (by omega) (by omega) ha16 (pk_us.trans hr) hz (by omega) kk'
theorem yr_qa_stop20 (ha : ey_at sN sP s p l k ph) (ho : op k = 20) (hphe : ph = 1) {a y : Nat} (ha16 : a < 16) (hr : ret = nI a) (hy : lsz a = nI y) (hy4 : y ≤ 4) (hy0 : 0 < y) (hg : g = 40) (h : ey_F Z ob tks pl nds res cls prp lit lsz fb tk tv opd rk rn op nm ay prt ylo yhi s (p + 1) l g ret out sN sP sX sK it vr) : ey_E Z ob tks pl nds res cls prp lit lsz fb tk tv opd rk rn op nm ay prt ylo yhi 6 (if l = 0 then ay k else out) g := by
  obtain ⟨hs, hp, hl, hk, eN, eP, hph1⟩ := id ha
  have cp : (nI p).toNatClampNeg = p := nI_clamp (by omega)
  have ck : (nI k).toNatClampNeg = k := nI_clamp (by omega)
  have ip : vp_in (nI p) 220 := vp_in_nI hp (by decide)
  have ik : vp_in (nI k) 280 := vp_in_nI hk (by decide)
  have hph : ¬ nI ph = 0 := by subst hphe; decide
  refine ey_ef (x := 6) (p' := p + 1) (ret' := ret) (out' := out) (sN' := sN) (sP' := upd sP p (nI (ph + 1))) (sX' := upd sX p ret) (sK' := upd sK p 0) (it' := it) (vr' := vr) ha (by decide) (fun K kk => ⟨ip, nm_r (e' := nI k) (by rw [cp]; exact eN) ⟨ik, nm_r (e' := 20) (by rw [ck]; exact ho) ⟨ip, nm_r (e' := nI ph) (by rw [cp]; exact eP) ⟨ip, ip, nm_r (e' := upd sP p (nI (ph + 1))) (by rw [cp, eP, nI_1]) (br_f (by decide) (br_f (by decide) (br_f (by decide) (br_f (by decide) (br_f hph (br_f (by decide) (br_f (by decide) (br_f (by decide) (br_f (by decide) (br_f (by decide) (br_f (by decide) (?_))))))))))))⟩⟩⟩⟩) h
  subst hphe
  exact ey_qa20 hp hk ho (ey_q_stop hp hl hk (by omega) (by omega) ha16 (pk_us.trans hr) hy hy4 (by omega) hg kk)
theorem yr_qa_go20 (ha : ey_at sN sP s p l k ph) (ho : op k = 20) (hphe : ph = 1) {a y : Nat} (ha16 : a < 16) (hr : ret = nI a) (hy : lsz a = nI y) (hy4 : y ≤ 4) (hy0 : 0 < y) (hg : g < 40) {v : Nat} (hv : v < 3) (en : nm k = nI v) (hp1 : p + 1 < 220) (h : ey_F Z ob tks pl nds res cls prp lit lsz fb tk tv opd rk rn op nm ay prt ylo yhi s (p + 1) l g ret out sN sP sX sK it vr) : ey_F Z ob tks pl nds res cls prp lit lsz fb tk tv opd rk rn op nm ay prt ylo yhi (s + 1) (p + 2) l (g + 1) ret out (upd sN (p + 1) (prt (k * 3 + 1))) (upd (upd sP p (nI (ph + 1))) (p + 1) 0) (upd sX p ret) (upd sK p 0) it (upd vr (l * 3 + v) (lit (a * 4))) := by
  obtain ⟨hs, hp, hl, hk, eN, eP, hph1⟩ := id ha
  have cp : (nI p).toNatClampNeg = p := nI_clamp (by omega)
  have ck : (nI k).toNatClampNeg = k := nI_clamp (by omega)
  have ip : vp_in (nI p) 220 := vp_in_nI hp (by decide)
  have ik : vp_in (nI k) 280 := vp_in_nI hk (by decide)
  have hph : ¬ nI ph = 0 := by subst hphe; decide
  refine ey_go ha (fun K kk => ⟨ip, nm_r (e' := nI k) (by rw [cp]; exact eN) ⟨ik, nm_r (e' := 20) (by rw [ck]; exact ho) ⟨ip, nm_r (e' := nI ph) (by rw [cp]; exact eP) ⟨ip, ip, nm_r (e' := upd sP p (nI (ph + 1))) (by rw [cp, eP, nI_1]) (br_f (by decide) (br_f (by decide) (br_f (by decide) (br_f (by decide) (br_f hph (br_f (by decide) (br_f (by decide) (br_f (by decide) (br_f (by decide) (br_f (by decide) (br_f (by decide) (?_))))))))))))⟩⟩⟩⟩) h
  subst hphe
  exact ey_qa20 hp hk ho (ey_q_go (ph := 1) hp1 hl hk (by omega) (by omega) ha16 (pk_us.trans hr) hy hy4 (by omega) hg hv en kk)
theorem yr_qb_end20 (ha : ey_at sN sP s p l k ph) (ho : op k = 20) (hph2 : 2 ≤ ph) (hr : ey_dec 20 ret ∨ ∃ a y, a < 16 ∧ sX p = nI a ∧ lsz a = nI y ∧ y ≤ ph - 1) (h : ey_F Z ob tks pl nds res cls prp lit lsz fb tk tv opd rk rn op nm ay prt ylo yhi s (p + 1) l g ret out sN sP sX sK it vr) : ey_F Z ob tks pl nds res cls prp lit lsz fb tk tv opd rk rn op nm ay prt ylo yhi (s + 1) p l g ret out sN (upd sP p (nI (ph + 1))) sX (upd sK p (ret)) it vr := by
  obtain ⟨hs, hp, hl, hk, eN, eP, hph1⟩ := id ha
  have hph : ¬ nI ph = 0 := nI_ne0 (by omega) (by omega)
  have cp : (nI p).toNatClampNeg = p := nI_clamp (by omega)
  have ck : (nI k).toNatClampNeg = k := nI_clamp (by omega)
  have ip : vp_in (nI p) 220 := vp_in_nI hp (by decide)
  have ik : vp_in (nI k) 280 := vp_in_nI hk (by decide)
  refine ey_go ha (fun K kk => ⟨ip, nm_r (e' := nI k) (by rw [cp]; exact eN) ⟨ik, nm_r (e' := 20) (by rw [ck]; exact ho) ⟨ip, nm_r (e' := nI ph) (by rw [cp]; exact eP) ⟨ip, ip, nm_r (e' := upd sP p (nI (ph + 1))) (by rw [cp, eP, nI_1]) (br_f (by decide) (br_f (by decide) (br_f (by decide) (br_f (by decide) (br_f hph (br_f (by decide) (br_f (by decide) (br_f (by decide) (br_f (by decide) (br_f (by decide) (br_f (by decide) (?_))))))))))))⟩⟩⟩⟩) h
  have kk' := ey_q146 (K := K) (ret := ret) (sK := upd sK p (ret)) hp (by rw [pk_us]; exact kk)
  refine ey_qb20 hp hk hph2 hph1 ho (fun _ => br_f (by decide) kk') (fun nd => ?_)
  obtain ⟨a, y, ha16, hx, hy, hyp⟩ := hr.resolve_left nd
  exact ey_q_out hp (by omega) hph1 ha16 hx hy hyp kk'
theorem yr_qb_stop20 (ha : ey_at sN sP s p l k ph) (ho : op k = 20) (hph2 : 2 ≤ ph) (hnd : ¬ ey_dec 20 ret) {a y : Nat} (ha16 : a < 16) (hx : sX p = nI a) (hy : lsz a = nI y) (hy4 : y ≤ 4) (hyp : ph - 1 < y) (hg : g = 40) (h : ey_F Z ob tks pl nds res cls prp lit lsz fb tk tv opd rk rn op nm ay prt ylo yhi s (p + 1) l g ret out sN sP sX sK it vr) : ey_E Z ob tks pl nds res cls prp lit lsz fb tk tv opd rk rn op nm ay prt ylo yhi 6 (if l = 0 then ay k else out) g := by
  obtain ⟨hs, hp, hl, hk, eN, eP, hph1⟩ := id ha
  have hph : ¬ nI ph = 0 := nI_ne0 (by omega) (by omega)
  have cp : (nI p).toNatClampNeg = p := nI_clamp (by omega)
  have ck : (nI k).toNatClampNeg = k := nI_clamp (by omega)
  have ip : vp_in (nI p) 220 := vp_in_nI hp (by decide)
  have ik : vp_in (nI k) 280 := vp_in_nI hk (by decide)
  refine ey_ef (x := 6) (p' := p + 1) (ret' := ret) (out' := out) (sN' := sN) (sP' := upd sP p (nI (ph + 1))) (sX' := sX) (sK' := upd sK p (ret)) (it' := it) (vr' := vr) ha (by decide) (fun K kk => ⟨ip, nm_r (e' := nI k) (by rw [cp]; exact eN) ⟨ik, nm_r (e' := 20) (by rw [ck]; exact ho) ⟨ip, nm_r (e' := nI ph) (by rw [cp]; exact eP) ⟨ip, ip, nm_r (e' := upd sP p (nI (ph + 1))) (by rw [cp, eP, nI_1]) (br_f (by decide) (br_f (by decide) (br_f (by decide) (br_f (by decide) (br_f hph (br_f (by decide) (br_f (by decide) (br_f (by decide) (br_f (by decide) (br_f (by decide) (br_f (by decide) (?_))))))))))))⟩⟩⟩⟩) h
  exact ey_qb20 hp hk hph2 hph1 ho (fun z => absurd z hnd) (fun _ => ey_q_stop hp hl hk (by omega) hph1 ha16 hx hy hy4 hyp hg kk)
theorem yr_qb_go20 (ha : ey_at sN sP s p l k ph) (ho : op k = 20) (hph2 : 2 ≤ ph) (hnd : ¬ ey_dec 20 ret) {a y : Nat} (ha16 : a < 16) (hx : sX p = nI a) (hy : lsz a = nI y) (hy4 : y ≤ 4) (hyp : ph - 1 < y) (hg : g < 40) {v : Nat} (hv : v < 3) (en : nm k = nI v) (hp1 : p + 1 < 220) (h : ey_F Z ob tks pl nds res cls prp lit lsz fb tk tv opd rk rn op nm ay prt ylo yhi s (p + 1) l g ret out sN sP sX sK it vr) : ey_F Z ob tks pl nds res cls prp lit lsz fb tk tv opd rk rn op nm ay prt ylo yhi (s + 1) (p + 2) l (g + 1) ret out (upd sN (p + 1) (prt (k * 3 + 1))) (upd (upd sP p (nI (ph + 1))) (p + 1) 0) sX (upd sK p (ret)) it (upd vr (l * 3 + v) (lit (a * 4 + (ph - 1)))) := by
  obtain ⟨hs, hp, hl, hk, eN, eP, hph1⟩ := id ha
  have hph : ¬ nI ph = 0 := nI_ne0 (by omega) (by omega)
  have cp : (nI p).toNatClampNeg = p := nI_clamp (by omega)
  have ck : (nI k).toNatClampNeg = k := nI_clamp (by omega)
  have ip : vp_in (nI p) 220 := vp_in_nI hp (by decide)
  have ik : vp_in (nI k) 280 := vp_in_nI hk (by decide)
  refine ey_go ha (fun K kk => ⟨ip, nm_r (e' := nI k) (by rw [cp]; exact eN) ⟨ik, nm_r (e' := 20) (by rw [ck]; exact ho) ⟨ip, nm_r (e' := nI ph) (by rw [cp]; exact eP) ⟨ip, ip, nm_r (e' := upd sP p (nI (ph + 1))) (by rw [cp, eP, nI_1]) (br_f (by decide) (br_f (by decide) (br_f (by decide) (br_f (by decide) (br_f hph (br_f (by decide) (br_f (by decide) (br_f (by decide) (br_f (by decide) (br_f (by decide) (br_f (by decide) (?_))))))))))))⟩⟩⟩⟩) h
  exact ey_qb20 hp hk hph2 hph1 ho (fun z => absurd z hnd) (fun _ => ey_q_go hp1 hl hk (by omega) hph1 ha16 hx hy hy4 hyp hg hv en kk)
theorem yr_qa_end21 (ha : ey_at sN sP s p l k ph) (ho : op k = 21) (hphe : ph = 1) (hr : ret = -1 ∨ ∃ a, a < 16 ∧ ret = nI a ∧ lsz a = 0) (h : ey_F Z ob tks pl nds res cls prp lit lsz fb tk tv opd rk rn op nm ay prt ylo yhi s (p + 1) l g ret out sN sP sX sK it vr) : ey_F Z ob tks pl nds res cls prp lit lsz fb tk tv opd rk rn op nm ay prt ylo yhi (s + 1) p l g 1 out sN (upd sP p (nI (ph + 1))) (upd sX p ret) (upd sK p 1) it vr := by
  obtain ⟨hs, hp, hl, hk, eN, eP, hph1⟩ := id ha
  have cp : (nI p).toNatClampNeg = p := nI_clamp (by omega)
  have ck : (nI k).toNatClampNeg = k := nI_clamp (by omega)
  have ip : vp_in (nI p) 220 := vp_in_nI hp (by decide)
  have ik : vp_in (nI k) 280 := vp_in_nI hk (by decide)
  have hph : ¬ nI ph = 0 := by subst hphe; decide
  refine ey_go ha (fun K kk => ⟨ip, nm_r (e' := nI k) (by rw [cp]; exact eN) ⟨ik, nm_r (e' := 21) (by rw [ck]; exact ho) ⟨ip, nm_r (e' := nI ph) (by rw [cp]; exact eP) ⟨ip, ip, nm_r (e' := upd sP p (nI (ph + 1))) (by rw [cp, eP, nI_1]) (br_f (by decide) (br_f (by decide) (br_f (by decide) (br_f (by decide) (br_f hph (br_f (by decide) (br_f (by decide) (br_f (by decide) (br_f (by decide) (br_f (by decide) (br_f (by decide) (?_))))))))))))⟩⟩⟩⟩) h
  subst hphe
  refine ey_qa21 hp hk ho ?_
  have kk' := ey_q146 (K := K) (ret := ret) (sX := upd sX p ret) (sK := upd sK p 1) hp (by rw [pk_us]; exact kk)
  rcases hr with hr | ⟨a, ha16, hr, hz⟩
  · exact ey_q_neg hp (pk_us.trans hr) kk'
  · exact ey_q_out (y := 0) hp (by omega) (by omega) ha16 (pk_us.trans hr) hz (by omega) kk'
theorem yr_qa_stop21 (ha : ey_at sN sP s p l k ph) (ho : op k = 21) (hphe : ph = 1) {a y : Nat} (ha16 : a < 16) (hr : ret = nI a) (hy : lsz a = nI y) (hy4 : y ≤ 4) (hy0 : 0 < y) (hg : g = 40) (h : ey_F Z ob tks pl nds res cls prp lit lsz fb tk tv opd rk rn op nm ay prt ylo yhi s (p + 1) l g ret out sN sP sX sK it vr) : ey_E Z ob tks pl nds res cls prp lit lsz fb tk tv opd rk rn op nm ay prt ylo yhi 6 (if l = 0 then ay k else out) g := by
  obtain ⟨hs, hp, hl, hk, eN, eP, hph1⟩ := id ha
  have cp : (nI p).toNatClampNeg = p := nI_clamp (by omega)
  have ck : (nI k).toNatClampNeg = k := nI_clamp (by omega)
  have ip : vp_in (nI p) 220 := vp_in_nI hp (by decide)
  have ik : vp_in (nI k) 280 := vp_in_nI hk (by decide)
  have hph : ¬ nI ph = 0 := by subst hphe; decide
  refine ey_ef (x := 6) (p' := p + 1) (ret' := ret) (out' := out) (sN' := sN) (sP' := upd sP p (nI (ph + 1))) (sX' := upd sX p ret) (sK' := upd sK p 1) (it' := it) (vr' := vr) ha (by decide) (fun K kk => ⟨ip, nm_r (e' := nI k) (by rw [cp]; exact eN) ⟨ik, nm_r (e' := 21) (by rw [ck]; exact ho) ⟨ip, nm_r (e' := nI ph) (by rw [cp]; exact eP) ⟨ip, ip, nm_r (e' := upd sP p (nI (ph + 1))) (by rw [cp, eP, nI_1]) (br_f (by decide) (br_f (by decide) (br_f (by decide) (br_f (by decide) (br_f hph (br_f (by decide) (br_f (by decide) (br_f (by decide) (br_f (by decide) (br_f (by decide) (br_f (by decide) (?_))))))))))))⟩⟩⟩⟩) h
  subst hphe
  exact ey_qa21 hp hk ho (ey_q_stop hp hl hk (by omega) (by omega) ha16 (pk_us.trans hr) hy hy4 (by omega) hg kk)
theorem yr_qa_go21 (ha : ey_at sN sP s p l k ph) (ho : op k = 21) (hphe : ph = 1) {a y : Nat} (ha16 : a < 16) (hr : ret = nI a) (hy : lsz a = nI y) (hy4 : y ≤ 4) (hy0 : 0 < y) (hg : g < 40) {v : Nat} (hv : v < 3) (en : nm k = nI v) (hp1 : p + 1 < 220) (h : ey_F Z ob tks pl nds res cls prp lit lsz fb tk tv opd rk rn op nm ay prt ylo yhi s (p + 1) l g ret out sN sP sX sK it vr) : ey_F Z ob tks pl nds res cls prp lit lsz fb tk tv opd rk rn op nm ay prt ylo yhi (s + 1) (p + 2) l (g + 1) ret out (upd sN (p + 1) (prt (k * 3 + 1))) (upd (upd sP p (nI (ph + 1))) (p + 1) 0) (upd sX p ret) (upd sK p 1) it (upd vr (l * 3 + v) (lit (a * 4))) := by
  obtain ⟨hs, hp, hl, hk, eN, eP, hph1⟩ := id ha
  have cp : (nI p).toNatClampNeg = p := nI_clamp (by omega)
  have ck : (nI k).toNatClampNeg = k := nI_clamp (by omega)
  have ip : vp_in (nI p) 220 := vp_in_nI hp (by decide)
  have ik : vp_in (nI k) 280 := vp_in_nI hk (by decide)
  have hph : ¬ nI ph = 0 := by subst hphe; decide
  refine ey_go ha (fun K kk => ⟨ip, nm_r (e' := nI k) (by rw [cp]; exact eN) ⟨ik, nm_r (e' := 21) (by rw [ck]; exact ho) ⟨ip, nm_r (e' := nI ph) (by rw [cp]; exact eP) ⟨ip, ip, nm_r (e' := upd sP p (nI (ph + 1))) (by rw [cp, eP, nI_1]) (br_f (by decide) (br_f (by decide) (br_f (by decide) (br_f (by decide) (br_f hph (br_f (by decide) (br_f (by decide) (br_f (by decide) (br_f (by decide) (br_f (by decide) (br_f (by decide) (?_))))))))))))⟩⟩⟩⟩) h
  subst hphe
  exact ey_qa21 hp hk ho (ey_q_go (ph := 1) hp1 hl hk (by omega) (by omega) ha16 (pk_us.trans hr) hy hy4 (by omega) hg hv en kk)
theorem yr_qb_end21 (ha : ey_at sN sP s p l k ph) (ho : op k = 21) (hph2 : 2 ≤ ph) (hr : ey_dec 21 ret ∨ ∃ a y, a < 16 ∧ sX p = nI a ∧ lsz a = nI y ∧ y ≤ ph - 1) (h : ey_F Z ob tks pl nds res cls prp lit lsz fb tk tv opd rk rn op nm ay prt ylo yhi s (p + 1) l g ret out sN sP sX sK it vr) : ey_F Z ob tks pl nds res cls prp lit lsz fb tk tv opd rk rn op nm ay prt ylo yhi (s + 1) p l g ret out sN (upd sP p (nI (ph + 1))) sX (upd sK p (ret)) it vr := by
  obtain ⟨hs, hp, hl, hk, eN, eP, hph1⟩ := id ha
  have hph : ¬ nI ph = 0 := nI_ne0 (by omega) (by omega)
  have cp : (nI p).toNatClampNeg = p := nI_clamp (by omega)
  have ck : (nI k).toNatClampNeg = k := nI_clamp (by omega)
  have ip : vp_in (nI p) 220 := vp_in_nI hp (by decide)
  have ik : vp_in (nI k) 280 := vp_in_nI hk (by decide)
  refine ey_go ha (fun K kk => ⟨ip, nm_r (e' := nI k) (by rw [cp]; exact eN) ⟨ik, nm_r (e' := 21) (by rw [ck]; exact ho) ⟨ip, nm_r (e' := nI ph) (by rw [cp]; exact eP) ⟨ip, ip, nm_r (e' := upd sP p (nI (ph + 1))) (by rw [cp, eP, nI_1]) (br_f (by decide) (br_f (by decide) (br_f (by decide) (br_f (by decide) (br_f hph (br_f (by decide) (br_f (by decide) (br_f (by decide) (br_f (by decide) (br_f (by decide) (br_f (by decide) (?_))))))))))))⟩⟩⟩⟩) h
  have kk' := ey_q146 (K := K) (ret := ret) (sK := upd sK p (ret)) hp (by rw [pk_us]; exact kk)
  refine ey_qb21 hp hk hph2 hph1 ho (fun _ => br_f (by decide) kk') (fun nd => ?_)
  obtain ⟨a, y, ha16, hx, hy, hyp⟩ := hr.resolve_left nd
  exact ey_q_out hp (by omega) hph1 ha16 hx hy hyp kk'
theorem yr_qb_stop21 (ha : ey_at sN sP s p l k ph) (ho : op k = 21) (hph2 : 2 ≤ ph) (hnd : ¬ ey_dec 21 ret) {a y : Nat} (ha16 : a < 16) (hx : sX p = nI a) (hy : lsz a = nI y) (hy4 : y ≤ 4) (hyp : ph - 1 < y) (hg : g = 40) (h : ey_F Z ob tks pl nds res cls prp lit lsz fb tk tv opd rk rn op nm ay prt ylo yhi s (p + 1) l g ret out sN sP sX sK it vr) : ey_E Z ob tks pl nds res cls prp lit lsz fb tk tv opd rk rn op nm ay prt ylo yhi 6 (if l = 0 then ay k else out) g := by
  obtain ⟨hs, hp, hl, hk, eN, eP, hph1⟩ := id ha
  have hph : ¬ nI ph = 0 := nI_ne0 (by omega) (by omega)
  have cp : (nI p).toNatClampNeg = p := nI_clamp (by omega)
  have ck : (nI k).toNatClampNeg = k := nI_clamp (by omega)
  have ip : vp_in (nI p) 220 := vp_in_nI hp (by decide)
  have ik : vp_in (nI k) 280 := vp_in_nI hk (by decide)
  refine ey_ef (x := 6) (p' := p + 1) (ret' := ret) (out' := out) (sN' := sN) (sP' := upd sP p (nI (ph + 1))) (sX' := sX) (sK' := upd sK p (ret)) (it' := it) (vr' := vr) ha (by decide) (fun K kk => ⟨ip, nm_r (e' := nI k) (by rw [cp]; exact eN) ⟨ik, nm_r (e' := 21) (by rw [ck]; exact ho) ⟨ip, nm_r (e' := nI ph) (by rw [cp]; exact eP) ⟨ip, ip, nm_r (e' := upd sP p (nI (ph + 1))) (by rw [cp, eP, nI_1]) (br_f (by decide) (br_f (by decide) (br_f (by decide) (br_f (by decide) (br_f hph (br_f (by decide) (br_f (by decide) (br_f (by decide) (br_f (by decide) (br_f (by decide) (br_f (by decide) (?_))))))))))))⟩⟩⟩⟩) h
  exact ey_qb21 hp hk hph2 hph1 ho (fun z => absurd z hnd) (fun _ => ey_q_stop hp hl hk (by omega) hph1 ha16 hx hy hy4 hyp hg kk)
theorem yr_qb_go21 (ha : ey_at sN sP s p l k ph) (ho : op k = 21) (hph2 : 2 ≤ ph) (hnd : ¬ ey_dec 21 ret) {a y : Nat} (ha16 : a < 16) (hx : sX p = nI a) (hy : lsz a = nI y) (hy4 : y ≤ 4) (hyp : ph - 1 < y) (hg : g < 40) {v : Nat} (hv : v < 3) (en : nm k = nI v) (hp1 : p + 1 < 220) (h : ey_F Z ob tks pl nds res cls prp lit lsz fb tk tv opd rk rn op nm ay prt ylo yhi s (p + 1) l g ret out sN sP sX sK it vr) : ey_F Z ob tks pl nds res cls prp lit lsz fb tk tv opd rk rn op nm ay prt ylo yhi (s + 1) (p + 2) l (g + 1) ret out (upd sN (p + 1) (prt (k * 3 + 1))) (upd (upd sP p (nI (ph + 1))) (p + 1) 0) sX (upd sK p (ret)) it (upd vr (l * 3 + v) (lit (a * 4 + (ph - 1)))) := by
  obtain ⟨hs, hp, hl, hk, eN, eP, hph1⟩ := id ha
  have hph : ¬ nI ph = 0 := nI_ne0 (by omega) (by omega)
  have cp : (nI p).toNatClampNeg = p := nI_clamp (by omega)
  have ck : (nI k).toNatClampNeg = k := nI_clamp (by omega)
  have ip : vp_in (nI p) 220 := vp_in_nI hp (by decide)
  have ik : vp_in (nI k) 280 := vp_in_nI hk (by decide)
  refine ey_go ha (fun K kk => ⟨ip, nm_r (e' := nI k) (by rw [cp]; exact eN) ⟨ik, nm_r (e' := 21) (by rw [ck]; exact ho) ⟨ip, nm_r (e' := nI ph) (by rw [cp]; exact eP) ⟨ip, ip, nm_r (e' := upd sP p (nI (ph + 1))) (by rw [cp, eP, nI_1]) (br_f (by decide) (br_f (by decide) (br_f (by decide) (br_f (by decide) (br_f hph (br_f (by decide) (br_f (by decide) (br_f (by decide) (br_f (by decide) (br_f (by decide) (br_f (by decide) (?_))))))))))))⟩⟩⟩⟩) h
  exact ey_qb21 hp hk hph2 hph1 ho (fun z => absurd z hnd) (fun _ => ey_q_go hp1 hl hk (by omega) hph1 ha16 hx hy hy4 hyp hg hv en kk)
theorem yr_qa_end22 (ha : ey_at sN sP s p l k ph) (ho : op k = 22) (hphe : ph = 1) (hr : ret = -1 ∨ ∃ a, a < 16 ∧ ret = nI a ∧ lsz a = 0) (h : ey_F Z ob tks pl nds res cls prp lit lsz fb tk tv opd rk rn op nm ay prt ylo yhi s (p + 1) l g ret out sN sP sX sK it vr) : ey_F Z ob tks pl nds res cls prp lit lsz fb tk tv opd rk rn op nm ay prt ylo yhi (s + 1) p l g 0 out sN (upd sP p (nI (ph + 1))) (upd sX p ret) (upd sK p 0) it vr := by
  obtain ⟨hs, hp, hl, hk, eN, eP, hph1⟩ := id ha
  have cp : (nI p).toNatClampNeg = p := nI_clamp (by omega)
  have ck : (nI k).toNatClampNeg = k := nI_clamp (by omega)
  have ip : vp_in (nI p) 220 := vp_in_nI hp (by decide)
  have ik : vp_in (nI k) 280 := vp_in_nI hk (by decide)
  have hph : ¬ nI ph = 0 := by subst hphe; decide
  refine ey_go ha (fun K kk => ⟨ip, nm_r (e' := nI k) (by rw [cp]; exact eN) ⟨ik, nm_r (e' := 22) (by rw [ck]; exact ho) ⟨ip, nm_r (e' := nI ph) (by rw [cp]; exact eP) ⟨ip, ip, nm_r (e' := upd sP p (nI (ph + 1))) (by rw [cp, eP, nI_1]) (br_f (by decide) (br_f (by decide) (br_f (by decide) (br_f (by decide) (br_f hph (br_f (by decide) (br_f (by decide) (br_f (by decide) (br_f (by decide) (br_f (by decide) (br_f (by decide) (?_))))))))))))⟩⟩⟩⟩) h
  subst hphe
  refine ey_qa22 hp hk ho ?_
  have kk' := ey_q146 (K := K) (ret := ret) (sX := upd sX p ret) (sK := upd sK p 0) hp (by rw [pk_us]; exact kk)
  rcases hr with hr | ⟨a, ha16, hr, hz⟩
  · exact ey_q_neg hp (pk_us.trans hr) kk'
  · exact ey_q_out (y := 0) hp (by omega) (by omega) ha16 (pk_us.trans hr) hz (by omega) kk'
theorem yr_qa_stop22 (ha : ey_at sN sP s p l k ph) (ho : op k = 22) (hphe : ph = 1) {a y : Nat} (ha16 : a < 16) (hr : ret = nI a) (hy : lsz a = nI y) (hy4 : y ≤ 4) (hy0 : 0 < y) (hg : g = 40) (h : ey_F Z ob tks pl nds res cls prp lit lsz fb tk tv opd rk rn op nm ay prt ylo yhi s (p + 1) l g ret out sN sP sX sK it vr) : ey_E Z ob tks pl nds res cls prp lit lsz fb tk tv opd rk rn op nm ay prt ylo yhi 6 (if l = 0 then ay k else out) g := by
  obtain ⟨hs, hp, hl, hk, eN, eP, hph1⟩ := id ha
  have cp : (nI p).toNatClampNeg = p := nI_clamp (by omega)
  have ck : (nI k).toNatClampNeg = k := nI_clamp (by omega)
  have ip : vp_in (nI p) 220 := vp_in_nI hp (by decide)
  have ik : vp_in (nI k) 280 := vp_in_nI hk (by decide)
  have hph : ¬ nI ph = 0 := by subst hphe; decide
  refine ey_ef (x := 6) (p' := p + 1) (ret' := ret) (out' := out) (sN' := sN) (sP' := upd sP p (nI (ph + 1))) (sX' := upd sX p ret) (sK' := upd sK p 0) (it' := it) (vr' := vr) ha (by decide) (fun K kk => ⟨ip, nm_r (e' := nI k) (by rw [cp]; exact eN) ⟨ik, nm_r (e' := 22) (by rw [ck]; exact ho) ⟨ip, nm_r (e' := nI ph) (by rw [cp]; exact eP) ⟨ip, ip, nm_r (e' := upd sP p (nI (ph + 1))) (by rw [cp, eP, nI_1]) (br_f (by decide) (br_f (by decide) (br_f (by decide) (br_f (by decide) (br_f hph (br_f (by decide) (br_f (by decide) (br_f (by decide) (br_f (by decide) (br_f (by decide) (br_f (by decide) (?_))))))))))))⟩⟩⟩⟩) h
  subst hphe
  exact ey_qa22 hp hk ho (ey_q_stop hp hl hk (by omega) (by omega) ha16 (pk_us.trans hr) hy hy4 (by omega) hg kk)
theorem yr_qa_go22 (ha : ey_at sN sP s p l k ph) (ho : op k = 22) (hphe : ph = 1) {a y : Nat} (ha16 : a < 16) (hr : ret = nI a) (hy : lsz a = nI y) (hy4 : y ≤ 4) (hy0 : 0 < y) (hg : g < 40) {v : Nat} (hv : v < 3) (en : nm k = nI v) (hp1 : p + 1 < 220) (h : ey_F Z ob tks pl nds res cls prp lit lsz fb tk tv opd rk rn op nm ay prt ylo yhi s (p + 1) l g ret out sN sP sX sK it vr) : ey_F Z ob tks pl nds res cls prp lit lsz fb tk tv opd rk rn op nm ay prt ylo yhi (s + 1) (p + 2) l (g + 1) ret out (upd sN (p + 1) (prt (k * 3 + 1))) (upd (upd sP p (nI (ph + 1))) (p + 1) 0) (upd sX p ret) (upd sK p 0) it (upd vr (l * 3 + v) (lit (a * 4))) := by
  obtain ⟨hs, hp, hl, hk, eN, eP, hph1⟩ := id ha
  have cp : (nI p).toNatClampNeg = p := nI_clamp (by omega)
  have ck : (nI k).toNatClampNeg = k := nI_clamp (by omega)
  have ip : vp_in (nI p) 220 := vp_in_nI hp (by decide)
  have ik : vp_in (nI k) 280 := vp_in_nI hk (by decide)
  have hph : ¬ nI ph = 0 := by subst hphe; decide
  refine ey_go ha (fun K kk => ⟨ip, nm_r (e' := nI k) (by rw [cp]; exact eN) ⟨ik, nm_r (e' := 22) (by rw [ck]; exact ho) ⟨ip, nm_r (e' := nI ph) (by rw [cp]; exact eP) ⟨ip, ip, nm_r (e' := upd sP p (nI (ph + 1))) (by rw [cp, eP, nI_1]) (br_f (by decide) (br_f (by decide) (br_f (by decide) (br_f (by decide) (br_f hph (br_f (by decide) (br_f (by decide) (br_f (by decide) (br_f (by decide) (br_f (by decide) (br_f (by decide) (?_))))))))))))⟩⟩⟩⟩) h
  subst hphe
  exact ey_qa22 hp hk ho (ey_q_go (ph := 1) hp1 hl hk (by omega) (by omega) ha16 (pk_us.trans hr) hy hy4 (by omega) hg hv en kk)
theorem yr_qb_end22 (ha : ey_at sN sP s p l k ph) (ho : op k = 22) (hph2 : 2 ≤ ph) (hr : ey_dec 22 ret ∨ ∃ a y, a < 16 ∧ sX p = nI a ∧ lsz a = nI y ∧ y ≤ ph - 1) (h : ey_F Z ob tks pl nds res cls prp lit lsz fb tk tv opd rk rn op nm ay prt ylo yhi s (p + 1) l g ret out sN sP sX sK it vr) : ey_F Z ob tks pl nds res cls prp lit lsz fb tk tv opd rk rn op nm ay prt ylo yhi (s + 1) p l g (sK p + ret) out sN (upd sP p (nI (ph + 1))) sX (upd sK p (sK p + ret)) it vr := by
  obtain ⟨hs, hp, hl, hk, eN, eP, hph1⟩ := id ha
  have hph : ¬ nI ph = 0 := nI_ne0 (by omega) (by omega)
  have cp : (nI p).toNatClampNeg = p := nI_clamp (by omega)
  have ck : (nI k).toNatClampNeg = k := nI_clamp (by omega)
  have ip : vp_in (nI p) 220 := vp_in_nI hp (by decide)
  have ik : vp_in (nI k) 280 := vp_in_nI hk (by decide)
  refine ey_go ha (fun K kk => ⟨ip, nm_r (e' := nI k) (by rw [cp]; exact eN) ⟨ik, nm_r (e' := 22) (by rw [ck]; exact ho) ⟨ip, nm_r (e' := nI ph) (by rw [cp]; exact eP) ⟨ip, ip, nm_r (e' := upd sP p (nI (ph + 1))) (by rw [cp, eP, nI_1]) (br_f (by decide) (br_f (by decide) (br_f (by decide) (br_f (by decide) (br_f hph (br_f (by decide) (br_f (by decide) (br_f (by decide) (br_f (by decide) (br_f (by decide) (br_f (by decide) (?_))))))))))))⟩⟩⟩⟩) h
  have kk' := ey_q146 (K := K) (ret := ret) (sK := upd sK p (sK p + ret)) hp (by rw [pk_us]; exact kk)
  refine ey_qb22 hp hk hph2 hph1 ho (fun _ => br_f (by decide) kk') (fun nd => ?_)
  obtain ⟨a, y, ha16, hx, hy, hyp⟩ := hr.resolve_left nd
  exact ey_q_out hp (by omega) hph1 ha16 hx hy hyp kk'
theorem yr_qb_stop22 (ha : ey_at sN sP s p l k ph) (ho : op k = 22) (hph2 : 2 ≤ ph) (hnd : ¬ ey_dec 22 ret) {a y : Nat} (ha16 : a < 16) (hx : sX p = nI a) (hy : lsz a = nI y) (hy4 : y ≤ 4) (hyp : ph - 1 < y) (hg : g = 40) (h : ey_F Z ob tks pl nds res cls prp lit lsz fb tk tv opd rk rn op nm ay prt ylo yhi s (p + 1) l g ret out sN sP sX sK it vr) : ey_E Z ob tks pl nds res cls prp lit lsz fb tk tv opd rk rn op nm ay prt ylo yhi 6 (if l = 0 then ay k else out) g := by
  obtain ⟨hs, hp, hl, hk, eN, eP, hph1⟩ := id ha
  have hph : ¬ nI ph = 0 := nI_ne0 (by omega) (by omega)
  have cp : (nI p).toNatClampNeg = p := nI_clamp (by omega)
  have ck : (nI k).toNatClampNeg = k := nI_clamp (by omega)
  have ip : vp_in (nI p) 220 := vp_in_nI hp (by decide)
  have ik : vp_in (nI k) 280 := vp_in_nI hk (by decide)
  refine ey_ef (x := 6) (p' := p + 1) (ret' := ret) (out' := out) (sN' := sN) (sP' := upd sP p (nI (ph + 1))) (sX' := sX) (sK' := upd sK p (sK p + ret)) (it' := it) (vr' := vr) ha (by decide) (fun K kk => ⟨ip, nm_r (e' := nI k) (by rw [cp]; exact eN) ⟨ik, nm_r (e' := 22) (by rw [ck]; exact ho) ⟨ip, nm_r (e' := nI ph) (by rw [cp]; exact eP) ⟨ip, ip, nm_r (e' := upd sP p (nI (ph + 1))) (by rw [cp, eP, nI_1]) (br_f (by decide) (br_f (by decide) (br_f (by decide) (br_f (by decide) (br_f hph (br_f (by decide) (br_f (by decide) (br_f (by decide) (br_f (by decide) (br_f (by decide) (br_f (by decide) (?_))))))))))))⟩⟩⟩⟩) h
  exact ey_qb22 hp hk hph2 hph1 ho (fun z => absurd z hnd) (fun _ => ey_q_stop hp hl hk (by omega) hph1 ha16 hx hy hy4 hyp hg kk)
theorem yr_qb_go22 (ha : ey_at sN sP s p l k ph) (ho : op k = 22) (hph2 : 2 ≤ ph) (hnd : ¬ ey_dec 22 ret) {a y : Nat} (ha16 : a < 16) (hx : sX p = nI a) (hy : lsz a = nI y) (hy4 : y ≤ 4) (hyp : ph - 1 < y) (hg : g < 40) {v : Nat} (hv : v < 3) (en : nm k = nI v) (hp1 : p + 1 < 220) (h : ey_F Z ob tks pl nds res cls prp lit lsz fb tk tv opd rk rn op nm ay prt ylo yhi s (p + 1) l g ret out sN sP sX sK it vr) : ey_F Z ob tks pl nds res cls prp lit lsz fb tk tv opd rk rn op nm ay prt ylo yhi (s + 1) (p + 2) l (g + 1) ret out (upd sN (p + 1) (prt (k * 3 + 1))) (upd (upd sP p (nI (ph + 1))) (p + 1) 0) sX (upd sK p (sK p + ret)) it (upd vr (l * 3 + v) (lit (a * 4 + (ph - 1)))) := by
  obtain ⟨hs, hp, hl, hk, eN, eP, hph1⟩ := id ha
  have hph : ¬ nI ph = 0 := nI_ne0 (by omega) (by omega)
  have cp : (nI p).toNatClampNeg = p := nI_clamp (by omega)
  have ck : (nI k).toNatClampNeg = k := nI_clamp (by omega)
  have ip : vp_in (nI p) 220 := vp_in_nI hp (by decide)
  have ik : vp_in (nI k) 280 := vp_in_nI hk (by decide)
  refine ey_go ha (fun K kk => ⟨ip, nm_r (e' := nI k) (by rw [cp]; exact eN) ⟨ik, nm_r (e' := 22) (by rw [ck]; exact ho) ⟨ip, nm_r (e' := nI ph) (by rw [cp]; exact eP) ⟨ip, ip, nm_r (e' := upd sP p (nI (ph + 1))) (by rw [cp, eP, nI_1]) (br_f (by decide) (br_f (by decide) (br_f (by decide) (br_f (by decide) (br_f hph (br_f (by decide) (br_f (by decide) (br_f (by decide) (br_f (by decide) (br_f (by decide) (br_f (by decide) (?_))))))))))))⟩⟩⟩⟩) h
  exact ey_qb22 hp hk hph2 hph1 ho (fun z => absurd z hnd) (fun _ => ey_q_go hp1 hl hk (by omega) hph1 ha16 hx hy hy4 hyp hg hv en kk)
theorem yr_qa_end {t : Nat} (ht : t = 20 ∨ t = 21 ∨ t = 22) (ha : ey_at sN sP s p l k ph) (ho : op k = nI t) (hphe : ph = 1) (hr : ret = -1 ∨ ∃ a, a < 16 ∧ ret = nI a ∧ lsz a = 0) (h : ey_F Z ob tks pl nds res cls prp lit lsz fb tk tv opd rk rn op nm ay prt ylo yhi s (p + 1) l g ret out sN sP sX sK it vr) : ey_F Z ob tks pl nds res cls prp lit lsz fb tk tv opd rk rn op nm ay prt ylo yhi (s + 1) p l g ((if t = 21 then 1 else 0)) out sN (upd sP p (nI (ph + 1))) (upd sX p ret) (upd sK p (if t = 21 then 1 else 0)) it vr := by
  rcases ht with rfl | rfl | rfl
  · exact yr_qa_end20 ha ho hphe hr h
  · exact yr_qa_end21 ha ho hphe hr h
  · exact yr_qa_end22 ha ho hphe hr h
theorem yr_qa_stop {t : Nat} (ht : t = 20 ∨ t = 21 ∨ t = 22) (ha : ey_at sN sP s p l k ph) (ho : op k = nI t) (hphe : ph = 1) {a y : Nat} (ha16 : a < 16) (hr : ret = nI a) (hy : lsz a = nI y) (hy4 : y ≤ 4) (hy0 : 0 < y) (hg : g = 40) (h : ey_F Z ob tks pl nds res cls prp lit lsz fb tk tv opd rk rn op nm ay prt ylo yhi s (p + 1) l g ret out sN sP sX sK it vr) : ey_E Z ob tks pl nds res cls prp lit lsz fb tk tv opd rk rn op nm ay prt ylo yhi 6 (if l = 0 then ay k else out) g := by
  rcases ht with rfl | rfl | rfl
  · exact yr_qa_stop20 ha ho hphe ha16 hr hy hy4 hy0 hg h
  · exact yr_qa_stop21 ha ho hphe ha16 hr hy hy4 hy0 hg h
  · exact yr_qa_stop22 ha ho hphe ha16 hr hy hy4 hy0 hg h
theorem yr_qa_go {t : Nat} (ht : t = 20 ∨ t = 21 ∨ t = 22) (ha : ey_at sN sP s p l k ph) (ho : op k = nI t) (hphe : ph = 1) {a y : Nat} (ha16 : a < 16) (hr : ret = nI a) (hy : lsz a = nI y) (hy4 : y ≤ 4) (hy0 : 0 < y) (hg : g < 40) {v : Nat} (hv : v < 3) (en : nm k = nI v) (hp1 : p + 1 < 220) (h : ey_F Z ob tks pl nds res cls prp lit lsz fb tk tv opd rk rn op nm ay prt ylo yhi s (p + 1) l g ret out sN sP sX sK it vr) : ey_F Z ob tks pl nds res cls prp lit lsz fb tk tv opd rk rn op nm ay prt ylo yhi (s + 1) (p + 2) l (g + 1) ret out (upd sN (p + 1) (prt (k * 3 + 1))) (upd (upd sP p (nI (ph + 1))) (p + 1) 0) (upd sX p ret) (upd sK p (if t = 21 then 1 else 0)) it (upd vr (l * 3 + v) (lit (a * 4))) := by
  rcases ht with rfl | rfl | rfl
  · exact yr_qa_go20 ha ho hphe ha16 hr hy hy4 hy0 hg hv en hp1 h
  · exact yr_qa_go21 ha ho hphe ha16 hr hy hy4 hy0 hg hv en hp1 h
  · exact yr_qa_go22 ha ho hphe ha16 hr hy hy4 hy0 hg hv en hp1 h
theorem yr_qb_end {t : Nat} (ht : t = 20 ∨ t = 21 ∨ t = 22) (ha : ey_at sN sP s p l k ph) (ho : op k = nI t) (hph2 : 2 ≤ ph) (hr : ey_dec t ret ∨ ∃ a y, a < 16 ∧ sX p = nI a ∧ lsz a = nI y ∧ y ≤ ph - 1) (h : ey_F Z ob tks pl nds res cls prp lit lsz fb tk tv opd rk rn op nm ay prt ylo yhi s (p + 1) l g ret out sN sP sX sK it vr) : ey_F Z ob tks pl nds res cls prp lit lsz fb tk tv opd rk rn op nm ay prt ylo yhi (s + 1) p l g ((if t = 22 then sK p + ret else ret)) out sN (upd sP p (nI (ph + 1))) sX (upd sK p (if t = 22 then sK p + ret else ret)) it vr := by
  rcases ht with rfl | rfl | rfl
  · exact yr_qb_end20 ha ho hph2 hr h
  · exact yr_qb_end21 ha ho hph2 hr h
  · exact yr_qb_end22 ha ho hph2 hr h
theorem yr_qb_stop {t : Nat} (ht : t = 20 ∨ t = 21 ∨ t = 22) (ha : ey_at sN sP s p l k ph) (ho : op k = nI t) (hph2 : 2 ≤ ph) (hnd : ¬ ey_dec t ret) {a y : Nat} (ha16 : a < 16) (hx : sX p = nI a) (hy : lsz a = nI y) (hy4 : y ≤ 4) (hyp : ph - 1 < y) (hg : g = 40) (h : ey_F Z ob tks pl nds res cls prp lit lsz fb tk tv opd rk rn op nm ay prt ylo yhi s (p + 1) l g ret out sN sP sX sK it vr) : ey_E Z ob tks pl nds res cls prp lit lsz fb tk tv opd rk rn op nm ay prt ylo yhi 6 (if l = 0 then ay k else out) g := by
  rcases ht with rfl | rfl | rfl
  · exact yr_qb_stop20 ha ho hph2 hnd ha16 hx hy hy4 hyp hg h
  · exact yr_qb_stop21 ha ho hph2 hnd ha16 hx hy hy4 hyp hg h
  · exact yr_qb_stop22 ha ho hph2 hnd ha16 hx hy hy4 hyp hg h
theorem yr_qb_go {t : Nat} (ht : t = 20 ∨ t = 21 ∨ t = 22) (ha : ey_at sN sP s p l k ph) (ho : op k = nI t) (hph2 : 2 ≤ ph) (hnd : ¬ ey_dec t ret) {a y : Nat} (ha16 : a < 16) (hx : sX p = nI a) (hy : lsz a = nI y) (hy4 : y ≤ 4) (hyp : ph - 1 < y) (hg : g < 40) {v : Nat} (hv : v < 3) (en : nm k = nI v) (hp1 : p + 1 < 220) (h : ey_F Z ob tks pl nds res cls prp lit lsz fb tk tv opd rk rn op nm ay prt ylo yhi s (p + 1) l g ret out sN sP sX sK it vr) : ey_F Z ob tks pl nds res cls prp lit lsz fb tk tv opd rk rn op nm ay prt ylo yhi (s + 1) (p + 2) l (g + 1) ret out (upd sN (p + 1) (prt (k * 3 + 1))) (upd (upd sP p (nI (ph + 1))) (p + 1) 0) sX (upd sK p (if t = 22 then sK p + ret else ret)) it (upd vr (l * 3 + v) (lit (a * 4 + (ph - 1)))) := by
  rcases ht with rfl | rfl | rfl
  · exact yr_qb_go20 ha ho hph2 hnd ha16 hx hy hy4 hyp hg hv en hp1 h
  · exact yr_qb_go21 ha ho hph2 hnd ha16 hx hy hy4 hyp hg hv en hp1 h
  · exact yr_qb_go22 ha ho hph2 hnd ha16 hx hy hy4 hyp hg hv en hp1 h
end
