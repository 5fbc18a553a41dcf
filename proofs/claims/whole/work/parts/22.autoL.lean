section
variable {oc cp lc kc dp vc er ep uu : Int32} {cls num lnk lsz lit fb rk rl ro ra rt rp co kd fr fn fi vs ll li lt : Nat → Int32} {ob pl nds sts res era usd sp lv ret out : Int32} {ycls prp lst siz dnd yrk rn op nm ay prt ylo yhi sN sP sX sK it vr : Nat → Int32} {tk tv : Nat → Int32} {n : Nat} {T : Nat → Nat}
theorem ca_stepX7 (hK : ∀ i, i < n → tk i = nI (T i) ∧ T i < 23) {i : Nat} {s : List (Nat × Nat)} {oo sk opd : Nat → Int32} {z0 : Int32} (hi : i < n) (hs40 : s.length < 40) (hm : s.length < 41) (hl : s.length ≤ i) (hR : ca_RX T oo sk i s) (hY : ca_RY T opd s) (hz0 : s = [] → z0 = -1) (hz1 : ∀ e r, s = e :: r → z0 = ca_cl (T e.1)) (ht : T i = 7) (ek : tk (nI i).toNatClampNeg = 7) (hi40 : i < 40) :
  (ca_st T i 1 s = none ∧ (∃ (sc' : Int32) (oo' sk' : Nat → Int32), ∀ post : Int32 → SX → Prop, post 3 (oc, nI n, cp, lc, sc', kc, dp, vc, er, ep, uu, cls, num, lnk, lsz, lit, fb, tk, tv, rk, rl, ro, ra, rt, rp, oo', co, sk', kd, fr, fn, fi, vs, ll, li, lt) → wpX_wantAfter post (oc, nI n, cp, lc, nI s.length, kc, dp, vc, er, ep, uu, cls, num, lnk, lsz, lit, fb, tk, tv, rk, rl, ro, ra, rt, rp, oo, co, sk, kd, fr, fn, fi, vs, ll, li, lt) (nI i) 1) ∧ (∃ opd' : Nat → Int32, ∀ (post : Int32 → SY → Prop) (J6 : Int32 → Int32 → Int32 → (Nat → Int32) → (Nat → Int32) → (Nat → Int32) → (Nat → Int32) → (Nat → Int32) → (Nat → Int32) → (Nat → Int32) → (Nat → Int32) → (Nat → Int32) → (Nat → Int32) → (Nat → Int32) → (Nat → Int32) → (Nat → Int32) → (Nat → Int32) → (Nat → Int32) → (Nat → Int32) → (Nat → Int32) → (Nat → Int32) → (Nat → Int32) → (Nat → Int32) → (Nat → Int32) → (Nat → Int32) → Prop), post (nI i) (ob, nI n, pl, nds, sts, res, era, usd, sp, lv, ret, out, ycls, prp, lst, siz, dnd, tk, tv, opd', yrk, rn, op, nm, ay, prt, ylo, yhi, sN, sP, sX, sK, it, vr) → wY_misfit_38 post J6 1 (nI s.length) (nI i) 7 z0 ob (nI n) pl nds sts res era usd sp lv ret out ycls prp lst siz dnd (tk) (tv) opd yrk rn op nm ay prt ylo yhi sN sP sX sK it vr)) ∨
  (∃ (w' : Nat) (s' : List (Nat × Nat)), ca_st T i 1 s = some (w', s') ∧ w' < 3 ∧ s'.length ≤ i + 1 ∧ (∃ oo' sk' : Nat → Int32, ca_RX T oo' sk' (i + 1) s' ∧ (∀ j, j < i → oo' j = oo j) ∧ (7 = 7 ∨ 7 = 9 → ∃ e r, s = e :: r ∧ oo' i = nI e.2) ∧ ∀ post : Int32 → SX → Prop, post (nI w') (oc, nI n, cp, lc, nI s'.length, kc, dp, vc, er, ep, uu, cls, num, lnk, lsz, lit, fb, tk, tv, rk, rl, ro, ra, rt, rp, oo', co, sk', kd, fr, fn, fi, vs, ll, li, lt) → wpX_wantAfter post (oc, nI n, cp, lc, nI s.length, kc, dp, vc, er, ep, uu, cls, num, lnk, lsz, lit, fb, tk, tv, rk, rl, ro, ra, rt, rp, oo, co, sk, kd, fr, fn, fi, vs, ll, li, lt) (nI i) 1) ∧
    (∃ opd' : Nat → Int32, ca_RY T opd' s' ∧ ∀ (post : Int32 → SY → Prop) (J6 : Int32 → Int32 → Int32 → (Nat → Int32) → (Nat → Int32) → (Nat → Int32) → (Nat → Int32) → (Nat → Int32) → (Nat → Int32) → (Nat → Int32) → (Nat → Int32) → (Nat → Int32) → (Nat → Int32) → (Nat → Int32) → (Nat → Int32) → (Nat → Int32) → (Nat → Int32) → (Nat → Int32) → (Nat → Int32) → (Nat → Int32) → (Nat → Int32) → (Nat → Int32) → (Nat → Int32) → (Nat → Int32) → (Nat → Int32) → Prop), J6 (nI w') (nI s'.length) (nI (i + 1)) ycls prp lst siz dnd (tk) (tv) (opd') yrk rn op nm ay prt ylo yhi sN sP sX sK it vr → wY_misfit_38 post J6 1 (nI s.length) (nI i) 7 z0 ob (nI n) pl nds sts res era usd sp lv ret out ycls prp lst siz dnd (tk) (tv) opd yrk rn op nm ay prt ylo yhi sN sP sX sK it vr)) := by
  cases s with
  | nil =>
    rw [hz0 rfl]
    exact Or.inl ⟨by unfold ca_st; rw [ht]; rfl, ⟨_, _, _, fun post h => cx_close0 hi40 ek h⟩, ⟨_, fun post J6 h => cy_7_e (m := 0) (by decide) h⟩⟩
  | cons e r =>
    rw [hz1 e r rfl]
    rw [List.length_cons] at hs40 hm hl
    obtain ⟨r1, r2, r3, r4, r5, rc, r6⟩ := id hR
    obtain ⟨q1, q2⟩ := id hY
    obtain ⟨hke, hTe⟩ := hK e.1 (by omega)
    by_cases h3 : T e.1 = 9 ∨ T e.1 = 6 ∨ T e.1 = 5
    · have c6 : ca_cl (T e.1) = 6 := by
        unfold ca_cl; rw [if_neg (by omega), if_neg (by omega)]
      rw [c6]
      refine Or.inr ⟨1, r, by unfold ca_st; rw [ht]; exact if_pos h3, by decide, by omega, ⟨_, sk, ca_RX_i (ca_RX_oo (x := nI e.2) r6), fun j hj => pk_un (by omega), fun _ => ⟨e, r, rfl, pk_us⟩, fun post h => ?_⟩, ⟨opd, q2, fun post J6 h => cy_7_6 (m := r.length) (by omega) h⟩⟩
      exact cx_close hi40 (by omega) ek hR hke hTe (fun _ => h) (fun z => absurd h3 z)
    · refine Or.inl ⟨by unfold ca_st; rw [ht]; exact if_neg h3, ⟨_, _, _, fun post h => cx_close hi40 (by omega) ek hR hke hTe (fun z => absurd z h3) (fun _ => h)⟩, ⟨opd, fun post J6 h => ?_⟩⟩
      by_cases h8 : T e.1 = 8
      · rw [show ca_cl (T e.1) = 8 from if_pos h8]
        exact cy_7_8 (m := r.length) (by omega) h
      · by_cases h20 : 20 ≤ T e.1
        · rw [show ca_cl (T e.1) = 20 from (if_neg h8).trans (if_pos h20)]
          exact cy_7_20 (m := r.length) (by omega) h
        · exact absurd rc (by omega)
theorem ca_stepX9 (hK : ∀ i, i < n → tk i = nI (T i) ∧ T i < 23) {i : Nat} {s : List (Nat × Nat)} {oo sk opd : Nat → Int32} {z0 : Int32} (hi : i < n) (hs40 : s.length < 40) (hm : s.length < 41) (hl : s.length ≤ i) (hR : ca_RX T oo sk i s) (hY : ca_RY T opd s) (hz0 : s = [] → z0 = -1) (hz1 : ∀ e r, s = e :: r → z0 = ca_cl (T e.1)) (ht : T i = 9) (ek : tk (nI i).toNatClampNeg = 9) (hi40 : i < 40) :
  (ca_st T i 1 s = none ∧ (∃ (sc' : Int32) (oo' sk' : Nat → Int32), ∀ post : Int32 → SX → Prop, post 3 (oc, nI n, cp, lc, sc', kc, dp, vc, er, ep, uu, cls, num, lnk, lsz, lit, fb, tk, tv, rk, rl, ro, ra, rt, rp, oo', co, sk', kd, fr, fn, fi, vs, ll, li, lt) → wpX_wantAfter post (oc, nI n, cp, lc, nI s.length, kc, dp, vc, er, ep, uu, cls, num, lnk, lsz, lit, fb, tk, tv, rk, rl, ro, ra, rt, rp, oo, co, sk, kd, fr, fn, fi, vs, ll, li, lt) (nI i) 1) ∧ (∃ opd' : Nat → Int32, ∀ (post : Int32 → SY → Prop) (J6 : Int32 → Int32 → Int32 → (Nat → Int32) → (Nat → Int32) → (Nat → Int32) → (Nat → Int32) → (Nat → Int32) → (Nat → Int32) → (Nat → Int32) → (Nat → Int32) → (Nat → Int32) → (Nat → Int32) → (Nat → Int32) → (Nat → Int32) → (Nat → Int32) → (Nat → Int32) → (Nat → Int32) → (Nat → Int32) → (Nat → Int32) → (Nat → Int32) → (Nat → Int32) → (Nat → Int32) → (Nat → Int32) → (Nat → Int32) → Prop), post (nI i) (ob, nI n, pl, nds, sts, res, era, usd, sp, lv, ret, out, ycls, prp, lst, siz, dnd, tk, tv, opd', yrk, rn, op, nm, ay, prt, ylo, yhi, sN, sP, sX, sK, it, vr) → wY_misfit_38 post J6 1 (nI s.length) (nI i) 9 z0 ob (nI n) pl nds sts res era usd sp lv ret out ycls prp lst siz dnd (tk) (tv) opd yrk rn op nm ay prt ylo yhi sN sP sX sK it vr)) ∨
  (∃ (w' : Nat) (s' : List (Nat × Nat)), ca_st T i 1 s = some (w', s') ∧ w' < 3 ∧ s'.length ≤ i + 1 ∧ (∃ oo' sk' : Nat → Int32, ca_RX T oo' sk' (i + 1) s' ∧ (∀ j, j < i → oo' j = oo j) ∧ (9 = 7 ∨ 9 = 9 → ∃ e r, s = e :: r ∧ oo' i = nI e.2) ∧ ∀ post : Int32 → SX → Prop, post (nI w') (oc, nI n, cp, lc, nI s'.length, kc, dp, vc, er, ep, uu, cls, num, lnk, lsz, lit, fb, tk, tv, rk, rl, ro, ra, rt, rp, oo', co, sk', kd, fr, fn, fi, vs, ll, li, lt) → wpX_wantAfter post (oc, nI n, cp, lc, nI s.length, kc, dp, vc, er, ep, uu, cls, num, lnk, lsz, lit, fb, tk, tv, rk, rl, ro, ra, rt, rp, oo, co, sk, kd, fr, fn, fi, vs, ll, li, lt) (nI i) 1) ∧
    (∃ opd' : Nat → Int32, ca_RY T opd' s' ∧ ∀ (post : Int32 → SY → Prop) (J6 : Int32 → Int32 → Int32 → (Nat → Int32) → (Nat → Int32) → (Nat → Int32) → (Nat → Int32) → (Nat → Int32) → (Nat → Int32) → (Nat → Int32) → (Nat → Int32) → (Nat → Int32) → (Nat → Int32) → (Nat → Int32) → (Nat → Int32) → (Nat → Int32) → (Nat → Int32) → (Nat → Int32) → (Nat → Int32) → (Nat → Int32) → (Nat → Int32) → (Nat → Int32) → (Nat → Int32) → (Nat → Int32) → (Nat → Int32) → Prop), J6 (nI w') (nI s'.length) (nI (i + 1)) ycls prp lst siz dnd (tk) (tv) (opd') yrk rn op nm ay prt ylo yhi sN sP sX sK it vr → wY_misfit_38 post J6 1 (nI s.length) (nI i) 9 z0 ob (nI n) pl nds sts res era usd sp lv ret out ycls prp lst siz dnd (tk) (tv) opd yrk rn op nm ay prt ylo yhi sN sP sX sK it vr)) := by
  cases s with
  | nil =>
    rw [hz0 rfl]
    exact Or.inl ⟨by unfold ca_st; rw [ht]; rfl, ⟨_, _, _, fun post h => cx_colon0 hi40 ek h⟩, ⟨_, fun post J6 h => cy_9_e (m := 0) (by decide) h⟩⟩
  | cons e r =>
    rw [hz1 e r rfl]
    rw [List.length_cons] at hs40 hm hl
    obtain ⟨r1, r2, r3, r4, r5, rc, r6⟩ := id hR
    obtain ⟨q1, q2⟩ := id hY
    obtain ⟨hke, hTe⟩ := hK e.1 (by omega)
    by_cases h8 : T e.1 = 8
    · rw [show ca_cl (T e.1) = 8 from if_pos h8]
      refine Or.inr ⟨0, r, by unfold ca_st; rw [ht]; exact if_pos h8, by decide, by omega, ⟨_, sk, ca_RX_i (ca_RX_oo (x := nI e.1) r6), fun j hj => pk_un (by omega), fun _ => ⟨e, r, rfl, by rw [r5 (by omega)]; exact pk_us⟩, fun post h => ?_⟩, ⟨opd, q2, fun post J6 h => cy_9_8 (m := r.length) (by omega) h⟩⟩
      exact cx_colon hi40 (by omega) ek hR hke hTe (fun _ => h) (fun z => absurd z (by omega)) (fun z => absurd h8 z)
    · by_cases h20 : 20 ≤ T e.1
      · rw [show ca_cl (T e.1) = 20 from (if_neg h8).trans (if_pos h20)]
        refine Or.inr ⟨0, (i, e.2) :: r, by unfold ca_st; rw [ht]; exact (if_neg h8).trans (if_pos h20), by decide, by rw [List.length_cons]; omega, ⟨_, upd sk r.length (nI i), ⟨pk_us, by show i < i + 1; omega, by show e.2 ≤ i; omega, fun _ => ?_, fun z => absurd ht z, by show T i = 5 ∨ T i = 6 ∨ T i = 8 ∨ T i = 9 ∨ 20 ≤ T i; omega, ca_RX_i (ca_RX_sk (Nat.le_refl _) (ca_RX_oo (x := nI e.1) r6))⟩, fun j hj => pk_un (by omega), fun _ => ⟨e, r, rfl, by rw [r5 (by omega)]; exact pk_us⟩, fun post h => ?_⟩, ⟨_, ⟨pk_us.trans (by show _ = ca_cl (T i); rw [ht]; rfl), ca_RY_up (Nat.le_refl _) q2⟩, fun post J6 h => cy_9_20 (m := r.length) (by omega) h⟩⟩
        · rw [r5 (by omega)]; exact pk_us
        · exact cx_colon hi40 (by omega) ek hR hke hTe (fun z => absurd z h8) (fun _ => h) (fun _ z => absurd h20 z)
      · rw [show ca_cl (T e.1) = 6 from (if_neg h8).trans (if_neg h20)]
        exact Or.inl ⟨by unfold ca_st; rw [ht]; exact (if_neg h8).trans (if_neg h20), ⟨_, _, _, fun post h => cx_colon hi40 (by omega) ek hR hke hTe (fun z => absurd z h8) (fun z => absurd z h20) (fun _ _ => h)⟩, ⟨_, fun post J6 h => cy_9_6 (m := r.length) (by omega) h⟩⟩
theorem ca_step (hn : n ≤ 40) (hK : ∀ i, i < n → tk i = nI (T i) ∧ T i < 23) {i w : Nat} {s : List (Nat × Nat)} {oo sk opd : Nat → Int32} {z0 : Int32} (hi : i < n) (hw : w < 3) (hl : s.length ≤ i) (hR : ca_RX T oo sk i s) (hY : ca_RY T opd s) (hz0 : s = [] → z0 = -1) (hz1 : ∀ e r, s = e :: r → z0 = ca_cl (T e.1)) :
  (ca_st T i w s = none ∧ (∃ (sc' : Int32) (oo' sk' : Nat → Int32), ∀ post : Int32 → SX → Prop, post 3 (oc, nI n, cp, lc, sc', kc, dp, vc, er, ep, uu, cls, num, lnk, lsz, lit, fb, tk, tv, rk, rl, ro, ra, rt, rp, oo', co, sk', kd, fr, fn, fi, vs, ll, li, lt) → wpX_wantAfter post (oc, nI n, cp, lc, nI s.length, kc, dp, vc, er, ep, uu, cls, num, lnk, lsz, lit, fb, tk, tv, rk, rl, ro, ra, rt, rp, oo, co, sk, kd, fr, fn, fi, vs, ll, li, lt) (nI i) (nI w)) ∧ (∃ opd' : Nat → Int32, ∀ (post : Int32 → SY → Prop) (J6 : Int32 → Int32 → Int32 → (Nat → Int32) → (Nat → Int32) → (Nat → Int32) → (Nat → Int32) → (Nat → Int32) → (Nat → Int32) → (Nat → Int32) → (Nat → Int32) → (Nat → Int32) → (Nat → Int32) → (Nat → Int32) → (Nat → Int32) → (Nat → Int32) → (Nat → Int32) → (Nat → Int32) → (Nat → Int32) → (Nat → Int32) → (Nat → Int32) → (Nat → Int32) → (Nat → Int32) → (Nat → Int32) → (Nat → Int32) → Prop), post (nI i) (ob, nI n, pl, nds, sts, res, era, usd, sp, lv, ret, out, ycls, prp, lst, siz, dnd, tk, tv, opd', yrk, rn, op, nm, ay, prt, ylo, yhi, sN, sP, sX, sK, it, vr) → wY_misfit_38 post J6 (nI w) (nI s.length) (nI i) (nI (T i)) z0 ob (nI n) pl nds sts res era usd sp lv ret out ycls prp lst siz dnd (tk) (tv) opd yrk rn op nm ay prt ylo yhi sN sP sX sK it vr)) ∨
  (∃ (w' : Nat) (s' : List (Nat × Nat)), ca_st T i w s = some (w', s') ∧ w' < 3 ∧ s'.length ≤ i + 1 ∧ (∃ oo' sk' : Nat → Int32, ca_RX T oo' sk' (i + 1) s' ∧ (∀ j, j < i → oo' j = oo j) ∧ (T i = 7 ∨ T i = 9 → ∃ e r, s = e :: r ∧ oo' i = nI e.2) ∧ ∀ post : Int32 → SX → Prop, post (nI w') (oc, nI n, cp, lc, nI s'.length, kc, dp, vc, er, ep, uu, cls, num, lnk, lsz, lit, fb, tk, tv, rk, rl, ro, ra, rt, rp, oo', co, sk', kd, fr, fn, fi, vs, ll, li, lt) → wpX_wantAfter post (oc, nI n, cp, lc, nI s.length, kc, dp, vc, er, ep, uu, cls, num, lnk, lsz, lit, fb, tk, tv, rk, rl, ro, ra, rt, rp, oo, co, sk, kd, fr, fn, fi, vs, ll, li, lt) (nI i) (nI w)) ∧
    (∃ opd' : Nat → Int32, ca_RY T opd' s' ∧ ∀ (post : Int32 → SY → Prop) (J6 : Int32 → Int32 → Int32 → (Nat → Int32) → (Nat → Int32) → (Nat → Int32) → (Nat → Int32) → (Nat → Int32) → (Nat → Int32) → (Nat → Int32) → (Nat → Int32) → (Nat → Int32) → (Nat → Int32) → (Nat → Int32) → (Nat → Int32) → (Nat → Int32) → (Nat → Int32) → (Nat → Int32) → (Nat → Int32) → (Nat → Int32) → (Nat → Int32) → (Nat → Int32) → (Nat → Int32) → (Nat → Int32) → (Nat → Int32) → Prop), J6 (nI w') (nI s'.length) (nI (i + 1)) ycls prp lst siz dnd (tk) (tv) (opd') yrk rn op nm ay prt ylo yhi sN sP sX sK it vr → wY_misfit_38 post J6 (nI w) (nI s.length) (nI i) (nI (T i)) z0 ob (nI n) pl nds sts res era usd sp lv ret out ycls prp lst siz dnd (tk) (tv) opd yrk rn op nm ay prt ylo yhi sN sP sX sK it vr)) := by
  obtain ⟨hk, hT⟩ := hK i hi
  have hi40 : i < 40 := by omega
  have hs40 : s.length < 40 := by omega
  have hm : s.length < 41 := by omega
  have ek : tk (nI i).toNatClampNeg = nI (T i) := by rw [nI_clamp (by omega)]; exact hk
  have hw3 : w = 0 ∨ w = 1 ∨ w = 2 := by omega
  have ht : T i = 0 ∨ T i = 1 ∨ T i = 2 ∨ T i = 3 ∨ T i = 4 ∨ T i = 5 ∨ T i = 6 ∨ T i = 7 ∨ T i = 8 ∨ T i = 9 ∨ T i = 10 ∨ T i = 11 ∨ T i = 12 ∨ T i = 13 ∨ T i = 14 ∨ T i = 15 ∨ T i = 16 ∨ T i = 17 ∨ T i = 18 ∨ T i = 19 ∨ T i = 20 ∨ T i = 21 ∨ T i = 22 := by omega
  rcases hw3 with rfl | rfl | rfl
  · rcases ht with ht | ht | ht | ht | ht | ht | ht | ht | ht | ht | ht | ht | ht | ht | ht | ht | ht | ht | ht | ht | ht | ht | ht
    · rw [ht] at ek ⊢
      exact Or.inr ⟨1, s, (by unfold ca_st; rw [ht]; rfl), by decide, by omega, ⟨oo, sk, ca_RX_i hR, fun _ _ => rfl, fun z => absurd z (by omega), fun post h => cx_0_0 hi40 hs40 ek h⟩, ⟨opd, hY, fun post J6 h => cy_0_0 hm h⟩⟩
    · rw [ht] at ek ⊢
      exact Or.inl ⟨(by unfold ca_st; rw [ht]; rfl), ⟨_, _, _, fun post h => cx_0_1 hi40 hs40 ek h⟩, ⟨_, fun post J6 h => cy_0_1 hm h⟩⟩
    · rw [ht] at ek ⊢
      exact Or.inl ⟨(by unfold ca_st; rw [ht]; rfl), ⟨_, _, _, fun post h => cx_0_2 hi40 hs40 ek h⟩, ⟨_, fun post J6 h => cy_0_2 hm h⟩⟩
    · rw [ht] at ek ⊢
      exact Or.inr ⟨1, s, (by unfold ca_st; rw [ht]; rfl), by decide, by omega, ⟨oo, sk, ca_RX_i hR, fun _ _ => rfl, fun z => absurd z (by omega), fun post h => cx_0_3 hi40 hs40 ek h⟩, ⟨opd, hY, fun post J6 h => cy_0_3 hm h⟩⟩
    · rw [ht] at ek ⊢
      exact Or.inr ⟨1, s, (by unfold ca_st; rw [ht]; rfl), by decide, by omega, ⟨oo, sk, ca_RX_i hR, fun _ _ => rfl, fun z => absurd z (by omega), fun post h => cx_0_4 hi40 hs40 ek h⟩, ⟨opd, hY, fun post J6 h => cy_0_4 hm h⟩⟩
    · rw [ht] at ek ⊢
      exact Or.inr ⟨2, (i, i) :: s, (by unfold ca_st; rw [ht]; rfl), by decide, by rw [List.length_cons]; omega, ⟨oo, _, ⟨pk_us, by show i < i + 1; omega, Nat.le_refl _, fun z => absurd (ht.symm.trans z) (by decide), fun _ => rfl, by show T i = 5 ∨ T i = 6 ∨ T i = 8 ∨ T i = 9 ∨ 20 ≤ T i; omega, ca_RX_i (ca_RX_sk (Nat.le_refl _) hR)⟩, fun _ _ => rfl, fun z => absurd z (by omega), fun post h => cx_0_5 hi40 hs40 ek h⟩, ⟨_, ⟨pk_us.trans (by show _ = ca_cl (T i); rw [ht]; rfl), ca_RY_up (Nat.le_refl _) hY⟩, fun post J6 h => cy_0_5 hm h⟩⟩
    · rw [ht] at ek ⊢
      exact Or.inr ⟨0, (i, i) :: s, (by unfold ca_st; rw [ht]; rfl), by decide, by rw [List.length_cons]; omega, ⟨oo, _, ⟨pk_us, by show i < i + 1; omega, Nat.le_refl _, fun z => absurd (ht.symm.trans z) (by decide), fun _ => rfl, by show T i = 5 ∨ T i = 6 ∨ T i = 8 ∨ T i = 9 ∨ 20 ≤ T i; omega, ca_RX_i (ca_RX_sk (Nat.le_refl _) hR)⟩, fun _ _ => rfl, fun z => absurd z (by omega), fun post h => cx_0_6 hi40 hs40 ek h⟩, ⟨_, ⟨pk_us.trans (by show _ = ca_cl (T i); rw [ht]; rfl), ca_RY_up (Nat.le_refl _) hY⟩, fun post J6 h => cy_0_6 hm h⟩⟩
    · rw [ht] at ek ⊢
      exact Or.inl ⟨(by unfold ca_st; rw [ht]; rfl), ⟨_, _, _, fun post h => cx_0_7 hi40 hs40 ek h⟩, ⟨_, fun post J6 h => cy_0_7 hm h⟩⟩
    · rw [ht] at ek ⊢
      exact Or.inl ⟨(by unfold ca_st; rw [ht]; rfl), ⟨_, _, _, fun post h => cx_0_8 hi40 hs40 ek h⟩, ⟨_, fun post J6 h => cy_0_8 hm h⟩⟩
    · rw [ht] at ek ⊢
      exact Or.inl ⟨(by unfold ca_st; rw [ht]; rfl), ⟨_, _, _, fun post h => cx_0_9 hi40 hs40 ek h⟩, ⟨_, fun post J6 h => cy_0_9 hm h⟩⟩
    · rw [ht] at ek ⊢
      exact Or.inl ⟨(by unfold ca_st; rw [ht]; rfl), ⟨_, _, _, fun post h => cx_0_10 hi40 hs40 ek h⟩, ⟨_, fun post J6 h => cy_0_10 hm h⟩⟩
    · rw [ht] at ek ⊢
      exact Or.inl ⟨(by unfold ca_st; rw [ht]; rfl), ⟨_, _, _, fun post h => cx_0_11 hi40 hs40 ek h⟩, ⟨_, fun post J6 h => cy_0_11 hm h⟩⟩
    · rw [ht] at ek ⊢
      exact Or.inr ⟨0, s, (by unfold ca_st; rw [ht]; rfl), by decide, by omega, ⟨oo, sk, ca_RX_i hR, fun _ _ => rfl, fun z => absurd z (by omega), fun post h => cx_0_12 hi40 hs40 ek h⟩, ⟨opd, hY, fun post J6 h => cy_0_12 hm h⟩⟩
    · rw [ht] at ek ⊢
      exact Or.inl ⟨(by unfold ca_st; rw [ht]; rfl), ⟨_, _, _, fun post h => cx_0_13 hi40 hs40 ek h⟩, ⟨_, fun post J6 h => cy_0_13 hm h⟩⟩
    · rw [ht] at ek ⊢
      exact Or.inl ⟨(by unfold ca_st; rw [ht]; rfl), ⟨_, _, _, fun post h => cx_0_14 hi40 hs40 ek h⟩, ⟨_, fun post J6 h => cy_0_14 hm h⟩⟩
    · rw [ht] at ek ⊢
      exact Or.inl ⟨(by unfold ca_st; rw [ht]; rfl), ⟨_, _, _, fun post h => cx_0_15 hi40 hs40 ek h⟩, ⟨_, fun post J6 h => cy_0_15 hm h⟩⟩
    · rw [ht] at ek ⊢
      exact Or.inr ⟨0, s, (by unfold ca_st; rw [ht]; rfl), by decide, by omega, ⟨oo, sk, ca_RX_i hR, fun _ _ => rfl, fun z => absurd z (by omega), fun post h => cx_0_16 hi40 hs40 ek h⟩, ⟨opd, hY, fun post J6 h => cy_0_16 hm h⟩⟩
    · rw [ht] at ek ⊢
      exact Or.inl ⟨(by unfold ca_st; rw [ht]; rfl), ⟨_, _, _, fun post h => cx_0_17 hi40 hs40 ek h⟩, ⟨_, fun post J6 h => cy_0_17 hm h⟩⟩
    · rw [ht] at ek ⊢
      exact Or.inl ⟨(by unfold ca_st; rw [ht]; rfl), ⟨_, _, _, fun post h => cx_0_18 hi40 hs40 ek h⟩, ⟨_, fun post J6 h => cy_0_18 hm h⟩⟩
    · rw [ht] at ek ⊢
      exact Or.inr ⟨1, s, (by unfold ca_st; rw [ht]; rfl), by decide, by omega, ⟨oo, sk, ca_RX_i hR, fun _ _ => rfl, fun z => absurd z (by omega), fun post h => cx_0_19 hi40 hs40 ek h⟩, ⟨opd, hY, fun post J6 h => cy_0_19 hm h⟩⟩
    · rw [ht] at ek ⊢
      exact Or.inr ⟨2, (i, i) :: s, (by unfold ca_st; rw [ht]; rfl), by decide, by rw [List.length_cons]; omega, ⟨oo, _, ⟨pk_us, by show i < i + 1; omega, Nat.le_refl _, fun z => absurd (ht.symm.trans z) (by decide), fun _ => rfl, by show T i = 5 ∨ T i = 6 ∨ T i = 8 ∨ T i = 9 ∨ 20 ≤ T i; omega, ca_RX_i (ca_RX_sk (Nat.le_refl _) hR)⟩, fun _ _ => rfl, fun z => absurd z (by omega), fun post h => cx_0_20 hi40 hs40 ek h⟩, ⟨_, ⟨pk_us.trans (by show _ = ca_cl (T i); rw [ht]; rfl), ca_RY_up (Nat.le_refl _) hY⟩, fun post J6 h => cy_0_20 hm h⟩⟩
    · rw [ht] at ek ⊢
      exact Or.inr ⟨2, (i, i) :: s, (by unfold ca_st; rw [ht]; rfl), by decide, by rw [List.length_cons]; omega, ⟨oo, _, ⟨pk_us, by show i < i + 1; omega, Nat.le_refl _, fun z => absurd (ht.symm.trans z) (by decide), fun _ => rfl, by show T i = 5 ∨ T i = 6 ∨ T i = 8 ∨ T i = 9 ∨ 20 ≤ T i; omega, ca_RX_i (ca_RX_sk (Nat.le_refl _) hR)⟩, fun _ _ => rfl, fun z => absurd z (by omega), fun post h => cx_0_21 hi40 hs40 ek h⟩, ⟨_, ⟨pk_us.trans (by show _ = ca_cl (T i); rw [ht]; rfl), ca_RY_up (Nat.le_refl _) hY⟩, fun post J6 h => cy_0_21 hm h⟩⟩
    · rw [ht] at ek ⊢
      exact Or.inr ⟨2, (i, i) :: s, (by unfold ca_st; rw [ht]; rfl), by decide, by rw [List.length_cons]; omega, ⟨oo, _, ⟨pk_us, by show i < i + 1; omega, Nat.le_refl _, fun z => absurd (ht.symm.trans z) (by decide), fun _ => rfl, by show T i = 5 ∨ T i = 6 ∨ T i = 8 ∨ T i = 9 ∨ 20 ≤ T i; omega, ca_RX_i (ca_RX_sk (Nat.le_refl _) hR)⟩, fun _ _ => rfl, fun z => absurd z (by omega), fun post h => cx_0_22 hi40 hs40 ek h⟩, ⟨_, ⟨pk_us.trans (by show _ = ca_cl (T i); rw [ht]; rfl), ca_RY_up (Nat.le_refl _) hY⟩, fun post J6 h => cy_0_22 hm h⟩⟩
  · rcases ht with ht | ht | ht | ht | ht | ht | ht | ht | ht | ht | ht | ht | ht | ht | ht | ht | ht | ht | ht | ht | ht | ht | ht
    · rw [ht] at ek ⊢
      exact Or.inl ⟨(by unfold ca_st; rw [ht]; rfl), ⟨_, _, _, fun post h => cx_1_0 hi40 hs40 ek h⟩, ⟨_, fun post J6 h => cy_1_0 hm h⟩⟩
    · rw [ht] at ek ⊢
      exact Or.inr ⟨1, s, (by unfold ca_st; rw [ht]; rfl), by decide, by omega, ⟨oo, sk, ca_RX_i hR, fun _ _ => rfl, fun z => absurd z (by omega), fun post h => cx_1_1 hi40 hs40 ek h⟩, ⟨opd, hY, fun post J6 h => cy_1_1 hm h⟩⟩
    · rw [ht] at ek ⊢
      exact Or.inr ⟨1, s, (by unfold ca_st; rw [ht]; rfl), by decide, by omega, ⟨oo, sk, ca_RX_i hR, fun _ _ => rfl, fun z => absurd z (by omega), fun post h => cx_1_2 hi40 hs40 ek h⟩, ⟨opd, hY, fun post J6 h => cy_1_2 hm h⟩⟩
    · rw [ht] at ek ⊢
      exact Or.inl ⟨(by unfold ca_st; rw [ht]; rfl), ⟨_, _, _, fun post h => cx_1_3 hi40 hs40 ek h⟩, ⟨_, fun post J6 h => cy_1_3 hm h⟩⟩
    · rw [ht] at ek ⊢
      exact Or.inl ⟨(by unfold ca_st; rw [ht]; rfl), ⟨_, _, _, fun post h => cx_1_4 hi40 hs40 ek h⟩, ⟨_, fun post J6 h => cy_1_4 hm h⟩⟩
    · rw [ht] at ek ⊢
      exact Or.inl ⟨(by unfold ca_st; rw [ht]; rfl), ⟨_, _, _, fun post h => cx_1_5 hi40 hs40 ek h⟩, ⟨_, fun post J6 h => cy_1_5 hm h⟩⟩
    · rw [ht] at ek ⊢
      exact Or.inl ⟨(by unfold ca_st; rw [ht]; rfl), ⟨_, _, _, fun post h => cx_1_6 hi40 hs40 ek h⟩, ⟨_, fun post J6 h => cy_1_6 hm h⟩⟩
    · rw [ht] at ek ⊢
      exact ca_stepX7 hK hi hs40 hm hl hR hY hz0 hz1 ht ek hi40
    · rw [ht] at ek ⊢
      exact Or.inr ⟨0, (i, i) :: s, (by unfold ca_st; rw [ht]; rfl), by decide, by rw [List.length_cons]; omega, ⟨oo, _, ⟨pk_us, by show i < i + 1; omega, Nat.le_refl _, fun z => absurd (ht.symm.trans z) (by decide), fun _ => rfl, by show T i = 5 ∨ T i = 6 ∨ T i = 8 ∨ T i = 9 ∨ 20 ≤ T i; omega, ca_RX_i (ca_RX_sk (Nat.le_refl _) hR)⟩, fun _ _ => rfl, fun z => absurd z (by omega), fun post h => cx_1_8 hi40 hs40 ek h⟩, ⟨_, ⟨pk_us.trans (by show _ = ca_cl (T i); rw [ht]; rfl), ca_RY_up (Nat.le_refl _) hY⟩, fun post J6 h => cy_1_8 hm h⟩⟩
    · rw [ht] at ek ⊢
      exact ca_stepX9 hK hi hs40 hm hl hR hY hz0 hz1 ht ek hi40
    · rw [ht] at ek ⊢
      exact Or.inr ⟨0, s, (by unfold ca_st; rw [ht]; rfl), by decide, by omega, ⟨oo, sk, ca_RX_i hR, fun _ _ => rfl, fun z => absurd z (by omega), fun post h => cx_1_10 hi40 hs40 ek h⟩, ⟨opd, hY, fun post J6 h => cy_1_10 hm h⟩⟩
    · rw [ht] at ek ⊢
      exact Or.inr ⟨0, s, (by unfold ca_st; rw [ht]; rfl), by decide, by omega, ⟨oo, sk, ca_RX_i hR, fun _ _ => rfl, fun z => absurd z (by omega), fun post h => cx_1_11 hi40 hs40 ek h⟩, ⟨opd, hY, fun post J6 h => cy_1_11 hm h⟩⟩
    · rw [ht] at ek ⊢
      exact Or.inl ⟨(by unfold ca_st; rw [ht]; rfl), ⟨_, _, _, fun post h => cx_1_12 hi40 hs40 ek h⟩, ⟨_, fun post J6 h => cy_1_12 hm h⟩⟩
    · rw [ht] at ek ⊢
      exact Or.inr ⟨0, s, (by unfold ca_st; rw [ht]; rfl), by decide, by omega, ⟨oo, sk, ca_RX_i hR, fun _ _ => rfl, fun z => absurd z (by omega), fun post h => cx_1_13 hi40 hs40 ek h⟩, ⟨opd, hY, fun post J6 h => cy_1_13 hm h⟩⟩
    · rw [ht] at ek ⊢
      exact Or.inr ⟨0, s, (by unfold ca_st; rw [ht]; rfl), by decide, by omega, ⟨oo, sk, ca_RX_i hR, fun _ _ => rfl, fun z => absurd z (by omega), fun post h => cx_1_14 hi40 hs40 ek h⟩, ⟨opd, hY, fun post J6 h => cy_1_14 hm h⟩⟩
    · rw [ht] at ek ⊢
      exact Or.inr ⟨0, s, (by unfold ca_st; rw [ht]; rfl), by decide, by omega, ⟨oo, sk, ca_RX_i hR, fun _ _ => rfl, fun z => absurd z (by omega), fun post h => cx_1_15 hi40 hs40 ek h⟩, ⟨opd, hY, fun post J6 h => cy_1_15 hm h⟩⟩
    · rw [ht] at ek ⊢
      exact Or.inr ⟨0, s, (by unfold ca_st; rw [ht]; rfl), by decide, by omega, ⟨oo, sk, ca_RX_i hR, fun _ _ => rfl, fun z => absurd z (by omega), fun post h => cx_1_16 hi40 hs40 ek h⟩, ⟨opd, hY, fun post J6 h => cy_1_16 hm h⟩⟩
    · rw [ht] at ek ⊢
      exact Or.inr ⟨0, s, (by unfold ca_st; rw [ht]; rfl), by decide, by omega, ⟨oo, sk, ca_RX_i hR, fun _ _ => rfl, fun z => absurd z (by omega), fun post h => cx_1_17 hi40 hs40 ek h⟩, ⟨opd, hY, fun post J6 h => cy_1_17 hm h⟩⟩
    · rw [ht] at ek ⊢
      exact Or.inr ⟨0, s, (by unfold ca_st; rw [ht]; rfl), by decide, by omega, ⟨oo, sk, ca_RX_i hR, fun _ _ => rfl, fun z => absurd z (by omega), fun post h => cx_1_18 hi40 hs40 ek h⟩, ⟨opd, hY, fun post J6 h => cy_1_18 hm h⟩⟩
    · rw [ht] at ek ⊢
      exact Or.inl ⟨(by unfold ca_st; rw [ht]; rfl), ⟨_, _, _, fun post h => cx_1_19 hi40 hs40 ek h⟩, ⟨_, fun post J6 h => cy_1_19 hm h⟩⟩
    · rw [ht] at ek ⊢
      exact Or.inl ⟨(by unfold ca_st; rw [ht]; rfl), ⟨_, _, _, fun post h => cx_1_20 hi40 hs40 ek h⟩, ⟨_, fun post J6 h => cy_1_20 hm h⟩⟩
    · rw [ht] at ek ⊢
      exact Or.inl ⟨(by unfold ca_st; rw [ht]; rfl), ⟨_, _, _, fun post h => cx_1_21 hi40 hs40 ek h⟩, ⟨_, fun post J6 h => cy_1_21 hm h⟩⟩
    · rw [ht] at ek ⊢
      exact Or.inl ⟨(by unfold ca_st; rw [ht]; rfl), ⟨_, _, _, fun post h => cx_1_22 hi40 hs40 ek h⟩, ⟨_, fun post J6 h => cy_1_22 hm h⟩⟩
  · by_cases h6 : T i = 6
    · rw [h6] at ek ⊢
      exact Or.inr ⟨0, s, (by unfold ca_st; rw [h6]; rfl), by decide, by omega, ⟨oo, sk, ca_RX_i hR, fun _ _ => rfl, fun z => absurd z (by omega), fun post h => cx_2_6 hi40 hs40 ek h⟩, ⟨opd, hY, fun post J6 h => cy_2_6 hm h⟩⟩
    · have n6 : ¬ nI (T i) = 6 := fun z => h6 ((nI_eq (b := 6) (by omega) (by decide)).1 z)
      exact Or.inl ⟨(by unfold ca_st; rw [if_pos rfl, if_neg h6]), ⟨_, _, _, fun post h => cx_2_x hi40 hs40 (by rw [ek]; exact n6) h⟩, ⟨_, fun post J6 h => cy_2_x n6 h⟩⟩
theorem ca_loop (hn : n ≤ 40) (hK : ∀ i, i < n → tk i = nI (T i) ∧ T i < 23) : ∀ (d i w : Nat) (s : List (Nat × Nat)) (oo sk opd : Nat → Int32), i + d = n → ca_S T i = some (w, s) → w < 3 → s.length ≤ i → ca_RX T oo sk i s → (∀ j, j < i → T j = 7 ∨ T j = 9 → oo j = nI (ca_o T j)) → ca_RY T opd s →
  ∃ (r sc' : Int32) (oo' sk' opd' : Nat → Int32), (∀ post : Int32 → SX → Prop, post r (oc, nI n, cp, lc, sc', kc, dp, vc, er, ep, uu, cls, num, lnk, lsz, lit, fb, tk, tv, rk, rl, ro, ra, rt, rp, oo', co, sk', kd, fr, fn, fi, vs, ll, li, lt) → wX_syntaxPlace_9 post (d + 1) (nI w) (nI i) oc (nI n) cp lc (nI s.length) kc dp vc er ep uu cls num lnk lsz lit fb tk tv rk rl ro ra rt rp oo co sk kd fr fn fi vs ll li lt) ∧ (∀ post : Int32 → SY → Prop, post r (ob, nI n, pl, nds, sts, res, era, usd, sp, lv, ret, out, ycls, prp, lst, siz, dnd, tk, tv, opd', yrk, rn, op, nm, ay, prt, ylo, yhi, sN, sP, sX, sK, it, vr) → wY_misfit_6 post ob (nI n) pl nds sts res era usd sp lv ret out (d + 1) (nI w) (nI s.length) (nI i) ycls prp lst siz dnd (tk) (tv) opd yrk rn op nm ay prt ylo yhi sN sP sX sK it vr) ∧ ((r = -1 ∧ ca_S T n = some (1, []) ∧ ∀ j, j < n → T j = 7 ∨ T j = 9 → oo' j = nI (ca_o T j)) ∨ ∃ j, j ≤ n ∧ r = nI j) := by
  intro d
  induction d with
  | zero =>
    intro i w s oo sk opd hi hS hw hl hR hO hY
    have hin : i = n := by omega
    subst hin
    have h0 : nI i ≤ nI i := nI_le (Nat.le_refl _) (by omega)
    by_cases w1 : w = 1
    · cases s with
      | nil =>
        subst w1
        exact ⟨-1, _, oo, sk, opd, fun post h => br_t h0 (br_t rfl (br_t rfl h)), fun post h => br_t h0 (br_t rfl (br_t rfl h)), Or.inl ⟨rfl, hS, hO⟩⟩
      | cons e r =>
        subst w1
        have ne : ¬ nI (e :: r).length = 0 := nI_ne0 (by rw [List.length_cons]; omega) (by omega)
        exact ⟨nI i, _, oo, sk, opd, fun post h => br_t h0 (br_t rfl (br_f ne h)), fun post h => br_t h0 (br_t rfl (br_f ne h)), Or.inr ⟨i, Nat.le_refl _, rfl⟩⟩
    · have nw : ¬ nI w = 1 := fun z => w1 ((nI_eq (b := 1) (by omega) (by decide)).1 z)
      exact ⟨nI i, _, oo, sk, opd, fun post h => br_t h0 (br_f nw h), fun post h => br_t h0 (br_f nw h), Or.inr ⟨i, Nat.le_refl _, rfl⟩⟩
  | succ d ih =>
    intro i w s oo sk opd hi hS hw hl hR hO hY
    have hin : i < n := by omega
    have n0 : ¬ nI n ≤ nI i := nI_ge hin (by omega)
    have ek : tk (nI i).toNatClampNeg = nI (T i) := by rw [nI_clamp (by omega)]; exact (hK i hin).1
    have inn : vp_in (nI i) 40 := vp_in_nI (by omega) (by decide)
    have hz : ∃ z0 : Int32, (s = [] → z0 = -1) ∧ (∀ e r, s = e :: r → z0 = ca_cl (T e.1)) ∧ (∀ (post : Int32 → SY → Prop) (m : Nat), wY_misfit_38 post (wY_misfit_6 post ob (nI n) pl nds sts res era usd sp lv ret out m) (nI w) (nI s.length) (nI i) (nI (T i)) z0 ob (nI n) pl nds sts res era usd sp lv ret out ycls prp lst siz dnd (tk) (tv) opd yrk rn op nm ay prt ylo yhi sN sP sX sK it vr → wY_misfit_6 post ob (nI n) pl nds sts res era usd sp lv ret out (m + 1) (nI w) (nI s.length) (nI i) ycls prp lst siz dnd (tk) (tv) opd yrk rn op nm ay prt ylo yhi sN sP sX sK it vr) := by
      cases s with
      | nil =>
        exact ⟨-1, fun _ => rfl, (fun e r z => nomatch z), fun post m h => br_f n0 ⟨inn, nm_r ek (br_t (by decide) h)⟩⟩
      | cons e r =>
        refine ⟨ca_cl (T e.1), (fun z => nomatch z), (fun e' r' z => by cases z; rfl), fun post m h => br_f n0 ⟨inn, nm_r ek (br_f (nI_nle (by rw [List.length_cons]; omega) (by omega)) ⟨?_, ?_⟩)⟩⟩
        · rw [List.length_cons, nI_pred]; exact vp_in_nI (by rw [List.length_cons] at hl; omega) (by decide)
        · rw [show opd (nI (e :: r).length - 1).toNatClampNeg = ca_cl (T e.1) by rw [List.length_cons, nI_pred, nI_clamp (by rw [List.length_cons] at hl; omega)]; exact hY.1]
          exact h
    obtain ⟨z0, hz0, hz1, hz2⟩ := hz
    rcases ca_step hn hK hin hw hl hR hY hz0 hz1 with ⟨e1, ⟨sc', oo', sk', hX⟩, ⟨opd', hYY⟩⟩ | ⟨w', s', e1, hw', hl', ⟨oo', sk', hR', hoo, hoi, hX⟩, ⟨opd', hY', hYY⟩⟩
    · exact ⟨nI i, sc', oo', sk', opd', fun post h => br_f n0 (hX _ (br_t rfl h)), fun post h => hz2 post _ (hYY _ _ h), Or.inr ⟨i, by omega, rfl⟩⟩
    · have hS' : ca_S T (i + 1) = some (w', s') := by
        show (match ca_S T i with | none => none | some x => ca_st T i x.1 x.2) = _
        rw [hS]; exact e1
      have hO' : ∀ j, j < i + 1 → T j = 7 ∨ T j = 9 → oo' j = nI (ca_o T j) := by
        intro j hj ht
        by_cases z : j = i
        · subst z
          obtain ⟨e, r, es, eo⟩ := hoi ht
          subst es
          rw [eo]
          unfold ca_o
          rw [hS]
        · rw [hoo j (by omega)]; exact hO j (by omega) ht
      obtain ⟨r, sc2, oo2, sk2, opd2, iX, iY, iR⟩ := ih (i + 1) w' s' oo' sk' opd' (by omega) hS' hw' hl' hR' hO' hY'
      refine ⟨r, sc2, oo2, sk2, opd2, fun post h => br_f n0 (hX _ (br_f (fun z => absurd ((nI_eq (b := 3) (by omega) (by decide)).1 z) (by omega)) (nm_r (nI_1 i) (iX post h)))), fun post h => hz2 post _ (hYY _ _ (iY post h)), iR⟩
theorem ca_syn (hn : n ≤ 40) (hK : ∀ i, i < n → tk i = nI (T i) ∧ T i < 23) (sc : Int32) (oo sk opd : Nat → Int32) : ∃ (r sc' : Int32) (oo' sk' opd' : Nat → Int32), (∀ post : Int32 → SX → Prop, post r (oc, nI n, cp, lc, sc', kc, dp, vc, er, ep, uu, cls, num, lnk, lsz, lit, fb, tk, tv, rk, rl, ro, ra, rt, rp, oo', co, sk', kd, fr, fn, fi, vs, ll, li, lt) → wpX_syntaxPlace post (oc, nI n, cp, lc, sc, kc, dp, vc, er, ep, uu, cls, num, lnk, lsz, lit, fb, tk, tv, rk, rl, ro, ra, rt, rp, oo, co, sk, kd, fr, fn, fi, vs, ll, li, lt)) ∧ (∀ post : Int32 → SY → Prop, post r (ob, nI n, pl, nds, sts, res, era, usd, sp, lv, ret, out, ycls, prp, lst, siz, dnd, tk, tv, opd', yrk, rn, op, nm, ay, prt, ylo, yhi, sN, sP, sX, sK, it, vr) → wpY_misfit post (ob, nI n, pl, nds, sts, res, era, usd, sp, lv, ret, out, ycls, prp, lst, siz, dnd, tk, tv, opd, yrk, rn, op, nm, ay, prt, ylo, yhi, sN, sP, sX, sK, it, vr)) ∧ ((r = -1 ∧ ca_S T n = some (1, []) ∧ ∀ j, j < n → T j = 7 ∨ T j = 9 → oo' j = nI (ca_o T j)) ∨ ∃ j, j ≤ n ∧ r = nI j) := by
  obtain ⟨r, sc', oo', sk', opd', hX, hY, hR⟩ := ca_loop (T := T) hn hK n 0 0 [] oo sk opd (by omega) rfl (by decide) (Nat.le_refl _) trivial (fun j hj => absurd hj (by omega)) trivial
  exact ⟨r, sc', oo', sk', opd', fun post h => ⟨n + 1, hX post h⟩, fun post h => ⟨n + 1, hY post h⟩, hR⟩
end
