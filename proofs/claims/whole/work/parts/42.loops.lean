section
variable {ob pl sts res era usd sp lv ret out : Int32} {ycls prp lst siz dnd opd yrk rn op nm ay prt ylo yhi sN sP sX sK it vr tk tv : Nat → Int32} {n N : Nat} {yp : Nat → Nat → Nat}
def cz_enc (m : Nat) : Int32 := if m < 100 then nI m else -1
theorem cz_clash (hN : N ≤ 40) (hY : ∀ j i, j < N → i < gr_ar (op (240 + j)) → prt ((240 + j) * 3 + i) = nI (240 + yp j i) ∧ j < yp j i ∧ yp j i < N) (hY5 : ∀ j, j < N → op (240 + j) = 5 → ∃ x, x < 6 ∧ nm (240 + j) = nI x) (hop : ∀ j, j < N → ∃ t, t < 24 ∧ op (240 + j) = nI t) (hno : ∀ j, j < N → op (240 + j) ≠ 6 ∧ op (240 + j) ≠ 7 ∧ op (240 + j) ≠ 9) (ha : ∀ j, j < N → ∃ p, p < n ∧ ay (240 + j) = nI p) (hn : n ≤ 40) (h0 : 0 < N) {kind : Int32} {post : Int32 → Prop} (hp : post (cz_enc (min (if cn_k (fun j => op (240 + j)) (fun j => nm (240 + j)) yrk yp 0 = kind then 100 else n) (cz_ms (cn_s (fun j => op (240 + j)) (fun j => nm (240 + j)) (fun j => ay (240 + j)) yrk yp) N)))) : wpY_clash post (ob, nI n, pl, nI (240 + N), sts, res, era, usd, sp, lv, ret, out, ycls, prp, lst, siz, dnd, tk, tv, opd, yrk, rn, op, nm, ay, prt, ylo, yhi, sN, sP, sX, sK, it, vr) kind := by
  have loop : ∀ (I : Nat), (I = 100 ∨ I = n) → post (cz_enc (min I (cz_ms (cn_s (fun j => op (240 + j)) (fun j => nm (240 + j)) (fun j => ay (240 + j)) yrk yp) N))) → ∀ (d k : Nat), k + d = N → wY_clash_24 post ob (nI n) pl (nI (240 + N)) sts res era usd sp lv ret out ycls prp lst siz dnd (tk) (tv) opd yrk rn op nm ay prt ylo yhi sN sP sX sK it vr (d + 1) (cz_enc (min I (cz_ms (cn_s (fun j => op (240 + j)) (fun j => nm (240 + j)) (fun j => ay (240 + j)) yrk yp) k))) (nI (240 + k)) := by
    intro I hI hpost d
    induction d with
    | zero =>
      intro k hk
      have : k = N := by omega
      subst this
      exact br_t (nI_le (Nat.le_refl _) (by omega)) hpost
    | succ d ih =>
      intro k hk
      have hkN : k < N := by omega
      obtain ⟨p, hpn, ep⟩ := ha k hkN
      have ck : ay (nI (240 + k)).toNatClampNeg = nI p := by rw [nI_clamp (by omega)]; exact ep
      have ik : vp_in (nI (240 + k)) 280 := vp_in_nI (by omega) (by decide)
      have IH := ih (k + 1) (by omega)
      refine br_f (nI_ge (by omega) (by omega)) (cz_content hN hY hY5 hop hno hkN ?_)
      have m100 := cz_ms_100 (cn_s (fun j => op (240 + j)) (fun j => nm (240 + j)) (fun j => ay (240 + j)) yrk yp) k
      have ms1 : cz_ms (cn_s (fun j => op (240 + j)) (fun j => nm (240 + j)) (fun j => ay (240 + j)) yrk yp) (k + 1) = min (cz_ms (cn_s (fun j => op (240 + j)) (fun j => nm (240 + j)) (fun j => ay (240 + j)) yrk yp) k) (cn_s (fun j => op (240 + j)) (fun j => nm (240 + j)) (fun j => ay (240 + j)) yrk yp k) := rfl
      have nx : nI (240 + k) + 1 = nI (240 + (k + 1)) := nI_1 _
      cases hc : cn_ok (fun j => op (240 + j)) (fun j => nm (240 + j)) yrk yp k with
      | true =>
        have s100 : cn_s (fun j => op (240 + j)) (fun j => nm (240 + j)) (fun j => ay (240 + j)) yrk yp k = 100 := by unfold cn_s; rw [hc]; rfl
        rw [ms1, s100, Nat.min_eq_left m100] at IH
        exact br_f (by decide) (nm_r nx IH)
      | false =>
        have sp : cn_s (fun j => op (240 + j)) (fun j => nm (240 + j)) (fun j => ay (240 + j)) yrk yp k = p := by
          unfold cn_s
          rw [hc, if_neg (by decide)]
          show (ay (240 + k)).toNatClampNeg = p
          rw [ep, nI_clamp (by omega)]
        rw [ms1, sp] at IH
        refine br_t rfl ?_
        unfold cz_enc at IH ⊢
        by_cases z : min I (cz_ms (cn_s (fun j => op (240 + j)) (fun j => nm (240 + j)) (fun j => ay (240 + j)) yrk yp) k) < 100
        · rw [if_pos z]
          refine br_f (nI_pos (by omega)) ⟨ik, ?_⟩
          rw [ck]
          by_cases y : min I (cz_ms (cn_s (fun j => op (240 + j)) (fun j => nm (240 + j)) (fun j => ay (240 + j)) yrk yp) k) ≤ p
          · rw [show min I (min (cz_ms (cn_s (fun j => op (240 + j)) (fun j => nm (240 + j)) (fun j => ay (240 + j)) yrk yp) k) p) = min I (cz_ms (cn_s (fun j => op (240 + j)) (fun j => nm (240 + j)) (fun j => ay (240 + j)) yrk yp) k) by omega, if_pos z] at IH
            exact br_t (nI_le y (by omega)) (nm_r nx IH)
          · rw [show min I (min (cz_ms (cn_s (fun j => op (240 + j)) (fun j => nm (240 + j)) (fun j => ay (240 + j)) yrk yp) k) p) = p by omega, if_pos (by omega)] at IH
            exact br_f (nI_ge (by omega) (by omega)) ⟨ik, nm_e (nm_r nx IH)⟩
        · rw [if_neg z]
          rw [show min I (min (cz_ms (cn_s (fun j => op (240 + j)) (fun j => nm (240 + j)) (fun j => ay (240 + j)) yrk yp) k) p) = p by omega, if_pos (by omega)] at IH
          exact br_t (by decide) ⟨ik, nm_r (e' := nI p) ck (nm_r nx IH)⟩
  refine cz_kindOf (k := 0) hN hY hY5 h0 ?_
  by_cases z : cn_k (fun j => op (240 + j)) (fun j => nm (240 + j)) yrk yp 0 = kind
  · rw [if_pos z] at hp
    exact br_t z ⟨N + 1, loop 100 (Or.inl rfl) hp N 0 (by omega)⟩
  · rw [if_neg z] at hp
    have L := loop n (Or.inr rfl) hp N 0 (by omega)
    have e : cz_enc (min n (cz_ms (cn_s (fun j => op (240 + j)) (fun j => nm (240 + j)) (fun j => ay (240 + j)) yrk yp) 0)) = nI n := by
      show cz_enc (min n 100) = nI n
      unfold cz_enc
      rw [if_pos (by omega), Nat.min_eq_left (by omega)]
    rw [e] at L
    exact br_f z ⟨N + 1, L⟩
end
section
variable {oc cp lc sc kc dp vc er ep uu : Int32} {cls num lnk lsz lit fb rl ro ra rt rp oo co sk kd fr fn fi vs ll li lt : Nat → Int32} {ob pl nds sts res era usd sp lv ret out : Int32} {ycls prp lst siz dnd opd rn op nm ay prt ylo yhi sN sP sX sK it vr tk tv rk : Nat → Int32} {n : Nat} {T : Nat → Nat}
theorem cu_both (hn : n ≤ 40) (hK : ∀ i, i < n → tk i = nI (T i) ∧ T i < 23) (hT6 : ∀ i, i < n → T i = 1 ∨ T i = 2 ∨ T i = 5 → ∃ x, x < 6 ∧ tv i = nI x) (x1 x2 : Int32) : ((∀ i, i < n → T i = 5 → tv i = x1 ∨ ¬ rk (tv i).toNatClampNeg = 0) ∧ (∀ post : Int32 → Prop, post (-1) → wpX_unknownPlace post (oc, nI n, cp, lc, sc, kc, dp, vc, er, ep, uu, cls, num, lnk, lsz, lit, fb, tk, tv, rk, rl, ro, ra, rt, rp, oo, co, sk, kd, fr, fn, fi, vs, ll, li, lt) x1) ∧ (∀ post : Int32 → SY → Prop, wY_compile_56 post x1 x2 ob (nI n) pl nds sts res era usd sp lv ret out ycls prp lst siz dnd (tk) (tv) opd (rk) rn op nm ay prt ylo yhi sN sP sX sK it vr 1 (nI n) → ∃ m, wY_compile_56 post x1 x2 ob (nI n) pl nds sts res era usd sp lv ret out ycls prp lst siz dnd (tk) (tv) opd (rk) rn op nm ay prt ylo yhi sN sP sX sK it vr m 0)) ∨ (∃ j, j < n ∧ (∀ post : Int32 → Prop, post (nI j) → wpX_unknownPlace post (oc, nI n, cp, lc, sc, kc, dp, vc, er, ep, uu, cls, num, lnk, lsz, lit, fb, tk, tv, rk, rl, ro, ra, rt, rp, oo, co, sk, kd, fr, fn, fi, vs, ll, li, lt) x1) ∧ (∀ post : Int32 → SY → Prop, post 4 (ob, nI n, nI j, nds, sts, res, era, usd, sp, lv, ret, out, ycls, prp, lst, siz, dnd, tk, tv, opd, rk, rn, op, nm, ay, prt, ylo, yhi, sN, sP, sX, sK, it, vr) → ∃ m, wY_compile_56 post x1 x2 ob (nI n) pl nds sts res era usd sp lv ret out ycls prp lst siz dnd (tk) (tv) opd (rk) rn op nm ay prt ylo yhi sN sP sX sK it vr m 0)) := by
  have loop : ∀ (d i : Nat), i + d = n → ((∀ j, i ≤ j → j < n → T j = 5 → tv j = x1 ∨ ¬ rk (tv j).toNatClampNeg = 0) ∧ (∀ post : Int32 → Prop, post (-1) → wX_unknownPlace_2 post x1 oc (nI n) cp lc sc kc dp vc er ep uu cls num lnk lsz lit fb tk tv rk rl ro ra rt rp oo co sk kd fr fn fi vs ll li lt (d + 1) (nI i)) ∧ (∀ post : Int32 → SY → Prop, wY_compile_56 post x1 x2 ob (nI n) pl nds sts res era usd sp lv ret out ycls prp lst siz dnd (tk) (tv) opd (rk) rn op nm ay prt ylo yhi sN sP sX sK it vr 1 (nI n) → wY_compile_56 post x1 x2 ob (nI n) pl nds sts res era usd sp lv ret out ycls prp lst siz dnd (tk) (tv) opd (rk) rn op nm ay prt ylo yhi sN sP sX sK it vr (d + 1) (nI i))) ∨ (∃ j, j < n ∧ (∀ post : Int32 → Prop, post (nI j) → wX_unknownPlace_2 post x1 oc (nI n) cp lc sc kc dp vc er ep uu cls num lnk lsz lit fb tk tv rk rl ro ra rt rp oo co sk kd fr fn fi vs ll li lt (d + 1) (nI i)) ∧ (∀ post : Int32 → SY → Prop, post 4 (ob, nI n, nI j, nds, sts, res, era, usd, sp, lv, ret, out, ycls, prp, lst, siz, dnd, tk, tv, opd, rk, rn, op, nm, ay, prt, ylo, yhi, sN, sP, sX, sK, it, vr) → wY_compile_56 post x1 x2 ob (nI n) pl nds sts res era usd sp lv ret out ycls prp lst siz dnd (tk) (tv) opd (rk) rn op nm ay prt ylo yhi sN sP sX sK it vr (d + 1) (nI i))) := by
    intro d
    induction d with
    | zero =>
      intro i hi
      have : i = n := by omega
      subst this
      exact Or.inl ⟨fun j a b => absurd a (by omega), fun post hp => br_t (nI_le (Nat.le_refl _) (by omega)) hp, fun post hp => hp⟩
    | succ d ih =>
      intro i hi
      have hin : i < n := by omega
      have ci : (nI i).toNatClampNeg = i := nI_clamp (by omega)
      have ck : tk (nI i).toNatClampNeg = nI (T i) := by rw [ci]; exact (hK i hin).1
      have cv : tv (nI i).toNatClampNeg = tv i := by rw [ci]
      have ii : vp_in (nI i) 40 := vp_in_nI (by omega) (by decide)
      have n0 : ¬ nI n ≤ nI i := nI_ge hin (by omega)
      have hT := (hK i hin).2
      -- both go on
      have go : ((∀ post : Int32 → Prop, wX_unknownPlace_2 post x1 oc (nI n) cp lc sc kc dp vc er ep uu cls num lnk lsz lit fb tk tv rk rl ro ra rt rp oo co sk kd fr fn fi vs ll li lt (d + 1) (nI (i + 1)) → wX_unknownPlace_2 post x1 oc (nI n) cp lc sc kc dp vc er ep uu cls num lnk lsz lit fb tk tv rk rl ro ra rt rp oo co sk kd fr fn fi vs ll li lt (d + 1 + 1) (nI i)) ∧ (∀ post : Int32 → SY → Prop, wY_compile_56 post x1 x2 ob (nI n) pl nds sts res era usd sp lv ret out ycls prp lst siz dnd (tk) (tv) opd (rk) rn op nm ay prt ylo yhi sN sP sX sK it vr (d + 1) (nI (i + 1)) → wY_compile_56 post x1 x2 ob (nI n) pl nds sts res era usd sp lv ret out ycls prp lst siz dnd (tk) (tv) opd (rk) rn op nm ay prt ylo yhi sN sP sX sK it vr (d + 1 + 1) (nI i)) ∧ (T i = 5 → tv i = x1 ∨ ¬ rk (tv i).toNatClampNeg = 0)) → ((∀ j, i ≤ j → j < n → T j = 5 → tv j = x1 ∨ ¬ rk (tv j).toNatClampNeg = 0) ∧ (∀ post : Int32 → Prop, post (-1) → wX_unknownPlace_2 post x1 oc (nI n) cp lc sc kc dp vc er ep uu cls num lnk lsz lit fb tk tv rk rl ro ra rt rp oo co sk kd fr fn fi vs ll li lt (d + 1 + 1) (nI i)) ∧ (∀ post : Int32 → SY → Prop, wY_compile_56 post x1 x2 ob (nI n) pl nds sts res era usd sp lv ret out ycls prp lst siz dnd (tk) (tv) opd (rk) rn op nm ay prt ylo yhi sN sP sX sK it vr 1 (nI n) → wY_compile_56 post x1 x2 ob (nI n) pl nds sts res era usd sp lv ret out ycls prp lst siz dnd (tk) (tv) opd (rk) rn op nm ay prt ylo yhi sN sP sX sK it vr (d + 1 + 1) (nI i))) ∨ (∃ j, j < n ∧ (∀ post : Int32 → Prop, post (nI j) → wX_unknownPlace_2 post x1 oc (nI n) cp lc sc kc dp vc er ep uu cls num lnk lsz lit fb tk tv rk rl ro ra rt rp oo co sk kd fr fn fi vs ll li lt (d + 1 + 1) (nI i)) ∧ (∀ post : Int32 → SY → Prop, post 4 (ob, nI n, nI j, nds, sts, res, era, usd, sp, lv, ret, out, ycls, prp, lst, siz, dnd, tk, tv, opd, rk, rn, op, nm, ay, prt, ylo, yhi, sN, sP, sX, sK, it, vr) → wY_compile_56 post x1 x2 ob (nI n) pl nds sts res era usd sp lv ret out ycls prp lst siz dnd (tk) (tv) opd (rk) rn op nm ay prt ylo yhi sN sP sX sK it vr (d + 1 + 1) (nI i))) := by
        rintro ⟨gX, gY, gT⟩
        rcases ih (i + 1) (by omega) with ⟨a1, a2, a3⟩ | ⟨j, a1, a2, a3⟩
        · refine Or.inl ⟨fun j h1 h2 h3 => ?_, fun post hp => gX post (a2 post hp), fun post hp => gY post (a3 post hp)⟩
          by_cases z : j = i
          · subst z; exact gT h3
          · exact a1 j (by omega) h2 h3
        · exact Or.inr ⟨j, a1, fun post hp => gX post (a2 post hp), fun post hp => gY post (a3 post hp)⟩
      by_cases t5 : T i = 5
      · have q5 : tk (nI i).toNatClampNeg = 5 := by rw [ck, t5]; rfl
        obtain ⟨x, hx, ex⟩ := hT6 i hin (by omega)
        by_cases zr : tv i = x1
        · exact go ⟨fun post h => br_f n0 ⟨ii, nm_r (e' := tv i) cv ⟨ii, br_t q5 (br_t zr (nm_r (nI_1 i) h))⟩⟩, fun post h => br_f n0 ⟨ii, br_t q5 ⟨ii, br_t (cv.trans zr) (nm_r (nI_1 i) h)⟩⟩, fun _ => Or.inl zr⟩
        · have cx : (tv i).toNatClampNeg = x := by rw [ex, nI_clamp (by omega)]
          have zr' : ¬ tv (nI i).toNatClampNeg = x1 := by rw [cv]; exact zr
          have i6 : vp_in (tv (nI i).toNatClampNeg) 6 := by rw [cv, ex]; exact vp_in_nI hx (by decide)
          by_cases z0 : rk x = 0
          · refine Or.inr ⟨i, hin, fun post hp => br_f n0 ⟨ii, nm_r (e' := nI x) (cv.trans ex) ⟨ii, br_t q5 (br_f (by rw [← ex]; exact zr) (br_f (nI_pos (by omega)) (br_f (nI_ge (b := 6) hx (by decide)) ⟨vp_in_nI (by omega) (by decide), br_t (by rw [nI_clamp (by omega)]; exact z0) (br_t rfl hp)⟩)))⟩⟩, fun post hp => br_f n0 ⟨ii, br_t q5 ⟨ii, br_f zr' ⟨ii, i6, br_t (by rw [cv, cx]; exact z0) hp⟩⟩⟩⟩
          · exact go ⟨fun post h => br_f n0 ⟨ii, nm_r (e' := nI x) (cv.trans ex) ⟨ii, br_t q5 (br_f (by rw [← ex]; exact zr) (br_f (nI_pos (by omega)) (br_f (nI_ge (b := 6) hx (by decide)) ⟨vp_in_nI (by omega) (by decide), br_f (by rw [nI_clamp (by omega)]; exact z0) (br_f (by decide) (nm_r (nI_1 i) h))⟩)))⟩⟩, fun post h => br_f n0 ⟨ii, br_t q5 ⟨ii, br_f zr' ⟨ii, i6, br_f (by rw [cv, cx]; exact z0) (nm_r (nI_1 i) h)⟩⟩⟩, fun _ => Or.inr (by rw [cx]; exact z0)⟩
      · have q5 : ¬ tk (nI i).toNatClampNeg = 5 := fun z => t5 ((nI_eq (b := 5) (by omega) (by decide)).1 (ck.symm.trans z))
        exact go ⟨fun post h => br_f n0 ⟨ii, nm_e ⟨ii, br_f q5 (nm_r (nI_1 i) h)⟩⟩, fun post h => br_f n0 ⟨ii, br_f q5 (nm_r (nI_1 i) h)⟩, fun z => absurd z t5⟩
  rcases loop n 0 (by omega) with ⟨a1, a2, a3⟩ | ⟨j, a1, a2, a3⟩
  · exact Or.inl ⟨fun i hi => a1 i (by omega) hi, fun post hp => ⟨n + 1, a2 post hp⟩, fun post hp => ⟨n + 1, a3 post hp⟩⟩
  · exact Or.inr ⟨j, a1, fun post hp => ⟨n + 1, a2 post hp⟩, fun post hp => ⟨n + 1, a3 post hp⟩⟩
/-- rule q calls rule r, as the Java side sees it -/
def cf_C (rl ro ra : Nat → Int32) (q r : Nat) : Prop := ∃ c len, rl q = nI len ∧ len ≤ 40 ∧ c < len ∧ ro (q * 40 + c) = 5 ∧ ra (q * 40 + c) = nI r
theorem cf_calls {tc' : Int32} {q r len : Nat} {post : Int32 → Prop} (hq : q < 6) (hl : rl q = nI len) (h40 : len ≤ 40) (h1 : cf_C rl ro ra q r → post 1) (h0 : ¬ cf_C rl ro ra q r → post 0) : wpX_callsRule post (oc, tc', cp, lc, sc, kc, dp, vc, er, ep, uu, cls, num, lnk, lsz, lit, fb, tk, tv, rk, rl, ro, ra, rt, rp, oo, co, sk, kd, fr, fn, fi, vs, ll, li, lt) (nI q) (nI r) := by
  have loop : ∀ (d c : Nat), c + d = len → (∀ j, j < c → ¬ (ro (q * 40 + j) = 5 ∧ ra (q * 40 + j) = nI r)) → wX_callsRule_8 post (nI q) (nI r) (nI (q * 40)) oc (tc') cp lc sc kc dp vc er ep uu cls num lnk lsz lit fb tk tv rk rl ro ra rt rp oo co sk kd fr fn fi vs ll li lt (d + 1) (nI c) := by
    intro d
    induction d with
    | zero =>
      intro c hc hno
      refine ⟨vp_in_nI (by omega) (by decide), br_t (by rw [nI_clamp (by omega), hl]; exact nI_le (by omega) (by omega)) (h0 ?_)⟩
      rintro ⟨j, len', g1, g2, g3, g4, g5⟩
      have : len' = len := (nI_eq (by omega) (by omega)).1 (g1.symm.trans hl)
      exact hno j (by omega) ⟨g4, g5⟩
    | succ d ih =>
      intro c hc hno
      have e : nI (q * 40) + nI c = nI (q * 40 + c) := nI_add _ _
      have ce : (nI (q * 40) + nI c).toNatClampNeg = q * 40 + c := by rw [e, nI_clamp (by omega)]
      have ie : vp_in (nI (q * 40) + nI c) 280 := by rw [e]; exact vp_in_nI (by omega) (by decide)
      have nx : ¬ (ro (q * 40 + c) = 5 ∧ ra (q * 40 + c) = nI r) → ∀ y, y = nI c + 1 → wX_callsRule_8 post (nI q) (nI r) (nI (q * 40)) oc (tc') cp lc sc kc dp vc er ep uu cls num lnk lsz lit fb tk tv rk rl ro ra rt rp oo co sk kd fr fn fi vs ll li lt (d + 1) y := by
        intro h y hy
        rw [hy, nI_1]
        refine ih (c + 1) (by omega) (fun j hj => ?_)
        by_cases z : j = c
        · subst z; exact h
        · exact hno j (by omega)
      refine ⟨vp_in_nI (by omega) (by decide), br_f (by rw [nI_clamp (by omega), hl]; exact nI_ge (by omega) (by omega)) ⟨ie, ?_⟩⟩
      rw [ce]
      by_cases z5 : ro (q * 40 + c) = 5
      · refine br_t z5 ⟨ie, ?_⟩
        by_cases zr : ra (q * 40 + c) = nI r
        · exact br_t zr (h1 ⟨c, len, hl, h40, by omega, z5, zr⟩)
        · exact br_f zr (nx (fun h => zr h.2))
      · exact br_f z5 (nx (fun h => z5 h.1))
  exact nm_r (e' := nI (q * 40)) (gr_mul q 40 rfl) ⟨_, loop len 0 (by omega) (fun j hj => absurd hj (by omega))⟩
theorem cf_xcalled {tc' : Int32} {r : Nat} {post : Int32 → Prop} (hr : r < 6) (hl : ∀ q, q < 6 → ∃ len, len ≤ 40 ∧ rl q = nI len) (h1 : (∃ q, q < 6 ∧ q ≠ r ∧ cf_C rl ro ra q r) → post 1) (h0 : ¬ (∃ q, q < 6 ∧ q ≠ r ∧ cf_C rl ro ra q r) → post 0) : wpX_isCalledByAnother post (oc, tc', cp, lc, sc, kc, dp, vc, er, ep, uu, cls, num, lnk, lsz, lit, fb, tk, tv, rk, rl, ro, ra, rt, rp, oo, co, sk, kd, fr, fn, fi, vs, ll, li, lt) (nI r) := by
  have loop : ∀ (d q : Nat), q + d = 6 → (∀ j, j < q → j ≠ r → ¬ cf_C rl ro ra j r) → wX_isCalledByAnother_2 post (nI r) oc (tc') cp lc sc kc dp vc er ep uu cls num lnk lsz lit fb tk tv rk rl ro ra rt rp oo co sk kd fr fn fi vs ll li lt (d + 1) (nI q) := by
    intro d
    induction d with
    | zero =>
      intro q hq hno
      have : q = 6 := by omega
      subst this
      exact br_t (by decide) (h0 (fun ⟨j, a, b, c⟩ => hno j a b c))
    | succ d ih =>
      intro q hq hno
      refine br_f (nI_ge (b := 6) (by omega) (by decide)) ?_
      by_cases z : q = r
      · refine br_t (by rw [z]) (nm_r (nI_1 q) (ih (q + 1) (by omega) (fun j hj hjr => ?_)))
        exact hno j (by omega) hjr
      · obtain ⟨len, l1, l2⟩ := hl q (by omega)
        refine br_f (fun y => z ((nI_eq (by omega) (by omega)).1 y)) (cf_calls (by omega) l2 l1 (fun y => br_f (by decide) (h1 ⟨q, by omega, z, y⟩)) (fun y => br_t rfl (nm_r (nI_1 q) (ih (q + 1) (by omega) (fun j hj hjr => ?_)))))
        by_cases x : j = q
        · subst x; exact y
        · exact hno j (by omega) hjr
  exact ⟨_, loop 6 0 (by omega) (fun j hj => absurd hj (by omega))⟩
/-- .. and as the reference sees it -/
def cf_D (rk rn op nm : Nat → Int32) (q r : Nat) : Prop := ¬ rk q = 0 ∧ ∃ c nn, rn q = nI nn ∧ nn ≤ 40 ∧ c < nn ∧ op (q * 40 + c) = 5 ∧ nm (q * 40 + c) = nI r
theorem cf_ycalled {tks' : Int32} {r : Nat} {post : Int32 → Prop} (hr : r < 6) (hl : ∀ q, q < 6 → ¬ rk q = 0 → ∃ nn, nn ≤ 40 ∧ rn q = nI nn) (h1 : (∃ q, q < 6 ∧ q ≠ r ∧ cf_D rk rn op nm q r) → post 1) (h0 : ¬ (∃ q, q < 6 ∧ q ≠ r ∧ cf_D rk rn op nm q r) → post 0) : wpY_calledByAnother post (ob, tks', pl, nds, sts, res, era, usd, sp, lv, ret, out, ycls, prp, lst, siz, dnd, tk, tv, opd, rk, rn, op, nm, ay, prt, ylo, yhi, sN, sP, sX, sK, it, vr) (nI r) := by
  have loop : ∀ (d k : Nat), k + d = 240 → (∀ j, j < k → j / 40 ≠ r → ¬ (¬ rk (j / 40) = 0 ∧ (∃ nn, rn (j / 40) = nI nn ∧ nn ≤ 40 ∧ j % 40 < nn) ∧ op j = 5 ∧ nm j = nI r)) → wY_calledByAnother_2 post (nI r) ob (tks') pl nds sts res era usd sp lv ret out ycls prp lst siz dnd (tk) (tv) opd (rk) rn op nm ay prt ylo yhi sN sP sX sK it vr (d + 1) (nI k) := by
    intro d
    induction d with
    | zero =>
      intro k hk hno
      have : k = 240 := by omega
      subst this
      refine br_t (by decide) (h0 ?_)
      rintro ⟨q, q1, q2, q3, c, nn, n1, n2, n3, n4, n5⟩
      have e1 : (q * 40 + c) / 40 = q := by omega
      have e2 : (q * 40 + c) % 40 = c := by omega
      exact hno (q * 40 + c) (by omega) (by rw [e1]; exact q2) (by rw [e1, e2]; exact ⟨q3, ⟨nn, n1, n2, n3⟩, n4, n5⟩)
    | succ d ih =>
      intro k hk hno
      have e40 : nI k / 40 = nI (k / 40) := pk_div (d := 40) (by omega) (by omega) (by omega)
      have er : nI k - nI k / 40 * 40 = nI (k % 40) := pk_rem (d := 40) (by omega) (by omega) (by omega)
      have nx : (k / 40 ≠ r → ¬ (¬ rk (k / 40) = 0 ∧ (∃ nn, rn (k / 40) = nI nn ∧ nn ≤ 40 ∧ k % 40 < nn) ∧ op k = 5 ∧ nm k = nI r)) → ∀ y, y = nI k + 1 → wY_calledByAnother_2 post (nI r) ob (tks') pl nds sts res era usd sp lv ret out ycls prp lst siz dnd (tk) (tv) opd (rk) rn op nm ay prt ylo yhi sN sP sX sK it vr (d + 1) y := by
        intro h y hy
        rw [hy, nI_1]
        refine ih (k + 1) (by omega) (fun j hj => ?_)
        by_cases z : j = k
        · subst z; exact h
        · exact hno j (by omega)
      have ck : (nI k).toNatClampNeg = k := nI_clamp (by omega)
      have cq : (nI (k / 40)).toNatClampNeg = k / 40 := nI_clamp (by omega)
      have iq : vp_in (nI (k / 40)) 6 := vp_in_nI (by omega) (by decide)
      have ik : vp_in (nI k) 280 := vp_in_nI (by omega) (by decide)
      refine br_f (nI_ge (b := 240) (by omega) (by decide)) ⟨by decide, nm_r e40 ?_⟩
      by_cases zr : k / 40 = r
      · exact br_t (by rw [zr]) (nx (fun h => absurd zr h))
      · refine br_f (fun y => zr ((nI_eq (by omega) (by omega)).1 y)) ⟨iq, ?_⟩
        rw [cq]
        by_cases z0 : rk (k / 40) = 0
        · exact br_t z0 (nx (fun _ h => h.1 z0))
        · obtain ⟨nn, n1, n2⟩ := hl (k / 40) (by omega) z0
          refine br_f z0 ⟨by decide, iq, ?_⟩
          rw [n2, er]
          by_cases zl : nn ≤ k % 40
          · refine br_t (nI_le zl (by omega)) (nx (fun _ h => ?_))
            obtain ⟨nn', m1, m2, m3⟩ := h.2.1
            have : nn' = nn := (nI_eq (by omega) (by omega)).1 (m1.symm.trans n2)
            omega
          · refine br_f (nI_ge (by omega) (by omega)) ⟨ik, ?_⟩
            rw [ck]
            by_cases z5 : op k = 5
            · refine br_t z5 ⟨ik, ?_⟩
              by_cases zv : nm k = nI r
              · refine br_t zv (h1 ⟨k / 40, by omega, zr, z0, k % 40, nn, n2, n1, by omega, ?_, ?_⟩)
                · rw [show k / 40 * 40 + k % 40 = k by omega]; exact z5
                · rw [show k / 40 * 40 + k % 40 = k by omega]; exact zv
              · exact br_f zv (nx (fun _ h => zv h.2.2.2))
            · exact br_f z5 (nx (fun _ h => z5 h.2.2.1))
  exact ⟨_, loop 240 0 (by omega) (fun j hj => absurd hj (by omega))⟩
end
