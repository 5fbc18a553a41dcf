section
variable {oc cp dp vc er ep uu lc sc kc : Int32} {cls num lnk lsz lit fb tk tv rk oo fr fn fi vs ll li lt rl ro ra rt rp co sk kd rl0 ro0 ra0 rt0 rp0 : Nat → Int32} {n b : Nat} {T : Nat → Nat} {J : Nat → Prop} {stk : List (Nat × Nat)} {ks : List Int32} {code : List cm_I} {lst : Nat}
theorem cx_tr (hn : n ≤ 40) (hK : ∀ i, i < n → tk i = nI (T i) ∧ T i < 23) (hoo : ∀ j, j < n → T j = 7 ∨ T j = 9 → oo j = nI (ca_o T j) ∧ ca_o T j < j) (hQ : ∀ j, j < n → T j = 7 → 20 ≤ T (ca_o T j) → cx_J T j (ca_o T j)) (hC : ∀ j, j < n → T j = 9 → T (ca_o T j) = 8 ∨ 20 ≤ T (ca_o T j)) {post : SX → Prop} {kf : Nat → Int32} {i : Nat} {ck : Int32} {s : List (Nat × Nat) × cm_R} (hi : i < n) (hR : cx_R T (cx_J T i) rl0 ro0 ra0 rt0 rp0 i stk ks code lst lc sc kc rl ro ra rt rp co sk kd) (hs : stk.length ≤ i) (hks : ks.length ≤ i) (htr : cm_tr T tv kf i (stk, (ks, code, lst)) = some s) (hcl : s.2.2.1.length ≤ 40) (hck : T i = 7 → T (ca_o T i) = 5 → ck = kf (ca_o T i)) (H : ∀ (lc' sc' kc' : Int32) (rl' ro' ra' rt' rp' co' sk' kd' : Nat → Int32), cx_R T (cx_J T (i + 1)) rl0 ro0 ra0 rt0 rp0 (i + 1) s.1 s.2.1 s.2.2.1 s.2.2.2 lc' sc' kc' rl' ro' ra' rt' rp' co' sk' kd' → post (oc, nI n, cp, lc', sc', kc', dp, vc, er, ep, uu, cls, num, lnk, lsz, lit, fb, tk, tv, rk, rl', ro', ra', rt', rp', oo, co', sk', kd', fr, fn, fi, vs, ll, li, lt)) : wpX_translate post (oc, nI n, cp, lc, sc, kc, dp, vc, er, ep, uu, cls, num, lnk, lsz, lit, fb, tk, tv, rk, rl, ro, ra, rt, rp, oo, co, sk, kd, fr, fn, fi, vs, ll, li, lt) (nI i) ck := by
  obtain ⟨e1, e2, e3⟩ := cx_tk hn hK hi
  have hT := (hK i hi).2
  unfold cm_tr at htr
  dsimp only at htr
  have h0 : T i = 0 → wpX_translateOperand post (oc, nI n, cp, lc, sc, kc, dp, vc, er, ep, uu, cls, num, lnk, lsz, lit, fb, tk, tv, rk, rl, ro, ra, rt, rp, oo, co, sk, kd, fr, fn, fi, vs, ll, li, lt) (nI i) 1 := by
    intro t
    rw [if_pos t] at htr
    have hz := Option.some.inj htr
    subst hz
    refine cx_opr hn hK hi (by omega) hR (by omega) (by rw [List.length_append] at hcl; exact hcl) ?_
    rw [t]; exact H
  have h3 : T i = 3 ∨ T i = 4 ∨ T i = 19 → wpX_translateOperand post (oc, nI n, cp, lc, sc, kc, dp, vc, er, ep, uu, cls, num, lnk, lsz, lit, fb, tk, tv, rk, rl, ro, ra, rt, rp, oo, co, sk, kd, fr, fn, fi, vs, ll, li, lt) (nI i) 3 := by
    intro t
    rw [if_neg (by omega), if_pos t] at htr
    have hz := Option.some.inj htr
    subst hz
    exact cx_opr hn hK hi (by omega) hR (by omega) (by rw [List.length_append] at hcl; exact hcl) H
  have h1 : T i = 1 ∨ T i = 2 → wpX_translateProperty post (oc, nI n, cp, lc, sc, kc, dp, vc, er, ep, uu, cls, num, lnk, lsz, lit, fb, tk, tv, rk, rl, ro, ra, rt, rp, oo, co, sk, kd, fr, fn, fi, vs, ll, li, lt) (nI i) := by
    intro t
    rw [if_neg (by omega), if_neg (by omega), if_pos t] at htr
    cases ks with
    | nil => cases htr
    | cons x r =>
      have hz := Option.some.inj htr
      subst hz
      rw [List.length_cons] at hks
      exact cx_prp hn hK hi (by omega) hR (by omega) (by rw [List.length_append] at hcl; exact hcl) H
  have h6 : T i = 6 → wpX_translateOpen post (oc, nI n, cp, lc, sc, kc, dp, vc, er, ep, uu, cls, num, lnk, lsz, lit, fb, tk, tv, rk, rl, ro, ra, rt, rp, oo, co, sk, kd, fr, fn, fi, vs, ll, li, lt) (nI i) := by
    intro t
    rw [if_neg (by omega), if_neg (by omega), if_neg (by omega), if_pos t] at htr
    refine cx_opn hn hK hi t hR (by omega) (fun z => ?_) (fun z => ?_)
    · rw [if_pos z] at htr
      have hz := Option.some.inj htr
      subst hz
      exact H
    · rw [if_neg z] at htr
      have hz := Option.some.inj htr
      subst hz
      exact H
  have h9 : T i = 9 → wpX_translateColon post (oc, nI n, cp, lc, sc, kc, dp, vc, er, ep, uu, cls, num, lnk, lsz, lit, fb, tk, tv, rk, rl, ro, ra, rt, rp, oo, co, sk, kd, fr, fn, fi, vs, ll, li, lt) (nI i) := by
    intro t
    rw [if_neg (by omega), if_neg (by omega), if_neg (by omega), if_neg (by omega), if_pos t] at htr
    cases stk with
    | nil => cases htr
    | cons e r =>
      dsimp only at htr
      by_cases ee : e.1 = ca_o T i
      · rw [if_neg (fun z => z ee)] at htr
        obtain ⟨e0, ex⟩ := e
        have ee' : e0 = ca_o T i := ee
        subst ee'
        rw [List.length_cons] at hs
        have hc8 := hC i hi t
        have lc1 : code.length < 40 := by
          rcases hc8 with z | z
          · rw [if_neg (by omega)] at htr
            have hz := Option.some.inj htr
            subst hz
            dsimp only at hcl
            rw [cm_aim_len, List.length_append] at hcl
            exact hcl
          · rw [if_pos z] at htr
            have hz := Option.some.inj htr
            subst hz
            dsimp only at hcl
            rw [List.length_append] at hcl
            exact hcl
        refine cx_col hn hK hoo hi t hR (by omega) lc1 (fun z => ?_) (fun z => ?_) hc8
        · rw [if_pos z] at htr
          have hz := Option.some.inj htr
          subst hz
          exact H
        · rw [if_neg (by omega)] at htr
          have hz := Option.some.inj htr
          subst hz
          exact H
      · rw [if_pos ee] at htr; cases htr
  have h7 : T i = 7 → vp_in (nI i) 40 ∧ wpX_translateClose post (oc, nI n, cp, lc, sc, kc, dp, vc, er, ep, uu, cls, num, lnk, lsz, lit, fb, tk, tv, rk, rl, ro, ra, rt, rp, oo, co, sk, kd, fr, fn, fi, vs, ll, li, lt) (oo (nI i).toNatClampNeg) ck := by
    intro t
    rw [if_neg (by omega), if_neg (by omega), if_neg (by omega), if_neg (by omega), if_neg (by omega), if_pos t] at htr
    refine ⟨e3, ?_⟩
    rw [show oo (nI i).toNatClampNeg = nI (ca_o T i) by rw [nI_clamp (by omega)]; exact (hoo i hi (Or.inl t)).1]
    cases stk with
    | nil => cases htr
    | cons e r =>
      dsimp only at htr
      by_cases ee : e.1 = ca_o T i
      · rw [if_neg (fun z => z ee)] at htr
        obtain ⟨e0, ex⟩ := e
        have ee' : e0 = ca_o T i := ee
        subst ee'
        rw [List.length_cons] at hs
        refine cx_cls hn hK hoo hi t hR (by omega) (by omega) (fun z => ?_) (fun z => ?_) (fun z1 z2 => ?_)
        · rw [if_pos z] at htr
          cases ks with
          | nil => cases htr
          | cons y ks1 =>
            have hz := Option.some.inj htr
            subst hz
            refine ⟨y, ks1, rfl, by dsimp only at hcl; rw [List.length_append] at hcl; exact hcl, ?_⟩
            rw [hck t z]; exact H
        · rw [if_neg (by omega), if_pos z] at htr
          match ks, htr, hR with
          | [], htr, _ => cases htr
          | [_], htr, _ => cases htr
          | y :: x' :: ks1, htr, hR =>
            have hz := Option.some.inj htr
            subst hz
            refine ⟨hQ i hi t z, y, x', ks1, rfl, by dsimp only at hcl; rw [cm_aim_len, List.length_append] at hcl; exact hcl, H⟩
        · rw [if_neg z1, if_neg (by omega)] at htr
          have hz := Option.some.inj htr
          subst hz
          exact H
      · rw [if_pos ee] at htr; cases htr
  have h8 : T i = 8 ∨ T i = 10 ∨ T i = 11 → wX_translate_156 post (nI i) oc (nI n) cp lc sc kc dp vc er ep uu cls num lnk lsz lit fb tk tv rk rl ro ra rt rp oo co sk kd fr fn fi vs ll li lt := by
    intro t
    rw [if_neg (by omega), if_neg (by omega), if_neg (by omega), if_neg (by omega), if_neg (by omega), if_neg (by omega), if_pos t] at htr
    have hz := Option.some.inj htr
    subst hz
    exact cx_jmp hn hK hi t hR (by omega) (by dsimp only at hcl; rw [List.length_append] at hcl; exact hcl) H
  have hd : (T i = 5 ∨ (12 ≤ T i ∧ T i ≤ 18) ∨ 20 ≤ T i) → wX_translate_182 post (nI i) oc (nI n) cp lc sc kc dp vc er ep uu cls num lnk lsz lit fb tk tv rk rl ro ra rt rp oo co sk kd fr fn fi vs ll li lt := by
    intro t
    rw [if_neg (by omega), if_neg (by omega), if_neg (by omega), if_neg (by omega), if_neg (by omega), if_neg (by omega), if_neg (by omega)] at htr
    have hz := Option.some.inj htr
    subst hz
    refine cx_psh hn hK hi (by omega) (fun ⟨j, j1, j2, j3⟩ => ?_) hR (by omega) H
    have := (hoo j (by omega) (Or.inr j2)).2
    omega
  refine ⟨e3, nm_r (e' := nI (T i)) e1 ?_⟩
  have c : T i = 0 ∨ T i = 1 ∨ T i = 2 ∨ T i = 3 ∨ T i = 4 ∨ T i = 5 ∨ T i = 6 ∨ T i = 7 ∨ T i = 8 ∨ T i = 9 ∨ T i = 10 ∨ T i = 11 ∨ T i = 12 ∨ T i = 13 ∨ T i = 14 ∨ T i = 15 ∨ T i = 16 ∨ T i = 17 ∨ T i = 18 ∨ T i = 19 ∨ T i = 20 ∨ T i = 21 ∨ T i = 22 := by omega
  rcases c with ht | ht | ht | ht | ht | ht | ht | ht | ht | ht | ht | ht | ht | ht | ht | ht | ht | ht | ht | ht | ht | ht | ht <;> rw [ht]
  · exact br_f (by decide) (br_f (by decide) (br_t (by decide) (h0 ht)))
  · exact br_f (by decide) (br_f (by decide) (br_f (by decide) (br_t (by decide) (h1 (Or.inl ht)))))
  · exact br_f (by decide) (br_f (by decide) (br_f (by decide) (br_f (by decide) (br_t (by decide) (h1 (Or.inr ht))))))
  · exact br_f (by decide) (br_f (by decide) (br_f (by decide) (br_f (by decide) (br_f (by decide) (br_t (by decide) (h3 (Or.inl ht)))))))
  · exact br_f (by decide) (br_f (by decide) (br_f (by decide) (br_f (by decide) (br_f (by decide) (br_f (by decide) (br_t (by decide) (h3 (Or.inr (Or.inl ht)))))))))
  · exact br_f (by decide) (br_f (by decide) (br_f (by decide) (br_f (by decide) (br_f (by decide) (br_f (by decide) (br_f (by decide) (br_t (by decide) (hd (by omega)))))))))
  · exact br_f (by decide) (br_f (by decide) (br_f (by decide) (br_f (by decide) (br_f (by decide) (br_f (by decide) (br_f (by decide) (br_f (by decide) (br_t (by decide) (h6 ht)))))))))
  · exact br_f (by decide) (br_f (by decide) (br_f (by decide) (br_f (by decide) (br_f (by decide) (br_f (by decide) (br_f (by decide) (br_f (by decide) (br_f (by decide) (br_t (by decide) (h7 ht))))))))))
  · exact br_f (by decide) (br_f (by decide) (br_f (by decide) (br_f (by decide) (br_f (by decide) (br_f (by decide) (br_f (by decide) (br_f (by decide) (br_f (by decide) (br_f (by decide) (br_t (by decide) (h8 (Or.inl ht))))))))))))
  · exact br_f (by decide) (br_f (by decide) (br_f (by decide) (br_f (by decide) (br_f (by decide) (br_f (by decide) (br_f (by decide) (br_f (by decide) (br_f (by decide) (br_f (by decide) (br_f (by decide) (br_t (by decide) (h9 ht))))))))))))
  · exact br_f (by decide) (br_f (by decide) (br_f (by decide) (br_f (by decide) (br_f (by decide) (br_f (by decide) (br_f (by decide) (br_f (by decide) (br_f (by decide) (br_f (by decide) (br_f (by decide) (br_f (by decide) (br_t (by decide) (h8 (Or.inr (Or.inl ht)))))))))))))))
  · exact br_f (by decide) (br_f (by decide) (br_f (by decide) (br_f (by decide) (br_f (by decide) (br_f (by decide) (br_f (by decide) (br_f (by decide) (br_f (by decide) (br_f (by decide) (br_f (by decide) (br_f (by decide) (br_f (by decide) (br_t (by decide) (h8 (Or.inr (Or.inr ht))))))))))))))))
  · exact br_f (by decide) (br_f (by decide) (br_f (by decide) (br_f (by decide) (br_f (by decide) (br_f (by decide) (br_f (by decide) (br_f (by decide) (br_f (by decide) (br_f (by decide) (br_f (by decide) (br_f (by decide) (br_f (by decide) (br_f (by decide) (br_t (by decide) (hd (by omega))))))))))))))))
  · exact br_f (by decide) (br_f (by decide) (br_f (by decide) (br_f (by decide) (br_f (by decide) (br_f (by decide) (br_f (by decide) (br_f (by decide) (br_f (by decide) (br_f (by decide) (br_f (by decide) (br_f (by decide) (br_f (by decide) (br_f (by decide) (br_f (by decide) (br_t (by decide) (hd (by omega)))))))))))))))))
  · exact br_f (by decide) (br_f (by decide) (br_f (by decide) (br_f (by decide) (br_f (by decide) (br_f (by decide) (br_f (by decide) (br_f (by decide) (br_f (by decide) (br_f (by decide) (br_f (by decide) (br_f (by decide) (br_f (by decide) (br_f (by decide) (br_f (by decide) (br_f (by decide) (br_t (by decide) (hd (by omega))))))))))))))))))
  · exact br_f (by decide) (br_f (by decide) (br_f (by decide) (br_f (by decide) (br_f (by decide) (br_f (by decide) (br_f (by decide) (br_f (by decide) (br_f (by decide) (br_f (by decide) (br_f (by decide) (br_f (by decide) (br_f (by decide) (br_f (by decide) (br_f (by decide) (br_f (by decide) (br_f (by decide) (br_t (by decide) (hd (by omega)))))))))))))))))))
  · exact br_f (by decide) (br_f (by decide) (br_f (by decide) (br_f (by decide) (br_f (by decide) (br_f (by decide) (br_f (by decide) (br_f (by decide) (br_f (by decide) (br_f (by decide) (br_f (by decide) (br_f (by decide) (br_f (by decide) (br_f (by decide) (br_f (by decide) (br_f (by decide) (br_f (by decide) (br_f (by decide) (br_t (by decide) (hd (by omega))))))))))))))))))))
  · exact br_f (by decide) (br_f (by decide) (br_f (by decide) (br_f (by decide) (br_f (by decide) (br_f (by decide) (br_f (by decide) (br_f (by decide) (br_f (by decide) (br_f (by decide) (br_f (by decide) (br_f (by decide) (br_f (by decide) (br_f (by decide) (br_f (by decide) (br_f (by decide) (br_f (by decide) (br_f (by decide) (br_f (by decide) (br_t (by decide) (hd (by omega)))))))))))))))))))))
  · exact br_f (by decide) (br_f (by decide) (br_f (by decide) (br_f (by decide) (br_f (by decide) (br_f (by decide) (br_f (by decide) (br_f (by decide) (br_f (by decide) (br_f (by decide) (br_f (by decide) (br_f (by decide) (br_f (by decide) (br_f (by decide) (br_f (by decide) (br_f (by decide) (br_f (by decide) (br_f (by decide) (br_f (by decide) (br_f (by decide) (br_t (by decide) (hd (by omega))))))))))))))))))))))
  · exact br_f (by decide) (br_f (by decide) (br_f (by decide) (br_f (by decide) (br_f (by decide) (br_f (by decide) (br_f (by decide) (br_f (by decide) (br_f (by decide) (br_f (by decide) (br_f (by decide) (br_f (by decide) (br_f (by decide) (br_f (by decide) (br_f (by decide) (br_f (by decide) (br_f (by decide) (br_f (by decide) (br_f (by decide) (br_f (by decide) (br_f (by decide) (br_t (by decide) (h3 (Or.inr (Or.inr ht))))))))))))))))))))))))
  · exact br_f (by decide) (br_t (by decide) (hd (by omega)))
  · exact br_f (by decide) (br_t (by decide) (hd (by omega)))
  · exact br_f (by decide) (br_t (by decide) (hd (by omega)))
theorem cx_loop (hn : n ≤ 40) (hK : ∀ i, i < n → tk i = nI (T i) ∧ T i < 23) (hoo : ∀ j, j < n → T j = 7 ∨ T j = 9 → oo j = nI (ca_o T j) ∧ ca_o T j < j) (hQ : ∀ j, j < n → T j = 7 → 20 ≤ T (ca_o T j) → cx_J T j (ca_o T j)) (hC : ∀ j, j < n → T j = 9 → T (ca_o T j) = 8 ∨ 20 ≤ T (ca_o T j)) {post : Int32 → SX → Prop} {kf : Nat → Int32} {x1 x2 : Int32} (hT5 : ∀ j, j < n → T j = 5 → ∃ x, x < 6 ∧ tv j = nI x) (hkf : ∀ j, j < n → T j = 5 → kf j = (if tv j = x1 then x2 else rk (tv j).toNatClampNeg)) : ∀ (d i : Nat) {stk : List (Nat × Nat)} {ks : List Int32} {code : List cm_I} {lst : Nat} {lc sc kc : Int32} {rl ro ra rt rp co sk kd : Nat → Int32} {s : List (Nat × Nat) × cm_R} {f : Nat}, i + d = n → cx_R T (cx_J T i) rl0 ro0 ra0 rt0 rp0 i stk ks code lst lc sc kc rl ro ra rt rp co sk kd → stk.length ≤ i → ks.length ≤ i → cm_run T tv kf i d (stk, (ks, code, lst)) = some s → s.2.2.1.length ≤ 40 → (∀ (lc' sc' kc' : Int32) (rl' ro' ra' rt' rp' co' sk' kd' : Nat → Int32), cx_R T (cx_J T n) rl0 ro0 ra0 rt0 rp0 n s.1 s.2.1 s.2.2.1 s.2.2.2 lc' sc' kc' rl' ro' ra' rt' rp' co' sk' kd' → s.1.length ≤ n → s.2.1.length ≤ n → wX_clashPlace_30 post x1 x2 (f + 1) (nI n) oc (nI n) cp (lc') (sc') (kc') dp vc er ep uu cls num lnk lsz lit fb tk tv rk (rl') (ro') (ra') (rt') (rp') oo (co') (sk') (kd') fr fn fi vs ll li lt) → wX_clashPlace_30 post x1 x2 (d + f + 1) (nI i) oc (nI n) cp lc sc kc dp vc er ep uu cls num lnk lsz lit fb tk tv rk rl ro ra rt rp oo co sk kd fr fn fi vs ll li lt := by
  intro d
  induction d with
  | zero =>
    intro i stk ks code lst lc sc kc rl ro ra rt rp co sk kd s f hi hR hs hk hrun hcl H
    have hz := Option.some.inj hrun
    subst hz
    have hin : i = n := by omega
    subst hin
    rw [Nat.zero_add]
    exact H _ _ _ _ _ _ _ _ _ _ _ hR hs hk
  | succ d ih =>
    intro i stk ks code lst lc sc kc rl ro ra rt rp co sk kd s f hi hR hs hk hrun hcl H
    have hin : i < n := by omega
    have hrun' : (match cm_step T tv kf i (stk, (ks, code, lst)) with | none => none | some s1 => cm_run T tv kf (i + 1) d s1) = some s := hrun
    cases hst : cm_step T tv kf i (stk, (ks, code, lst)) with
    | none => rw [hst] at hrun'; cases hrun'
    | some s1 =>
      rw [hst] at hrun'
      have hl1 := cm_run_len hrun'
      unfold cm_step at hst
      dsimp only at hst
      cases hse : cm_se T (cm_sf T i) stk (ks, code, lst) with
      | none => rw [hse] at hst; cases hst
      | some s2 =>
        rw [hse] at hst
        dsimp only at hst
        have hl2 := cm_tr_len hst
        have hl3 := cm_se_len hse
        dsimp only at hl3
        obtain ⟨e1, e2, e3⟩ := cx_tk hn hK hin
        have sfb : 1 ≤ cm_sf T i ∧ cm_sf T i ≤ 8 := by
          have := cm_str7 (T := T) i
          unfold cm_sf
          repeat' split
          all_goals omega
        rw [show d + 1 + f + 1 = (d + f + 1) + 1 by omega]
        refine br_f (nI_ge hin (by omega)) (cx_sf hn hK hin ?_)
        have h2 := hR.2.1
        have settled : ∀ post2 : SX → Prop, (∀ (lc' sc' kc' : Int32) (rl' ro' ra' rt' rp' co' sk' kd' : Nat → Int32), cx_R T (cx_J T i) rl0 ro0 ra0 rt0 rp0 i s2.1 s2.2.1 s2.2.2.1 s2.2.2.2 lc' sc' kc' rl' ro' ra' rt' rp' co' sk' kd' → post2 (oc, nI n, cp, lc', sc', kc', dp, vc, er, ep, uu, cls, num, lnk, lsz, lit, fb, tk, tv, rk, rl', ro', ra', rt', rp', oo, co', sk', kd', fr, fn, fi, vs, ll, li, lt)) → wpX_settle post2 (oc, nI n, cp, lc, sc, kc, dp, vc, er, ep, uu, cls, num, lnk, lsz, lit, fb, tk, tv, rk, rl, ro, ra, rt, rp, oo, co, sk, kd, fr, fn, fi, vs, ll, li, lt) (nI (cm_sf T i)) := by
          intro post2 HH
          refine ⟨stk.length + 1, ?_⟩
          subst h2
          exact cx_settle hn hK hoo sfb.1 (by omega) stk hR (by omega) (by omega) (by omega) hse (by omega) HH
        refine settled _ ?_
        intro lc1 sc1 kc1 rl1 ro1 ra1 rt1 rp1 co1 sk1 kd1 hR1
        have nxt : ∀ ck : Int32, (T i = 7 → T (ca_o T i) = 5 → ck = kf (ca_o T i)) → wX_clashPlace_78 post (wX_clashPlace_30 post x1 x2 (d + f + 1)) x1 x2 (nI i) ck oc (nI n) cp (lc1) (sc1) (kc1) dp vc er ep uu cls num lnk lsz lit fb tk tv rk (rl1) (ro1) (ra1) (rt1) (rp1) oo (co1) (sk1) (kd1) fr fn fi vs ll li lt := by
          intro ck hck
          refine cx_tr hn hK hoo hQ hC hin hR1 (by omega) (by omega) (s := s1) hst (by omega) hck ?_
          intro lc3 sc3 kc3 rl3 ro3 ra3 rt3 rp3 co3 sk3 kd3 hR3
          refine nm_r (nI_1 i) ?_
          exact ih (i + 1) (by omega) hR3 (by omega) (by omega) hrun' hcl H
        refine ⟨e3, ?_⟩
        by_cases t7 : T i = 7
        · refine br_t (by rw [e1, t7]; rfl) ⟨e3, ?_⟩
          obtain ⟨o1, o2⟩ := hoo i hin (Or.inl t7)
          have hon : ca_o T i < n := by omega
          obtain ⟨f1, f2, f3⟩ := cx_tk hn hK hon
          rw [show oo (nI i).toNatClampNeg = nI (ca_o T i) by rw [nI_clamp (by omega)]; exact o1]
          refine ⟨f3, ?_⟩
          by_cases t5 : T (ca_o T i) = 5
          · obtain ⟨x, hx, ex⟩ := hT5 _ hon t5
            have hkf5 := hkf _ hon t5
            refine br_t (by rw [f1, t5]; rfl) ⟨f3, nm_r (e' := tv (ca_o T i)) (by rw [nI_clamp (by omega)]) ?_⟩
            by_cases z : tv (ca_o T i) = x1
            · rw [if_pos z] at hkf5
              exact br_t z (nxt x2 (fun _ _ => hkf5.symm))
            · rw [if_neg z] at hkf5
              exact br_f z ⟨by rw [ex]; exact vp_in_nI (by omega) (by decide), nxt _ (fun _ _ => hkf5.symm)⟩
          · exact br_f (f2 5 t5 (by decide)) (nxt 0 (fun _ z => absurd z t5))
        · exact br_f (e2 7 t7 (by decide)) (nxt 0 (fun z => absurd z t7))
theorem cx_clash (hn : n ≤ 40) (hK : ∀ i, i < n → tk i = nI (T i) ∧ T i < 23) (hoo : ∀ j, j < n → T j = 7 ∨ T j = 9 → oo j = nI (ca_o T j) ∧ ca_o T j < j) (hQ : ∀ j, j < n → T j = 7 → 20 ≤ T (ca_o T j) → cx_J T j (ca_o T j)) (hC : ∀ j, j < n → T j = 9 → T (ca_o T j) = 8 ∨ 20 ≤ T (ca_o T j)) {post : Int32 → SX → Prop} {kf : Nat → Int32} {x1 x2 : Int32} (hT5 : ∀ j, j < n → T j = 5 → ∃ x, x < 6 ∧ tv j = nI x) (hkf : ∀ j, j < n → T j = 5 → kf j = (if tv j = x1 then x2 else rk (tv j).toNatClampNeg)) {s1 : List (Nat × Nat) × cm_R} {K : Int32} {code : List cm_I} {L : Nat} (hrun : cm_run T tv kf 0 n ([], ([], [], n + 1)) = some s1) (hse : cm_se T 1 s1.1 s1.2 = some ([], ([K], code, L))) (hcl : code.length ≤ 40)
  (H : ∀ (lc sc kc : Int32) (rl' ro' ra' rt' rp' co' sk' kd' : Nat → Int32), rl' 6 = nI code.length → (∀ (j : Nat) (x : cm_I), code[j]? = some x → ro' (240 + j) = x.1 ∧ ra' (240 + j) = x.2.1 ∧ rt' (240 + j) = x.2.2.1 ∧ rp' (240 + j) = x.2.2.2) → (∀ j, j < 6 → rl' j = rl j) → (∀ j, j < 240 → ro' j = ro j ∧ ra' j = ra j ∧ rt' j = rt j ∧ rp' j = rp j) → post (if min L (if K = x2 then 100 else n) ≤ n then nI (min L (if K = x2 then 100 else n)) else -1) (oc, nI n, cp, lc, sc, kc, dp, vc, er, ep, uu, cls, num, lnk, lsz, lit, fb, tk, tv, rk, rl', ro', ra', rt', rp', oo, co', sk', kd', fr, fn, fi, vs, ll, li, lt)) : wpX_clashPlace post (oc, nI n, cp, lc, sc, kc, dp, vc, er, ep, uu, cls, num, lnk, lsz, lit, fb, tk, tv, rk, rl, ro, ra, rt, rp, oo, co, sk, kd, fr, fn, fi, vs, ll, li, lt) x1 x2 := by
  refine nm_r (e' := upd rl 6 0) rfl (nm_r (e' := nI (n + 1)) (nI_1 n) ⟨n + 0 + 1, ?_⟩)
  have hR0 : cx_R T (cx_J T 0) (upd rl 6 0) ro ra rt rp 0 [] [] [] (n + 1) (nI (n + 1)) 0 0 (upd rl 6 0) ro ra rt rp co sk kd := ⟨rfl, rfl, rfl, pk_us, trivial, trivial, (fun j x hx => nomatch hx), by omega, fun j hj => rfl, fun j hj => ⟨rfl, rfl, rfl, rfl⟩⟩
  have hsl := cm_se_len hse
  dsimp only at hsl
  refine cx_loop hn hK hoo hQ hC hT5 hkf n 0 (f := 0) (by omega) hR0 (Nat.le_refl _) (Nat.le_refl _) hrun (by omega) ?_
  intro lc1 sc1 kc1 rl1 ro1 ra1 rt1 rp1 co1 sk1 kd1 hR1
  intro ha hb
  refine br_t (nI_le (Nat.le_refl _) (by omega)) ?_
  have h2 := hR1.2.1
  refine ⟨s1.1.length + 1, ?_⟩
  subst h2
  refine cx_settle hn hK hoo (q := 1) (by decide) (by decide) s1.1 (ks := s1.2.1) (code := s1.2.2.1) (lst := s1.2.2.2) hR1 (Nat.le_refl _) (by omega) (by omega) (s' := ([], ([K], code, L))) hse hcl ?_
  intro lc2 sc2 kc2 rl2 ro2 ra2 rt2 rp2 co2 sk2 kd2 hR2
  obtain ⟨g1, g2, g3, g4, g5, g6, g7, g8, g9, g10⟩ := id hR2
  have k0 : kd2 0 = K := g6.1
  dsimp only
  rw [k0]
  have fin : ∀ v : Int32, v = (if decide (K = x2) = true then 1 else 0) → wX_clashPlace_114 post v oc (nI n) cp (lc2) (sc2) (kc2) dp vc er ep uu cls num lnk lsz lit fb tk tv rk (rl2) (ro2) (ra2) (rt2) (rp2) oo (co2) (sk2) (kd2) fr fn fi vs ll li lt := by
    intro v hv
    refine cx_demk hR2 hv (by omega) (fun lc3 hR3 => ?_)
    have q1 := hR3.1
    have q8 := hR3.2.2.2.2.2.2.2.1
    have hd : cm_dem (decide (K = x2)) n L = min L (if K = x2 then 100 else n) := by
      rw [cm_dem_eq g8]
      by_cases z : K = x2
      · rw [decide_eq_true z, if_pos rfl, if_pos z]
      · rw [decide_eq_false z, if_neg (by decide), if_neg z]
    rw [hd] at q1 q8
    have HH := H lc3 sc2 kc2 rl2 ro2 ra2 rt2 rp2 co2 sk2 kd2 g4 g7 (fun j hj => by rw [g9 j hj, pk_un (by omega)]) g10
    rw [q1]
    rw [q1] at HH
    by_cases z : min L (if K = x2 then 100 else n) ≤ n
    · rw [if_pos z] at HH
      exact br_t (nI_le z (by omega)) HH
    · rw [if_neg z] at HH
      exact br_f (nI_ge (by omega) (by omega)) HH
  exact cx_one (P := fun v => v = (if decide (K = x2) = true then 1 else 0)) (fun z => fin 1 z) (fun z => fin 0 z) rfl
end
