theorem cm_ap_len {T : Nat → Nat} {i c : Nat} {z z' : cm_R} (h : cm_ap T i c z = some z') : z.2.1.length ≤ z'.2.1.length ∧ z'.1.length ≤ z.1.length := by
  unfold cm_ap at h
  obtain ⟨ks, code, lst⟩ := z
  dsimp only at h ⊢
  split at h
  · split at h
    · cases h
      dsimp only
      simp only [List.length_append, List.length_cons]; omega
    · cases h
  · split at h
    · split at h
      · cases h
        dsimp only
        simp only [cm_aim_len, List.length_cons]; omega
      · cases h
    · split at h
      · split at h
        · cases h
          dsimp only
          simp only [cm_aim_len, List.length_cons]; omega
        · cases h
      · split at h
        · cases h
          dsimp only
          simp only [List.length_append, List.length_cons]; omega
        · cases h
theorem cm_se_len {T : Nat → Nat} {q : Nat} : ∀ {stk : List (Nat × Nat)} {z : cm_R} {s' : List (Nat × Nat) × cm_R}, cm_se T q stk z = some s' → z.2.1.length ≤ s'.2.2.1.length ∧ s'.1.length ≤ stk.length ∧ s'.2.1.length ≤ z.1.length
  | [], z, s', h => by
    have := Option.some.inj h
    rw [← this]; exact ⟨Nat.le_refl _, Nat.le_refl _, Nat.le_refl _⟩
  | e :: r, z, s', h => by
    have h' : (if cm_str T e.1 < q then some (e :: r, z) else (match cm_ap T e.1 e.2 z with | none => none | some z' => cm_se T q r z')) = some s' := h
    by_cases y : cm_str T e.1 < q
    · rw [if_pos y] at h'
      have := Option.some.inj h'
      rw [← this]; exact ⟨Nat.le_refl _, Nat.le_refl _, Nat.le_refl _⟩
    · rw [if_neg y] at h'
      cases ha : cm_ap T e.1 e.2 z with
      | none => rw [ha] at h'; cases h'
      | some z1 =>
        rw [ha] at h'
        obtain ⟨a1, a2, a3⟩ := cm_se_len h'
        obtain ⟨b1, b2⟩ := cm_ap_len ha
        rw [List.length_cons]
        exact ⟨by omega, by omega, by omega⟩
theorem cm_tr_len {T : Nat → Nat} {tv kc : Nat → Int32} {i : Nat} {s s' : List (Nat × Nat) × cm_R} (h : cm_tr T tv kc i s = some s') : s.2.2.1.length ≤ s'.2.2.1.length ∧ s'.1.length ≤ s.1.length + 1 ∧ s'.2.1.length ≤ s.2.1.length + 1 := by
  obtain ⟨stk, ks, code, lst⟩ := s
  unfold cm_tr at h
  dsimp only at h ⊢
  repeat' split at h
  all_goals first | cases h | skip
  all_goals (try dsimp only) ; (try simp only [List.length_append, List.length_cons, cm_aim_len, List.length_nil]) ; first | omega | (refine ⟨?_, ?_, ?_⟩ <;> omega)
theorem cm_run_len {T : Nat → Nat} {tv kc : Nat → Int32} : ∀ {c l : Nat} {s s' : List (Nat × Nat) × cm_R}, cm_run T tv kc l c s = some s' → s.2.2.1.length ≤ s'.2.2.1.length
  | 0, l, s, s', h => by
    have := Option.some.inj h
    rw [← this]; exact Nat.le_refl _
  | c + 1, l, s, s', h => by
    have h' : (match cm_step T tv kc l s with | none => none | some s1 => cm_run T tv kc (l + 1) c s1) = some s' := h
    cases hs : cm_step T tv kc l s with
    | none => rw [hs] at h'; cases h'
    | some s1 =>
      rw [hs] at h'
      have a := cm_run_len h'
      unfold cm_step at hs
      cases he : cm_se T (cm_sf T l) s.1 s.2 with
      | none => rw [he] at hs; cases hs
      | some s2 =>
        rw [he] at hs
        have b := (cm_tr_len hs).1
        have c := (cm_se_len he).1
        omega
section
variable {oc cp dp vc er ep uu lc sc kc : Int32} {cls num lnk lsz lit fb tk tv rk oo fr fn fi vs ll li lt rl ro ra rt rp co sk kd rl0 ro0 ra0 rt0 rp0 : Nat → Int32} {n b : Nat} {T : Nat → Nat} {J : Nat → Prop} {stk : List (Nat × Nat)} {ks : List Int32} {code : List cm_I} {lst : Nat}
theorem cx_settle (hn : n ≤ 40) (hK : ∀ i, i < n → tk i = nI (T i) ∧ T i < 23) (hoo : ∀ j, j < n → T j = 7 ∨ T j = 9 → oo j = nI (ca_o T j) ∧ ca_o T j < j) {post : SX → Prop} {q : Nat} (hq1 : 1 ≤ q) (hq : q < 100) : ∀ (stk : List (Nat × Nat)) {ks : List Int32} {code : List cm_I} {lst : Nat} {lc sc kc : Int32} {rl ro ra rt rp co sk kd : Nat → Int32} {s' : List (Nat × Nat) × cm_R}, cx_R T J rl0 ro0 ra0 rt0 rp0 b stk ks code lst lc sc kc rl ro ra rt rp co sk kd → b ≤ n → stk.length ≤ 40 → ks.length ≤ 40 → cm_se T q stk (ks, code, lst) = some s' → s'.2.2.1.length ≤ 40 → (∀ (lc' sc' kc' : Int32) (rl' ro' ra' rt' rp' co' sk' kd' : Nat → Int32), cx_R T J rl0 ro0 ra0 rt0 rp0 b s'.1 s'.2.1 s'.2.2.1 s'.2.2.2 lc' sc' kc' rl' ro' ra' rt' rp' co' sk' kd' → post (oc, nI n, cp, lc', sc', kc', dp, vc, er, ep, uu, cls, num, lnk, lsz, lit, fb, tk, tv, rk, rl', ro', ra', rt', rp', oo, co', sk', kd', fr, fn, fi, vs, ll, li, lt)) → wX_settle_5 post (nI q) (stk.length + 1) (nI stk.length) oc (nI n) cp lc sc kc dp vc er ep uu cls num lnk lsz lit fb tk tv rk rl ro ra rt rp oo co sk kd fr fn fi vs ll li lt := by
  intro stk
  induction stk with
  | nil =>
    intro ks code lst lc sc kc rl ro ra rt rp co sk kd s' hR hb hsl hkl hse hcl H
    have := Option.some.inj hse
    subst this
    exact br_t (by decide) (H _ _ _ _ _ _ _ _ _ _ _ hR)
  | cons e r ih =>
    intro ks code lst lc sc kc rl ro ra rt rp co sk kd s' hR hb hsl hkl hse hcl H
    rw [List.length_cons] at hsl
    have hse' : (if cm_str T e.1 < q then some (e :: r, (ks, code, lst)) else (match cm_ap T e.1 e.2 (ks, code, lst) with | none => none | some z' => cm_se T q r z')) = some s' := hse
    obtain ⟨h1, h2, h3, h4, h5, h6, h7, h8, h9, h10⟩ := id hR
    obtain ⟨f1, f2, f3, f4⟩ := h5
    have hen : e.1 < n := by omega
    have s7 := cm_str7 (T := T) e.1
    obtain ⟨e1, e2, e3⟩ := cx_tk hn hK hen
    have hT := (hK e.1 hen).2
    refine br_f (nI_nle (by rw [List.length_cons]; omega) (by rw [List.length_cons]; omega)) ⟨by rw [List.length_cons, nI_pred]; exact vp_in_nI (by omega) (by decide), ?_⟩
    rw [show sk (nI (e :: r).length - 1).toNatClampNeg = nI e.1 by rw [List.length_cons, nI_pred, nI_clamp (by omega)]; exact f2]
    refine cx_str hn hK hen ?_
    by_cases y : cm_str T e.1 < q
    · rw [if_pos y] at hse'
      have := Option.some.inj hse'
      subst this
      exact br_t (nI_lt y (by omega)) (H _ _ _ _ _ _ _ _ _ _ _ hR)
    · rw [if_neg y] at hse'
      refine br_f (nI_nlt (by omega) (by omega)) (nm_r (e' := nI r.length) (by rw [List.length_cons, nI_pred]) ⟨vp_in_nI (by omega) (by decide), nm_r (e' := nI e.1) (by rw [nI_clamp (by omega)]; exact f2) ?_⟩)
      cases ha : cm_ap T e.1 e.2 (ks, code, lst) with
      | none => rw [ha] at hse'; cases hse'
      | some z1 =>
        rw [ha] at hse'
        have l1 := (cm_se_len hse').1
        have l2 := cm_ap_len ha
        dsimp only at l2
        have hRp : cx_R T J rl0 ro0 ra0 rt0 rp0 b r ks code lst lc (nI r.length) kc rl ro ra rt rp co sk kd := ⟨h1, rfl, h3, h4, cx_S_b (by omega) f4, h6, h7, h8, h9, h10⟩
        -- the rest of the loop
        have rest : ∀ (lc8 sc8 kc8 : Int32) (rl8 ro8 ra8 rt8 rp8 co8 sk8 kd8 : Nat → Int32), cx_R T J rl0 ro0 ra0 rt0 rp0 b r z1.1 z1.2.1 z1.2.2 lc8 sc8 kc8 rl8 ro8 ra8 rt8 rp8 co8 sk8 kd8 → wX_settle_5 post (nI q) (r.length + 1) (nI r.length) oc (nI n) cp (lc8) (sc8) (kc8) dp vc er ep uu cls num lnk lsz lit fb tk tv rk (rl8) (ro8) (ra8) (rt8) (rp8) oo (co8) (sk8) (kd8) fr fn fi vs ll li lt := by
          intro lc8 sc8 kc8 rl8 ro8 ra8 rt8 rp8 co8 sk8 kd8 hR8
          exact ih hR8 hb (by omega) (by omega) hse' hcl H
        have fin : ∀ (lc8 sc8 kc8 : Int32) (rl8 ro8 ra8 rt8 rp8 co8 sk8 kd8 : Nat → Int32), cx_R T J rl0 ro0 ra0 rt0 rp0 b r z1.1 z1.2.1 z1.2.2 lc8 sc8 kc8 rl8 ro8 ra8 rt8 rp8 co8 sk8 kd8 → ∀ x2, x2 = nI (e :: r).length + (-1) → wX_settle_5 post (nI q) (r.length + 1) x2 oc (nI n) cp (lc8) (sc8) (kc8) dp vc er ep uu cls num lnk lsz lit fb tk tv rk (rl8) (ro8) (ra8) (rt8) (rp8) oo (co8) (sk8) (kd8) fr fn fi vs ll li lt := by
          intro lc8 sc8 kc8 rl8 ro8 ra8 rt8 rp8 co8 sk8 kd8 hR8
          intro x2 hx2
          rw [hx2, List.length_cons, pk_m1]
          exact rest lc8 sc8 kc8 rl8 ro8 ra8 rt8 rp8 co8 sk8 kd8 hR8
        refine cx_isp hn hK hen ?_
        have hap := ha
        unfold cm_ap at hap
        cases hp : cm_pre T e.1 with
        | true =>
          rw [if_pos hp] at hap
          refine br_f (by decide) ?_
          cases ks with
          | nil => cases hap
          | cons x ks1 =>
            have hz := Option.some.inj hap
            have hpt : T e.1 = 12 ∨ T e.1 = 16 := by
              unfold cm_pre at hp
              by_cases a : T e.1 = 12
              · exact Or.inl a
              · rw [decide_eq_false a] at hp
                by_cases b' : T e.1 = 16
                · exact Or.inr b'
                · rw [decide_eq_false b'] at hp; cases hp
            rw [List.length_cons] at hkl
            refine cx_apP hn hK hen hpt hRp (by omega) ?_ ?_
            · have : z1.2.1.length = code.length + 1 := by rw [← hz]; exact List.length_append
              omega
            · intro lc1 sc1 kc1 rl1 ro1 ra1 rt1 rp1 co1 sk1 kd1 hR1
              exact fin lc1 sc1 kc1 rl1 ro1 ra1 rt1 rp1 co1 sk1 kd1 (by rw [← hz]; exact hR1)
        | false =>
          rw [if_neg (by rw [hp]; decide)] at hap
          refine br_t rfl ⟨e3, ?_⟩
          by_cases t9 : T e.1 = 9
          · rw [if_pos t9] at hap
            refine br_t (by rw [e1, t9]; rfl) ?_
            match ks, hap, hRp, hkl with
            | [], hap, _, _ => cases hap
            | [_], hap, _, _ => cases hap
            | [_, _], hap, _, _ => cases hap
            | y2 :: y1 :: x :: ks1, hap, hRp, hkl =>
              have hz := Option.some.inj hap
              obtain ⟨c1, c2⟩ := f3 (Or.inl (by omega))
              obtain ⟨o1, o2⟩ := hoo e.1 hen (Or.inr t9)
              rw [List.length_cons, List.length_cons, List.length_cons] at hkl
              refine cx_apC hn hK hen o1 (by omega) c1 c2 hRp (by omega) ?_
              intro lc1 sc1 kc1 rl1 ro1 ra1 rt1 rp1 co1 sk1 kd1 hR1
              exact fin lc1 sc1 kc1 rl1 ro1 ra1 rt1 rp1 co1 sk1 kd1 (by rw [← hz]; exact hR1)
          · rw [if_neg t9] at hap
            refine br_f (e2 9 t9 (by decide)) ?_
            have hop : 10 ≤ T e.1 ∧ T e.1 ≤ 18 := by
              by_cases a : T e.1 ≤ 8 ∨ T e.1 = 19 ∨ 20 ≤ T e.1
              · have := cm_str0 a
                omega
              · omega
            by_cases hl : T e.1 = 10 ∨ T e.1 = 11
            · rw [if_pos hl] at hap
              match ks, hap, hRp, hkl with
              | [], hap, _, _ => cases hap
              | [_], hap, _, _ => cases hap
              | y' :: x :: ks1, hap, hRp, hkl =>
                have hz := Option.some.inj hap
                rw [List.length_cons, List.length_cons] at hkl
                refine cx_apB (c := e.2) hn hK hen hop (fun _ => f3 (Or.inl (by omega))) hRp (by omega) (fun z => absurd hl z) (fun _ => ?_) (fun z => absurd hl z)
                intro lc1 sc1 kc1 rl1 ro1 ra1 rt1 rp1 co1 sk1 kd1 hR1
                exact fin lc1 sc1 kc1 rl1 ro1 ra1 rt1 rp1 co1 sk1 kd1 (by rw [← hz]; exact hR1)
            · rw [if_neg hl] at hap
              match ks, hap, hRp, hkl with
              | [], hap, _, _ => cases hap
              | [_], hap, _, _ => cases hap
              | y' :: x :: ks1, hap, hRp, hkl =>
                have hz := Option.some.inj hap
                rw [List.length_cons, List.length_cons] at hkl
                refine cx_apB (c := e.2) hn hK hen hop (fun z => absurd z hl) hRp (by omega) (fun _ => ?_) (fun z => absurd z hl) (fun _ => ?_)
                · have : z1.2.1.length = code.length + 1 := by rw [← hz]; exact List.length_append
                  omega
                · intro lc1 sc1 kc1 rl1 ro1 ra1 rt1 rp1 co1 sk1 kd1 hR1
                  exact fin lc1 sc1 kc1 rl1 ro1 ra1 rt1 rp1 co1 sk1 kd1 (by rw [← hz]; exact hR1)
end
