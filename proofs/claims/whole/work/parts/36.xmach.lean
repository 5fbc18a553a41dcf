/-- the stack of the Java side against the list of the machine -/
def cx_S (T : Nat → Nat) (co sk : Nat → Int32) (J : Nat → Prop) : Nat → List (Nat × Nat) → Prop
  | _, [] => True
  | b, e :: r => e.1 < b ∧ sk r.length = nI e.1 ∧ (((8 ≤ T e.1 ∧ T e.1 ≤ 11) ∨ (20 ≤ T e.1 ∧ J e.1)) → co e.1 = nI e.2 ∧ e.2 < 40) ∧ cx_S T co sk J e.1 r
def cx_K (kd : Nat → Int32) : List Int32 → Prop
  | [] => True
  | x :: r => kd r.length = x ∧ cx_K kd r
def cx_R (T : Nat → Nat) (J : Nat → Prop) (rl0 ro0 ra0 rt0 rp0 : Nat → Int32) (b : Nat) (stk : List (Nat × Nat)) (ks : List Int32) (code : List cm_I) (lst : Nat) (lc sc kc : Int32) (rl ro ra rt rp co sk kd : Nat → Int32) : Prop :=
  lc = nI lst ∧ sc = nI stk.length ∧ kc = nI ks.length ∧ rl 6 = nI code.length ∧ cx_S T co sk J b stk ∧ cx_K kd ks ∧
  (∀ (j : Nat) (x : cm_I), code[j]? = some x → ro (240 + j) = x.1 ∧ ra (240 + j) = x.2.1 ∧ rt (240 + j) = x.2.2.1 ∧ rp (240 + j) = x.2.2.2) ∧ lst ≤ 100 ∧
  (∀ j, j < 6 → rl j = rl0 j) ∧ (∀ j, j < 240 → ro j = ro0 j ∧ ra j = ra0 j ∧ rt j = rt0 j ∧ rp j = rp0 j)
theorem cx_S_b {T : Nat → Nat} {co sk : Nat → Int32} {J : Nat → Prop} {b b' : Nat} (h : b ≤ b') : ∀ {s : List (Nat × Nat)}, cx_S T co sk J b s → cx_S T co sk J b' s
  | [], _ => trivial
  | _ :: _, ⟨h1, h2, h3, h4⟩ => ⟨by omega, h2, h3, h4⟩
theorem cx_S_co {T : Nat → Nat} {co sk : Nat → Int32} {J : Nat → Prop} {x : Nat} {v : Int32} : ∀ {s : List (Nat × Nat)} {b : Nat}, b ≤ x → cx_S T co sk J b s → cx_S T (upd co x v) sk J b s
  | [], _, _, _ => trivial
  | _ :: _, _, hb, ⟨h1, h2, h3, h4⟩ => ⟨h1, h2, fun z => ⟨(pk_un (by omega)).trans (h3 z).1, (h3 z).2⟩, cx_S_co (by omega) h4⟩
theorem cx_S_sk {T : Nat → Nat} {co sk : Nat → Int32} {J : Nat → Prop} {j : Nat} {v : Int32} : ∀ {s : List (Nat × Nat)} {b : Nat}, s.length ≤ j → cx_S T co sk J b s → cx_S T co (upd sk j v) J b s
  | [], _, _, _ => trivial
  | _ :: r, _, hj, ⟨h1, h2, h3, h4⟩ => ⟨h1, (pk_un (by rw [List.length_cons] at hj; omega)).trans h2, h3, cx_S_sk (by rw [List.length_cons] at hj; omega) h4⟩
theorem cx_S_J {T : Nat → Nat} {co sk : Nat → Int32} {J J' : Nat → Prop} : ∀ {s : List (Nat × Nat)} {b : Nat}, (∀ x, x < b → J' x → J x) → cx_S T co sk J b s → cx_S T co sk J' b s
  | [], _, _, _ => trivial
  | _ :: _, _, hJ, ⟨h1, h2, h3, h4⟩ => ⟨h1, h2, fun z => h3 (z.elim Or.inl (fun y => Or.inr ⟨y.1, hJ _ h1 y.2⟩)), cx_S_J (fun x hx => hJ x (by omega)) h4⟩
theorem cx_K_up {kd : Nat → Int32} {j : Nat} {v : Int32} : ∀ {s : List Int32}, s.length ≤ j → cx_K kd s → cx_K (upd kd j v) s
  | [], _, _ => trivial
  | _ :: r, hj, ⟨h1, h2⟩ => ⟨(pk_un (by rw [List.length_cons] at hj; omega)).trans h1, cx_K_up (by rw [List.length_cons] at hj; omega) h2⟩
theorem cm_aim_len : ∀ (code : List cm_I) (c : Nat) (v : Int32), (cm_aim code c v).length = code.length
  | [], _, _ => rfl
  | _ :: _, 0, _ => rfl
  | x :: r, c + 1, v => by show (cm_aim r c v).length + 1 = r.length + 1; rw [cm_aim_len r c v]
theorem cm_aim_get : ∀ (code : List cm_I) (c : Nat) (v : Int32) (j : Nat) (x : cm_I), (cm_aim code c v)[j]? = some x → ∃ y, code[j]? = some y ∧ x.1 = y.1 ∧ x.2.1 = y.2.1 ∧ x.2.2.2 = y.2.2.2 ∧ x.2.2.1 = (if j = c then v else y.2.2.1)
  | [], _, _, _, _, h => nomatch h
  | y :: r, 0, v, 0, x, h => ⟨y, rfl, by rw [← Option.some.inj h], by rw [← Option.some.inj h], by rw [← Option.some.inj h], by rw [← Option.some.inj h]; rfl⟩
  | y :: r, 0, v, j + 1, x, h => ⟨x, h, rfl, rfl, rfl, by rw [if_neg (by omega)]⟩
  | y :: r, c + 1, v, 0, x, h => ⟨y, rfl, by rw [← Option.some.inj h], by rw [← Option.some.inj h], by rw [← Option.some.inj h], by rw [← Option.some.inj h, if_neg (by omega)]⟩
  | y :: r, c + 1, v, j + 1, x, h => by
    obtain ⟨z, h1, h2, h3, h4, h5⟩ := cm_aim_get r c v j x h
    refine ⟨z, h1, h2, h3, h4, ?_⟩
    rw [h5]
    by_cases e : j = c
    · rw [if_pos e, if_pos (by omega)]
    · rw [if_neg e, if_neg (by omega)]
section
variable {oc cp dp vc er ep uu lc sc kc : Int32} {cls num lnk lsz lit fb tk tv rk oo fr fn fi vs ll li lt rl ro ra rt rp co sk kd rl0 ro0 ra0 rt0 rp0 : Nat → Int32} {n b : Nat} {T : Nat → Nat} {J : Nat → Prop} {stk : List (Nat × Nat)} {ks : List Int32} {code : List cm_I} {lst : Nat}
theorem cx_emit {post : Int32 → SX → Prop} {p0 p1 p2 : Int32} (hR : cx_R T J rl0 ro0 ra0 rt0 rp0 b stk ks code lst lc sc kc rl ro ra rt rp co sk kd) (hc : code.length < 40) (H : ∀ (lc' sc' kc' : Int32) (rl' ro' ra' rt' rp' co' sk' kd' : Nat → Int32), cx_R T J rl0 ro0 ra0 rt0 rp0 b stk ks (code ++ [(p0, p1, 0, p2)]) lst lc' sc' kc' rl' ro' ra' rt' rp' co' sk' kd' → post (nI code.length) (oc, nI n, cp, lc', sc', kc', dp, vc, er, ep, uu, cls, num, lnk, lsz, lit, fb, tk, tv, rk, rl', ro', ra', rt', rp', oo, co', sk', kd', fr, fn, fi, vs, ll, li, lt)) : wpX_emit post (oc, nI n, cp, lc, sc, kc, dp, vc, er, ep, uu, cls, num, lnk, lsz, lit, fb, tk, tv, rk, rl, ro, ra, rt, rp, oo, co, sk, kd, fr, fn, fi, vs, ll, li, lt) p0 p1 p2 := by
  obtain ⟨h1, h2, h3, h4, h5, h6, h7, h8, h9, h10⟩ := hR
  have e : 240 + nI code.length = nI (240 + code.length) := nI_add 240 code.length
  have c : (240 + nI code.length).toNatClampNeg = 240 + code.length := by rw [e, nI_clamp (by omega)]
  have i : vp_in (240 + nI code.length) 280 := by rw [e]; exact vp_in_nI (by omega) (by decide)
  refine nm_r (e' := nI code.length) h4 ⟨i, nm_r (by rw [c]) ⟨i, nm_r (by rw [c]) ⟨i, nm_r (by rw [c]) ⟨i, nm_r (by rw [c]) (nm_r (by rw [nI_1]) (H _ _ _ _ _ _ _ _ _ _ _ ⟨h1, h2, h3, ?_, h5, h6, ?_, h8, ?_, ?_⟩))⟩⟩⟩⟩
  · rw [pk_us, List.length_append]; rfl
  · intro j x hx
    by_cases z : j = code.length
    · subst z
      rw [List.getElem?_append_right (Nat.le_refl _), Nat.sub_self] at hx
      have := Option.some.inj hx
      rw [← this, pk_us, pk_us, pk_us, pk_us]
      exact ⟨rfl, rfl, rfl, rfl⟩
    · rw [pk_un (by omega), pk_un (by omega), pk_un (by omega), pk_un (by omega)]
      have jl : j < code.length := by
        by_cases y : j < code.length
        · exact y
        · rw [List.getElem?_eq_none (by rw [List.length_append]; show code.length + 1 ≤ j; omega)] at hx; cases hx
      rw [List.getElem?_append_left jl] at hx
      exact h7 j x hx
  · intro j hj; rw [pk_un (by omega)]; exact h9 j hj
  · intro j hj; rw [pk_un (by omega), pk_un (by omega), pk_un (by omega), pk_un (by omega)]; exact h10 j hj
theorem cx_aim {post : SX → Prop} {i c : Nat} (hR : cx_R T J rl0 ro0 ra0 rt0 rp0 b stk ks code lst lc sc kc rl ro ra rt rp co sk kd) (hi : i < 40) (hco : co i = nI c) (hc : c < 40) (H : ∀ (lc' sc' kc' : Int32) (rl' ro' ra' rt' rp' co' sk' kd' : Nat → Int32), cx_R T J rl0 ro0 ra0 rt0 rp0 b stk ks (cm_aim code c (nI code.length)) lst lc' sc' kc' rl' ro' ra' rt' rp' co' sk' kd' → post (oc, nI n, cp, lc', sc', kc', dp, vc, er, ep, uu, cls, num, lnk, lsz, lit, fb, tk, tv, rk, rl', ro', ra', rt', rp', oo, co', sk', kd', fr, fn, fi, vs, ll, li, lt)) : wpX_aimHere post (oc, nI n, cp, lc, sc, kc, dp, vc, er, ep, uu, cls, num, lnk, lsz, lit, fb, tk, tv, rk, rl, ro, ra, rt, rp, oo, co, sk, kd, fr, fn, fi, vs, ll, li, lt) (nI i) := by
  obtain ⟨h1, h2, h3, h4, h5, h6, h7, h8, h9, h10⟩ := hR
  have ci : co (nI i).toNatClampNeg = nI c := by rw [nI_clamp (by omega)]; exact hco
  have e : 240 + nI c = nI (240 + c) := nI_add 240 c
  refine ⟨vp_in_nI hi (by decide), by rw [ci, e]; exact vp_in_nI (by omega) (by decide), nm_r (e' := upd rt (240 + c) (nI code.length)) (by rw [ci, e, nI_clamp (by omega), h4]) (H _ _ _ _ _ _ _ _ _ _ _ ⟨h1, h2, h3, ?_, h5, h6, ?_, h8, h9, ?_⟩)⟩
  · rw [cm_aim_len]; exact h4
  · intro j x hx
    obtain ⟨y, y1, y2, y3, y4, y5⟩ := cm_aim_get code c _ j x hx
    obtain ⟨g1, g2, g3, g4⟩ := h7 j y y1
    rw [y2, y3, y4, y5]
    refine ⟨g1, g2, ?_, g4⟩
    by_cases z : j = c
    · rw [z, if_pos rfl, pk_us]
    · rw [if_neg z, pk_un (by omega)]; exact g3
  · intro j hj; rw [pk_un (by omega)]; exact h10 j hj
theorem cx_dem {post : SX → Prop} {ok : Bool} {p : Nat} {v : Int32} (hR : cx_R T J rl0 ro0 ra0 rt0 rp0 b stk ks code lst lc sc kc rl ro ra rt rp co sk kd) (hv : v = if ok = true then 1 else 0) (hp : p < 1000) (H : ∀ (lc' sc' kc' : Int32) (rl' ro' ra' rt' rp' co' sk' kd' : Nat → Int32), cx_R T J rl0 ro0 ra0 rt0 rp0 b stk ks code (cm_dem ok p lst) lc' sc' kc' rl' ro' ra' rt' rp' co' sk' kd' → post (oc, nI n, cp, lc', sc', kc', dp, vc, er, ep, uu, cls, num, lnk, lsz, lit, fb, tk, tv, rk, rl', ro', ra', rt', rp', oo, co', sk', kd', fr, fn, fi, vs, ll, li, lt)) : wpX_demand post (oc, nI n, cp, lc, sc, kc, dp, vc, er, ep, uu, cls, num, lnk, lsz, lit, fb, tk, tv, rk, rl, ro, ra, rt, rp, oo, co, sk, kd, fr, fn, fi, vs, ll, li, lt) v (nI p) := by
  obtain ⟨h1, h2, h3, h4, h5, h6, h7, h8, h9, h10⟩ := hR
  subst hv
  cases ok with
  | true => exact br_f (by decide) (H _ _ _ _ _ _ _ _ _ _ _ ⟨h1, h2, h3, h4, h5, h6, h7, h8, h9, h10⟩)
  | false =>
    refine br_t rfl ?_
    rw [h1]
    by_cases z : lst ≤ p
    · refine br_t (nI_le z (by omega)) (H _ _ _ _ _ _ _ _ _ _ _ ⟨?_, h2, h3, h4, h5, h6, h7, ?_, h9, h10⟩)
      · show nI lst = nI (min lst p)
        rw [Nat.min_eq_left z]
      · show min lst p ≤ 100
        omega
    · refine br_f (nI_ge (by omega) (by omega)) (H _ _ _ _ _ _ _ _ _ _ _ ⟨?_, h2, h3, h4, h5, h6, h7, ?_, h9, h10⟩)
      · show nI p = nI (min lst p)
        rw [Nat.min_eq_right (by omega)]
      · show min lst p ≤ 100
        omega
theorem cx_push {post : SX → Prop} {i x : Nat} (hR : cx_R T J rl0 ro0 ra0 rt0 rp0 b stk ks code lst lc sc kc rl ro ra rt rp co sk kd) (hs : stk.length < 40) (hb : b ≤ i) (hx : ((8 ≤ T i ∧ T i ≤ 11) ∨ (20 ≤ T i ∧ J i)) → co i = nI x ∧ x < 40) (H : ∀ (lc' sc' kc' : Int32) (rl' ro' ra' rt' rp' co' sk' kd' : Nat → Int32), cx_R T J rl0 ro0 ra0 rt0 rp0 (i + 1) ((i, x) :: stk) ks code lst lc' sc' kc' rl' ro' ra' rt' rp' co' sk' kd' → post (oc, nI n, cp, lc', sc', kc', dp, vc, er, ep, uu, cls, num, lnk, lsz, lit, fb, tk, tv, rk, rl', ro', ra', rt', rp', oo, co', sk', kd', fr, fn, fi, vs, ll, li, lt)) : wpX_pushToken post (oc, nI n, cp, lc, sc, kc, dp, vc, er, ep, uu, cls, num, lnk, lsz, lit, fb, tk, tv, rk, rl, ro, ra, rt, rp, oo, co, sk, kd, fr, fn, fi, vs, ll, li, lt) (nI i) := by
  obtain ⟨h1, h2, h3, h4, h5, h6, h7, h8, h9, h10⟩ := hR
  subst h2
  exact ⟨vp_in_nI hs (by decide), nm_r (by rw [nI_clamp (by omega)]) (nm_r (nI_1 _) (H _ _ _ _ _ _ _ _ _ _ _ ⟨h1, rfl, h3, h4, ⟨by show i < i + 1; omega, pk_us, hx, cx_S_b hb (cx_S_sk (Nat.le_refl _) h5)⟩, h6, h7, h8, h9, h10⟩))⟩
theorem cx_tk (hn : n ≤ 40) (hK : ∀ i, i < n → tk i = nI (T i) ∧ T i < 23) {i : Nat} (hi : i < n) : tk (nI i).toNatClampNeg = nI (T i) ∧ (∀ x, T i ≠ x → x < 23 → ¬ tk (nI i).toNatClampNeg = nI x) ∧ vp_in (nI i) 40 := by
  have e : tk (nI i).toNatClampNeg = nI (T i) := by rw [nI_clamp (by omega)]; exact (hK i hi).1
  exact ⟨e, fun x z hx y => z ((nI_eq (by have := (hK i hi).2; omega) (by omega)).1 (e.symm.trans y)), vp_in_nI (by omega) (by decide)⟩
theorem cx_end (hn : n ≤ 40) (hK : ∀ i, i < n → tk i = nI (T i) ∧ T i < 23) {post : Int32 → Prop} {i : Nat} (hi : i < n) (h : post (if cm_end T i = true then 1 else 0)) : wpX_endsOperand post (oc, nI n, cp, lc, sc, kc, dp, vc, er, ep, uu, cls, num, lnk, lsz, lit, fb, tk, tv, rk, rl, ro, ra, rt, rp, oo, co, sk, kd, fr, fn, fi, vs, ll, li, lt) (nI i) := by
  obtain ⟨e1, e2, e3⟩ := cx_tk hn hK hi
  have hT := (hK i hi).2
  refine ⟨e3, nm_r (e' := nI (T i)) e1 ?_⟩
  unfold cm_end at h
  have c : T i = 0 ∨ T i = 1 ∨ T i = 2 ∨ T i = 3 ∨ T i = 4 ∨ T i = 5 ∨ T i = 6 ∨ T i = 7 ∨ T i = 8 ∨ T i = 9 ∨ T i = 10 ∨ T i = 11 ∨ T i = 12 ∨ T i = 13 ∨ T i = 14 ∨ T i = 15 ∨ T i = 16 ∨ T i = 17 ∨ T i = 18 ∨ T i = 19 ∨ T i = 20 ∨ T i = 21 ∨ T i = 22 := by omega
  rcases c with c | c | c | c | c | c | c | c | c | c | c | c | c | c | c | c | c | c | c | c | c | c | c <;> rw [c] at h ⊢
  · exact br_f (by decide) (br_f (by decide) (br_t (by decide) (h)))
  · exact br_f (by decide) (br_f (by decide) (br_f (by decide) (br_t (by decide) (h))))
  · exact br_f (by decide) (br_f (by decide) (br_f (by decide) (br_f (by decide) (br_t (by decide) (h)))))
  · exact br_f (by decide) (br_f (by decide) (br_f (by decide) (br_f (by decide) (br_f (by decide) (br_t (by decide) (h))))))
  · exact br_f (by decide) (br_f (by decide) (br_f (by decide) (br_f (by decide) (br_f (by decide) (br_f (by decide) (br_t (by decide) (h)))))))
  · exact br_f (by decide) (br_f (by decide) (br_f (by decide) (br_f (by decide) (br_f (by decide) (br_f (by decide) (br_f (by decide) (br_t (by decide) (h))))))))
  · exact br_f (by decide) (br_f (by decide) (br_f (by decide) (br_f (by decide) (br_f (by decide) (br_f (by decide) (br_f (by decide) (br_f (by decide) (br_t (by decide) (h)))))))))
  · exact br_f (by decide) (br_f (by decide) (br_f (by decide) (br_f (by decide) (br_f (by decide) (br_f (by decide) (br_f (by decide) (br_f (by decide) (br_f (by decide) (br_t (by decide) (h))))))))))
  · exact br_f (by decide) (br_f (by decide) (br_f (by decide) (br_f (by decide) (br_f (by decide) (br_f (by decide) (br_f (by decide) (br_f (by decide) (br_f (by decide) (br_f (by decide) (br_t (by decide) (h)))))))))))
  · exact br_f (by decide) (br_f (by decide) (br_f (by decide) (br_f (by decide) (br_f (by decide) (br_f (by decide) (br_f (by decide) (br_f (by decide) (br_f (by decide) (br_f (by decide) (br_f (by decide) (br_t (by decide) (h))))))))))))
  · exact br_f (by decide) (br_f (by decide) (br_f (by decide) (br_f (by decide) (br_f (by decide) (br_f (by decide) (br_f (by decide) (br_f (by decide) (br_f (by decide) (br_f (by decide) (br_f (by decide) (br_f (by decide) (br_t (by decide) (h)))))))))))))
  · exact br_f (by decide) (br_f (by decide) (br_f (by decide) (br_f (by decide) (br_f (by decide) (br_f (by decide) (br_f (by decide) (br_f (by decide) (br_f (by decide) (br_f (by decide) (br_f (by decide) (br_f (by decide) (br_f (by decide) (br_t (by decide) (h))))))))))))))
  · exact br_f (by decide) (br_f (by decide) (br_f (by decide) (br_f (by decide) (br_f (by decide) (br_f (by decide) (br_f (by decide) (br_f (by decide) (br_f (by decide) (br_f (by decide) (br_f (by decide) (br_f (by decide) (br_f (by decide) (br_f (by decide) (br_t (by decide) (h)))))))))))))))
  · exact br_f (by decide) (br_f (by decide) (br_f (by decide) (br_f (by decide) (br_f (by decide) (br_f (by decide) (br_f (by decide) (br_f (by decide) (br_f (by decide) (br_f (by decide) (br_f (by decide) (br_f (by decide) (br_f (by decide) (br_f (by decide) (br_f (by decide) (br_t (by decide) (h))))))))))))))))
  · exact br_f (by decide) (br_f (by decide) (br_f (by decide) (br_f (by decide) (br_f (by decide) (br_f (by decide) (br_f (by decide) (br_f (by decide) (br_f (by decide) (br_f (by decide) (br_f (by decide) (br_f (by decide) (br_f (by decide) (br_f (by decide) (br_f (by decide) (br_f (by decide) (br_t (by decide) (h)))))))))))))))))
  · exact br_f (by decide) (br_f (by decide) (br_f (by decide) (br_f (by decide) (br_f (by decide) (br_f (by decide) (br_f (by decide) (br_f (by decide) (br_f (by decide) (br_f (by decide) (br_f (by decide) (br_f (by decide) (br_f (by decide) (br_f (by decide) (br_f (by decide) (br_f (by decide) (br_f (by decide) (br_t (by decide) (h))))))))))))))))))
  · exact br_f (by decide) (br_f (by decide) (br_f (by decide) (br_f (by decide) (br_f (by decide) (br_f (by decide) (br_f (by decide) (br_f (by decide) (br_f (by decide) (br_f (by decide) (br_f (by decide) (br_f (by decide) (br_f (by decide) (br_f (by decide) (br_f (by decide) (br_f (by decide) (br_f (by decide) (br_f (by decide) (br_t (by decide) (h)))))))))))))))))))
  · exact br_f (by decide) (br_f (by decide) (br_f (by decide) (br_f (by decide) (br_f (by decide) (br_f (by decide) (br_f (by decide) (br_f (by decide) (br_f (by decide) (br_f (by decide) (br_f (by decide) (br_f (by decide) (br_f (by decide) (br_f (by decide) (br_f (by decide) (br_f (by decide) (br_f (by decide) (br_f (by decide) (br_f (by decide) (br_t (by decide) (h))))))))))))))))))))
  · exact br_f (by decide) (br_f (by decide) (br_f (by decide) (br_f (by decide) (br_f (by decide) (br_f (by decide) (br_f (by decide) (br_f (by decide) (br_f (by decide) (br_f (by decide) (br_f (by decide) (br_f (by decide) (br_f (by decide) (br_f (by decide) (br_f (by decide) (br_f (by decide) (br_f (by decide) (br_f (by decide) (br_f (by decide) (br_f (by decide) (br_t (by decide) (h)))))))))))))))))))))
  · exact br_f (by decide) (br_f (by decide) (br_f (by decide) (br_f (by decide) (br_f (by decide) (br_f (by decide) (br_f (by decide) (br_f (by decide) (br_f (by decide) (br_f (by decide) (br_f (by decide) (br_f (by decide) (br_f (by decide) (br_f (by decide) (br_f (by decide) (br_f (by decide) (br_f (by decide) (br_f (by decide) (br_f (by decide) (br_f (by decide) (br_f (by decide) (br_t (by decide) (h))))))))))))))))))))))
  · exact br_f (by decide) (br_t (by decide) (h))
  · exact br_f (by decide) (br_t (by decide) (h))
  · exact br_f (by decide) (br_t (by decide) (h))
theorem cx_isp (hn : n ≤ 40) (hK : ∀ i, i < n → tk i = nI (T i) ∧ T i < 23) {post : Int32 → Prop} {i : Nat} (hi : i < n) (h : post (if cm_pre T i = true then 1 else 0)) : wpX_isPrefix post (oc, nI n, cp, lc, sc, kc, dp, vc, er, ep, uu, cls, num, lnk, lsz, lit, fb, tk, tv, rk, rl, ro, ra, rt, rp, oo, co, sk, kd, fr, fn, fi, vs, ll, li, lt) (nI i) := by
  obtain ⟨e1, e2, e3⟩ := cx_tk hn hK hi
  refine ⟨e3, ?_⟩
  unfold cm_pre at h
  by_cases t12 : T i = 12
  · rw [decide_eq_true t12] at h
    exact br_t (by rw [e1, t12]; rfl) h
  · rw [decide_eq_false t12] at h
    refine br_f (e2 12 t12 (by decide)) ⟨e3, ?_⟩
    by_cases t16 : T i = 16
    · rw [decide_eq_true t16] at h
      refine br_t (by rw [e1, t16]; rfl) ?_
      by_cases i0 : i = 0
      · rw [decide_eq_true i0] at h
        exact br_t (by rw [i0]; rfl) h
      · rw [decide_eq_false i0] at h
        refine br_f (nI_ne0 (by omega) (by omega)) ?_
        obtain ⟨j, rfl⟩ : ∃ j, i = j + 1 := ⟨i - 1, by omega⟩
        rw [nI_pred]
        rw [Nat.add_sub_cancel] at h
        refine cx_end hn hK (by omega) ?_
        cases hc : cm_end T j with
        | true => rw [hc] at h; exact br_f (by decide) h
        | false => rw [hc] at h; exact br_t rfl h
    · rw [decide_eq_false t16] at h
      exact br_f (e2 16 t16 (by decide)) h
theorem cx_str (hn : n ≤ 40) (hK : ∀ i, i < n → tk i = nI (T i) ∧ T i < 23) {post : Int32 → Prop} {i : Nat} (hi : i < n) (h : post (nI (cm_str T i))) : wpX_strengthOf post (oc, nI n, cp, lc, sc, kc, dp, vc, er, ep, uu, cls, num, lnk, lsz, lit, fb, tk, tv, rk, rl, ro, ra, rt, rp, oo, co, sk, kd, fr, fn, fi, vs, ll, li, lt) (nI i) := by
  obtain ⟨e1, e2, e3⟩ := cx_tk hn hK hi
  have hT := (hK i hi).2
  refine ⟨e3, nm_r (e' := nI (T i)) e1 ?_⟩
  have c : T i = 0 ∨ T i = 1 ∨ T i = 2 ∨ T i = 3 ∨ T i = 4 ∨ T i = 5 ∨ T i = 6 ∨ T i = 7 ∨ T i = 8 ∨ T i = 9 ∨ T i = 10 ∨ T i = 11 ∨ T i = 12 ∨ T i = 13 ∨ T i = 14 ∨ T i = 15 ∨ T i = 16 ∨ T i = 17 ∨ T i = 18 ∨ T i = 19 ∨ T i = 20 ∨ T i = 21 ∨ T i = 22 := by omega
  unfold cm_str at h
  rcases c with c | c | c | c | c | c | c | c | c | c | c | c | c | c | c | c | c | c | c | c | c | c | c <;> rw [c] at h ⊢
  · exact br_t (by decide) (h)
  · exact br_t (by decide) (h)
  · exact br_t (by decide) (h)
  · exact br_t (by decide) (h)
  · exact br_t (by decide) (h)
  · exact br_t (by decide) (h)
  · exact br_t (by decide) (h)
  · exact br_t (by decide) (h)
  · exact br_t (by decide) (h)
  · exact br_f (by decide) (br_f (by decide) (br_t (by decide) (h)))
  · exact br_f (by decide) (br_f (by decide) (br_f (by decide) (br_t (by decide) (h))))
  · exact br_f (by decide) (br_f (by decide) (br_f (by decide) (br_f (by decide) (br_t (by decide) (h)))))
  · exact br_f (by decide) (br_f (by decide) (br_f (by decide) (br_f (by decide) (br_f (by decide) (br_t (by decide) (h))))))
  · exact br_f (by decide) (br_f (by decide) (br_f (by decide) (br_f (by decide) (br_f (by decide) (br_f (by decide) (br_t (by decide) (h)))))))
  · exact br_f (by decide) (br_f (by decide) (br_f (by decide) (br_f (by decide) (br_f (by decide) (br_f (by decide) (br_f (by decide) (br_t (by decide) (h))))))))
  · exact br_f (by decide) (br_f (by decide) (br_f (by decide) (br_f (by decide) (br_f (by decide) (br_f (by decide) (br_f (by decide) (br_f (by decide) (br_t (by decide) (h)))))))))
  · refine br_f (by decide) (br_f (by decide) (br_f (by decide) (br_f (by decide) (br_f (by decide) (br_f (by decide) (br_f (by decide) (br_f (by decide) (br_f (by decide) (br_t (by decide) (cx_isp hn hK hi ?_))))))))))
    cases hp : cm_pre T i with
    | true => rw [hp] at h; exact br_f (by decide) h
    | false => rw [hp] at h; exact br_t rfl h
  · exact br_f (by decide) (br_f (by decide) (br_f (by decide) (br_f (by decide) (br_f (by decide) (br_f (by decide) (br_f (by decide) (br_f (by decide) (br_f (by decide) (br_f (by decide) (br_t (by decide) (h)))))))))))
  · exact br_f (by decide) (br_f (by decide) (br_f (by decide) (br_f (by decide) (br_f (by decide) (br_f (by decide) (br_f (by decide) (br_f (by decide) (br_f (by decide) (br_f (by decide) (br_f (by decide) (br_t (by decide) (h))))))))))))
  · exact br_f (by decide) (br_t (by decide) (h))
  · exact br_f (by decide) (br_t (by decide) (h))
  · exact br_f (by decide) (br_t (by decide) (h))
  · exact br_f (by decide) (br_t (by decide) (h))
theorem cx_sf (hn : n ≤ 40) (hK : ∀ i, i < n → tk i = nI (T i) ∧ T i < 23) {post : Int32 → Prop} {i : Nat} (hi : i < n) (h : post (nI (cm_sf T i))) : wpX_settlesFrom post (oc, nI n, cp, lc, sc, kc, dp, vc, er, ep, uu, cls, num, lnk, lsz, lit, fb, tk, tv, rk, rl, ro, ra, rt, rp, oo, co, sk, kd, fr, fn, fi, vs, ll, li, lt) (nI i) := by
  obtain ⟨e1, e2, e3⟩ := cx_tk hn hK hi
  have hT := (hK i hi).2
  refine ⟨e3, nm_r (e' := nI (T i)) e1 ?_⟩
  have s7 := cm_str7 (T := T) i
  have dflt : T i ≠ 7 → T i ≠ 9 → T i ≠ 8 → wpX_strengthOf (fun r_5 => (((r_5 = 0 → (post 8)) ∧ (¬ r_5 = 0 → (((r_5 = 7 → (post 8)) ∧ (¬ r_5 = 7 → (post r_5)))))))) (oc, nI n, cp, lc, sc, kc, dp, vc, er, ep, uu, cls, num, lnk, lsz, lit, fb, tk, tv, rk, rl, ro, ra, rt, rp, oo, co, sk, kd, fr, fn, fi, vs, ll, li, lt) (nI i) := by
    intro t7 t9 t8
    refine cx_str hn hK hi ?_
    unfold cm_sf at h
    rw [if_neg (by omega), if_neg t8] at h
    by_cases z0 : cm_str T i = 0
    · rw [if_pos (Or.inl z0)] at h
      exact br_t (by rw [z0]; rfl) h
    · refine br_f (nI_ne0 (by omega) (by omega)) ?_
      by_cases z7 : cm_str T i = 7
      · rw [if_pos (Or.inr z7)] at h
        exact br_t (by rw [z7]; rfl) h
      · rw [if_neg (by omega)] at h
        exact br_f (fun z => z7 ((nI_eq (b := 7) (by omega) (by decide)).1 z)) h
  by_cases l7 : T i < 7
  · exact br_t (nI_lt (b := 7) l7 (by decide)) (dflt (by omega) (by omega) (by omega))
  · refine br_f (nI_nlt (b := 7) (by omega) (by omega)) ?_
    by_cases g9 : 9 < T i
    · exact br_t (nI_lt (a := 9) g9 (by omega)) (dflt (by omega) (by omega) (by omega))
    · refine br_f (nI_nlt (a := 9) (by omega) (by omega)) ?_
      have c : T i = 7 ∨ T i = 8 ∨ T i = 9 := by omega
      rcases c with c | c | c
      · rw [cm_sf1 (Or.inl c)] at h
        rw [c]; exact br_t rfl h
      · rw [cm_sf2 c] at h
        rw [c]; exact br_f (by decide) (br_t rfl h)
      · rw [cm_sf1 (Or.inr c)] at h
        rw [c]; exact br_f (by decide) (br_f (by decide) (br_t rfl h))
end
