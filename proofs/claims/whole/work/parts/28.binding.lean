theorem cb_tst : ∀ M : Fin 8, ∀ v : Fin 3, ((nI M.val &&& ((1 : Int32) <<< (nI v.val &&& 31))) = 0 ↔ M.val.testBit v.val = false) := by decide +kernel
theorem cb_or : ∀ M : Fin 8, ∀ v : Fin 3, nI M.val ||| ((1 : Int32) <<< (nI v.val &&& 31)) = nI (M.val ||| 2 ^ v.val) := by decide +kernel
theorem cb_orb : ∀ M : Fin 8, ∀ v : Fin 3, (M.val ||| 2 ^ v.val) < 8 ∧ ∀ u : Fin 3, ((M.val ||| 2 ^ v.val).testBit u.val = true ↔ (u = v ∨ M.val.testBit u.val = true)) := by decide +kernel
theorem cb_an : ∀ M : Fin 8, ∀ v : Fin 3, nI M.val &&& (((1 : Int32) <<< (nI v.val &&& 31)) ^^^ (-1)) = nI (M.val &&& (7 - 2 ^ v.val)) := by decide +kernel
theorem cb_anb : ∀ M : Fin 8, ∀ v : Fin 3, (M.val &&& (7 - 2 ^ v.val)) < 8 ∧ ∀ u : Fin 3, ((M.val &&& (7 - 2 ^ v.val)).testBit u.val = true ↔ (u ≠ v ∧ M.val.testBit u.val = true)) := by decide +kernel
section
variable {oc cp lc sc kc dp vc er ep uu : Int32} {cls num lnk lsz lit fb rk rl ro ra rt rp oo co sk kd fr fn fi vs ll li lt : Nat → Int32} {ob pl nds sts res era usd sp lv ret out : Int32} {ycls prp lst siz dnd opd yrk rn op nm ay prt ylo yhi sN sP sX sK it vr tk tv : Nat → Int32} {n : Nat} {T : Nat → Nat}
/-- the bindings of the first i tokens are in order -/
def ca_D (T : Nat → Nat) (tv : Nat → Int32) (i : Nat) : Prop := ∀ j, j < i → (T j = 4 → ca_B T tv (ca_Z T j) (tv j)) ∧ (20 ≤ T j → ¬ ca_B T tv (ca_Z T j) (tv j))
theorem ca_B_cons {e : Nat × Nat} {r : List (Nat × Nat)} {x : Int32} : ca_B T tv (e :: r) x ↔ (T e.1 = 9 ∧ tv e.2 = x) ∨ ca_B T tv r x := by
  constructor
  · rintro ⟨y, y1, y2, y3⟩
    rcases List.mem_cons.mp y1 with z | z
    · rw [z] at y2 y3; exact Or.inl ⟨y2, y3⟩
    · exact Or.inr ⟨y, z, y2, y3⟩
  · rintro (⟨a, b⟩ | ⟨y, y1, y2, y3⟩)
    · exact ⟨e, List.mem_cons_self .., a, b⟩
    · exact ⟨y, List.mem_cons_of_mem _ y1, y2, y3⟩
def cb_M (T : Nat → Nat) (tv : Nat → Int32) (s : List (Nat × Nat)) (M : Nat) : Prop := M < 8 ∧ ∀ v, v < 3 → (M.testBit v = true ↔ ca_B T tv s (nI v))
theorem cb_same {s s' : List (Nat × Nat)} {M : Nat} (h : cb_M T tv s M) (hs : ∀ x, ca_B T tv s' x ↔ ca_B T tv s x) : cb_M T tv s' M := ⟨h.1, fun v hv => (h.2 v hv).trans (hs _).symm⟩
theorem cb_after (hn : n ≤ 40) (hK : ∀ i, i < n → tk i = nI (T i) ∧ T i < 23) (hA : ca_S T n = some (1, [])) (hTv : ∀ i, i < n → T i = 4 ∨ 20 ≤ T i → ∃ v, v < 3 ∧ tv i = nI v) (hoo : ∀ j, j < n → T j = 7 ∨ T j = 9 → oo j = nI (ca_o T j)) {i M : Nat} (hi : i < n) (hM : cb_M T tv (ca_Z T i) M) (hD : ca_D T tv i) : ∃ M', cb_M T tv (ca_Z T (i + 1)) M' ∧ ∀ post : Int32 → Prop, post (nI M') → wpX_boundAfter post (oc, nI n, cp, lc, sc, kc, dp, vc, er, ep, uu, cls, num, lnk, lsz, lit, fb, tk, tv, rk, rl, ro, ra, rt, rp, oo, co, sk, kd, fr, fn, fi, vs, ll, li, lt) (nI i) (nI M) := by
  obtain ⟨kk, kt⟩ := hK i hi
  have ci : (nI i).toNatClampNeg = i := nI_clamp (by omega)
  have ck : tk (nI i).toNatClampNeg = nI (T i) := by rw [ci]; exact kk
  have ii : vp_in (nI i) 40 := vp_in_nI (by omega) (by decide)
  have e0 : ∀ x, T i ≠ x → x < 23 → ¬ tk (nI i).toNatClampNeg = nI x := fun x z hx y => z ((nI_eq (by omega) (by omega)).1 (ck.symm.trans y))
  have skip : T i ≠ 9 → T i ≠ 7 → (∀ x, ca_B T tv (ca_Z T (i + 1)) x ↔ ca_B T tv (ca_Z T i) x) → ∃ M', cb_M T tv (ca_Z T (i + 1)) M' ∧ ∀ post : Int32 → Prop, post (nI M') → wpX_boundAfter post (oc, nI n, cp, lc, sc, kc, dp, vc, er, ep, uu, cls, num, lnk, lsz, lit, fb, tk, tv, rk, rl, ro, ra, rt, rp, oo, co, sk, kd, fr, fn, fi, vs, ll, li, lt) (nI i) (nI M) :=
    fun t9 t7 hs => ⟨M, cb_same hM hs, fun post hp => ⟨ii, br_f (e0 9 t9 (by decide)) ⟨ii, br_f (e0 7 t7 (by decide)) hp⟩⟩⟩
  have opn : ∀ e r, ca_Z T i = e :: r → ca_o T i = e.2 := by
    intro e r z
    unfold ca_o
    rw [ca_some hA (by omega : i ≤ n), z]
  -- the opener o: either no quantifier, or one
  have to24 : (T i = 7 ∨ T i = 9) → ∀ post : Int32 → Prop, wX_boundAfter_24 post (nI i) (nI M) oc (nI n) cp lc sc kc dp vc er ep uu cls num lnk lsz lit fb tk tv rk rl ro ra rt rp oo co sk kd fr fn fi vs ll li lt → wpX_boundAfter post (oc, nI n, cp, lc, sc, kc, dp, vc, er, ep, uu, cls, num, lnk, lsz, lit, fb, tk, tv, rk, rl, ro, ra, rt, rp, oo, co, sk, kd, fr, fn, fi, vs, ll, li, lt) (nI i) (nI M) := by
    intro t post H
    by_cases t9 : T i = 9
    · exact ⟨ii, br_t (by rw [ck, t9]; rfl) H⟩
    · exact ⟨ii, br_f (e0 9 t9 (by decide)) ⟨ii, br_t (by rw [ck, t.resolve_right t9]; rfl) H⟩⟩
  have noq : ∀ o, (T i = 7 ∨ T i = 9) → ca_o T i = o → o < n → T o < 20 → ∀ post : Int32 → Prop, post (nI M) → wpX_boundAfter post (oc, nI n, cp, lc, sc, kc, dp, vc, er, ep, uu, cls, num, lnk, lsz, lit, fb, tk, tv, rk, rl, ro, ra, rt, rp, oo, co, sk, kd, fr, fn, fi, vs, ll, li, lt) (nI i) (nI M) := by
    intro o t eo ho to post hp
    refine to24 t post ⟨ii, nm_r (e' := nI o) (by rw [ci, hoo i hi t, eo]) ⟨vp_in_nI (by omega) (by decide), br_t (by rw [nI_clamp (by omega), (hK o ho).1]; exact nI_lt (b := 20) to (by decide)) (br_t rfl hp)⟩⟩
  have isq : ∀ o v, (T i = 7 ∨ T i = 9) → ca_o T i = o → o < n → 20 ≤ T o → v < 3 → tv o = nI v → ∀ post : Int32 → Prop, (T i = 9 → post (nI M ||| ((1 : Int32) <<< (nI v &&& 31)))) → (T i = 7 → post (nI M &&& (((1 : Int32) <<< (nI v &&& 31)) ^^^ (-1)))) → wpX_boundAfter post (oc, nI n, cp, lc, sc, kc, dp, vc, er, ep, uu, cls, num, lnk, lsz, lit, fb, tk, tv, rk, rl, ro, ra, rt, rp, oo, co, sk, kd, fr, fn, fi, vs, ll, li, lt) (nI i) (nI M) := by
    intro o v t eo ho to hv ev post h9 h7
    have co : (nI o).toNatClampNeg = o := nI_clamp (by omega)
    refine to24 t post ⟨ii, nm_r (e' := nI o) (by rw [ci, hoo i hi t, eo]) ⟨vp_in_nI (by omega) (by decide), br_f (by rw [co, (hK o ho).1]; exact nI_nlt (b := 20) to (by have := (hK o ho).2; omega)) (br_f (by decide) ⟨vp_in_nI (by omega) (by decide), nm_r (e' := (1 : Int32) <<< (nI v &&& 31)) (by rw [co, ev]) ⟨ii, ?_⟩⟩)⟩⟩
    by_cases t9 : T i = 9
    · exact br_t (by rw [ck, t9]; rfl) (h9 t9)
    · exact br_f (e0 9 t9 (by decide)) (h7 (t.resolve_right t9))
  have samecons : ∀ (x : Nat × Nat), T x.1 ≠ 9 → ca_Z T (i + 1) = x :: ca_Z T i → ∀ y, ca_B T tv (ca_Z T (i + 1)) y ↔ ca_B T tv (ca_Z T i) y := by
    intro x tx z y
    rw [z, ca_B_cons]
    exact ⟨fun h => h.resolve_left (fun g => tx g.1), Or.inr⟩
  rcases ca_rule hA hi with ⟨w, t, w', z⟩ | ⟨w, t, w', z⟩ | ⟨w, t, w', z⟩ | ⟨w, t, w', z⟩ | ⟨w, t, w', z⟩ | ⟨w, t, w', z⟩ | ⟨w, t, w', z⟩ | ⟨w, t, w', e, r, z1, t1, z⟩ | ⟨w, t, w', e, r, z1, t1, z⟩ | ⟨w, t, w', e, r, z1, t1, z⟩ | ⟨w, t, w', z⟩
  · exact skip (by omega) (by omega) (fun x => by rw [z])
  · exact skip (by omega) (by omega) (fun x => by rw [z])
  · exact skip (by omega) (by omega) (fun x => by rw [z])
  · exact skip (by omega) (by omega) (samecons _ (by show T i ≠ 9; omega) z)
  · exact skip (by omega) (by omega) (samecons _ (by show T i ≠ 9; omega) z)
  · exact skip (by omega) (by omega) (fun x => by rw [z])
  · exact skip (by omega) (by omega) (samecons _ (by show T i ≠ 9; omega) z)
  · obtain ⟨a1, a2, a3, a4, a5⟩ := ca_ent hA (i := i) (by omega) [] e r z1
    have a6 := (a4 (by omega)).1
    refine ⟨M, cb_same hM (fun x => ?_), noq e.2 (Or.inr t) (opn e r z1) (by omega) (by rw [a6]; omega)⟩
    rw [z, z1, ca_B_cons]
    exact ⟨Or.inr, fun h => h.resolve_left (fun g => absurd g.1 (by omega))⟩
  · obtain ⟨a1, a2, a3, a4, a5⟩ := ca_ent hA (i := i) (by omega) [] e r z1
    have a6 := (a4 (by omega)).1
    obtain ⟨v, hv, ev⟩ := hTv e.2 (by omega) (Or.inr (by rw [a6]; exact t1))
    refine ⟨M ||| 2 ^ v, ⟨(cb_orb ⟨M, hM.1⟩ ⟨v, hv⟩).1, fun u hu => ?_⟩, fun post hp => isq e.2 v (Or.inr t) (opn e r z1) (by omega) (by rw [a6]; exact t1) hv ev post (fun _ => ?_) (fun y => absurd y (by omega))⟩
    · rw [(cb_orb ⟨M, hM.1⟩ ⟨v, hv⟩).2 ⟨u, hu⟩, z, ca_B_cons]
      have h3 := hM.2 u hu
      rw [z1, ca_B_cons] at h3
      constructor
      · rintro (y | y)
        · have : u = v := congrArg Fin.val y
          rw [this]; exact Or.inl ⟨t, ev⟩
        · exact Or.inr ((h3.1 y).resolve_left (fun g => absurd g.1 (by omega)))
      · rintro (y | y)
        · exact Or.inl (Fin.ext ((nI_eq (by omega) (by omega)).1 (y.2.symm.trans ev)))
        · exact Or.inr (h3.2 (Or.inr y))
    · rw [cb_or ⟨M, hM.1⟩ ⟨v, hv⟩]; exact hp
  · obtain ⟨a1, a2, a3, a4, a5⟩ := ca_ent hA (i := i) (by omega) [] e r z1
    by_cases t9 : T e.1 = 9
    · obtain ⟨b1, b2, b3⟩ := a5 t9
      obtain ⟨v, hv, ev⟩ := hTv e.2 (by omega) (Or.inr b1)
      have hR : ca_Z T e.2 = r := ((ca_ent hA (i := e.1) (by omega) [] (e.2, e.2) r b2).2.2.2.1 (by show T e.2 ≠ 9; omega)).2
      have hnd : ¬ ca_B T tv r (nI v) := by
        have := (hD e.2 (by omega)).2 b1
        rw [hR, ev] at this; exact this
      refine ⟨M &&& (7 - 2 ^ v), ⟨(cb_anb ⟨M, hM.1⟩ ⟨v, hv⟩).1, fun u hu => ?_⟩, fun post hp => isq e.2 v (Or.inl t) (opn e r z1) (by omega) b1 hv ev post (fun y => absurd y (by omega)) (fun _ => ?_)⟩
      · rw [(cb_anb ⟨M, hM.1⟩ ⟨v, hv⟩).2 ⟨u, hu⟩, z]
        have h3 := hM.2 u hu
        rw [z1, ca_B_cons] at h3
        constructor
        · rintro ⟨y1, y2⟩
          refine (h3.1 y2).resolve_left (fun g => y1 (Fin.ext ?_))
          exact (nI_eq (by omega) (by omega)).1 (g.2.symm.trans ev)
        · intro y
          refine ⟨fun g => hnd ?_, h3.2 (Or.inr y)⟩
          have : u = v := congrArg Fin.val g
          rw [← this]; exact y
      · rw [cb_an ⟨M, hM.1⟩ ⟨v, hv⟩]; exact hp
    · have a6 := (a4 t9).1
      refine ⟨M, cb_same hM (fun x => ?_), noq e.2 (Or.inl t) (opn e r z1) (by omega) (by rw [a6]; omega)⟩
      rw [z, z1, ca_B_cons]
      exact ⟨Or.inr, fun h => h.resolve_left (fun g => t9 g.1)⟩
  · exact skip (by omega) (by omega) (fun x => by rw [z])
theorem cb_loop (hn : n ≤ 40) (hK : ∀ i, i < n → tk i = nI (T i) ∧ T i < 23) (hA : ca_S T n = some (1, [])) (hTv : ∀ i, i < n → T i = 4 ∨ 20 ≤ T i → ∃ v, v < 3 ∧ tv i = nI v) (hoo : ∀ j, j < n → T j = 7 ∨ T j = 9 → oo j = nI (ca_o T j)) : ∀ (d i M : Nat), i + d = n → cb_M T tv (ca_Z T i) M → ca_D T tv i → ∃ r : Int32, (∀ post : Int32 → Prop, post r → wX_bindingPlace_4 post oc (nI n) cp lc sc kc dp vc er ep uu cls num lnk lsz lit fb tk tv rk rl ro ra rt rp oo co sk kd fr fn fi vs ll li lt (d + 1) (nI M) (nI i)) ∧ (∀ post : Int32 → Prop, post r → wY_unbound_2 post ob (nI n) pl nds sts res era usd sp lv ret out ycls prp lst siz dnd (tk) (tv) opd yrk rn op nm ay prt ylo yhi sN sP sX sK it vr (d + 1) (nI i)) ∧ ((r = -1 ∧ ca_D T tv n) ∨ ∃ j, j ≤ n ∧ r = nI j) := by
  intro d
  induction d with
  | zero =>
    intro i M hi hM hD
    have : i = n := by omega
    subst this
    have h0 : nI i ≤ nI i := nI_le (Nat.le_refl _) (by omega)
    exact ⟨-1, fun post hp => br_t h0 hp, fun post hp => br_t h0 hp, Or.inl ⟨rfl, hD⟩⟩
  | succ d ih =>
    intro i M hi hM hD
    have hin : i < n := by omega
    obtain ⟨kk, kt⟩ := hK i hin
    have ci : (nI i).toNatClampNeg = i := nI_clamp (by omega)
    have ck : tk (nI i).toNatClampNeg = nI (T i) := by rw [ci]; exact kk
    have cv : tv (nI i).toNatClampNeg = tv i := by rw [ci]
    have ii : vp_in (nI i) 40 := vp_in_nI (by omega) (by decide)
    have n0 : ¬ nI n ≤ nI i := nI_ge hin (by omega)
    obtain ⟨M', hM', hX⟩ := cb_after hn hK hA hTv hoo hin hM hD
    have bit : ∀ v, v < 3 → tv i = nI v → ((nI M &&& ((1 : Int32) <<< (tv (nI i).toNatClampNeg &&& 31))) = 0 ↔ ¬ ca_B T tv (ca_Z T i) (tv i)) := by
      intro v hv ev
      rw [cv, ev, cb_tst ⟨M, hM.1⟩ ⟨v, hv⟩]
      have := hM.2 v hv
      constructor
      · intro a b
        rw [this.2 b] at a; cases a
      · intro a
        cases h : M.testBit v with
        | false => rfl
        | true => exact absurd (this.1 h) a
    have goon : ca_D T tv (i + 1) → ∃ r : Int32, (∀ post : Int32 → Prop, post r → wX_bindingPlace_55 post (wX_bindingPlace_4 post oc (nI n) cp lc sc kc dp vc er ep uu cls num lnk lsz lit fb tk tv rk rl ro ra rt rp oo co sk kd fr fn fi vs ll li lt (d + 1)) (nI M) (nI i) oc (nI n) cp lc sc kc dp vc er ep uu cls num lnk lsz lit fb tk tv rk rl ro ra rt rp oo co sk kd fr fn fi vs ll li lt) ∧ (∀ post : Int32 → Prop, post r → wY_unbound_2 post ob (nI n) pl nds sts res era usd sp lv ret out ycls prp lst siz dnd (tk) (tv) opd yrk rn op nm ay prt ylo yhi sN sP sX sK it vr (d + 1) (nI (i + 1))) ∧ ((r = -1 ∧ ca_D T tv n) ∨ ∃ j, j ≤ n ∧ r = nI j) := by
      intro hD'
      obtain ⟨r, rX, rY, rR⟩ := ih (i + 1) M' (by omega) hM' hD'
      exact ⟨r, fun post hp => hX _ (nm_r (nI_1 i) (rX post hp)), rY, rR⟩
    have D1 : ((T i = 4 → ca_B T tv (ca_Z T i) (tv i)) ∧ (20 ≤ T i → ¬ ca_B T tv (ca_Z T i) (tv i))) → ca_D T tv (i + 1) := by
      intro h j hj
      by_cases z : j = i
      · rw [z]; exact h
      · exact hD j (by omega)
    by_cases t20 : T i < 20
    · have q20 : tk (nI i).toNatClampNeg < 20 := by rw [ck]; exact nI_lt (b := 20) t20 (by decide)
      by_cases t4 : T i = 4
      · have q4 : tk (nI i).toNatClampNeg = 4 := by rw [ck, t4]; rfl
        obtain ⟨v, hv, ev⟩ := hTv i hin (Or.inl t4)
        by_cases hb : ca_B T tv (ca_Z T i) (tv i)
        · obtain ⟨r, rX, rY, rR⟩ := goon (D1 ⟨fun _ => hb, fun z => absurd z (by omega)⟩)
          refine ⟨r, fun post hp => br_f n0 ⟨ii, nm_e ⟨ii, br_t q4 (br_f (fun z => (bit v hv ev).1 z hb) ⟨ii, br_t q20 (br_t rfl (rX post hp))⟩)⟩⟩, fun post hp => br_f n0 ⟨ii, br_t q4 ⟨ii, ?_⟩⟩, rR⟩
          rw [cv]
          exact cy_bound hn hK hA hin (by omega) (fun _ => br_f (by decide) ⟨ii, br_t q20 (nm_r (nI_1 i) (rY post hp))⟩) (fun z => absurd hb z)
        · refine ⟨nI i, fun post hp => br_f n0 ⟨ii, nm_e ⟨ii, br_t q4 (br_t ((bit v hv ev).2 hb) hp)⟩⟩, fun post hp => br_f n0 ⟨ii, br_t q4 ⟨ii, ?_⟩⟩, Or.inr ⟨i, by omega, rfl⟩⟩
          rw [cv]
          exact cy_bound hn hK hA hin (by omega) (fun z => absurd z hb) (fun _ => br_t rfl hp)
      · have q4 : ¬ tk (nI i).toNatClampNeg = 4 := fun z => t4 ((nI_eq (b := 4) (by omega) (by decide)).1 (ck.symm.trans z))
        obtain ⟨r, rX, rY, rR⟩ := goon (D1 ⟨fun z => absurd z t4, fun z => absurd z (by omega)⟩)
        exact ⟨r, fun post hp => br_f n0 ⟨ii, nm_e ⟨ii, br_f q4 ⟨ii, br_t q20 (br_t rfl (rX post hp))⟩⟩⟩, fun post hp => br_f n0 ⟨ii, br_f q4 ⟨ii, br_t q20 (nm_r (nI_1 i) (rY post hp))⟩⟩, rR⟩
    · have q20 : ¬ tk (nI i).toNatClampNeg < 20 := by rw [ck]; exact nI_nlt (b := 20) (by omega) (by omega)
      have q4 : ¬ tk (nI i).toNatClampNeg = 4 := fun z => absurd ((nI_eq (b := 4) (by omega) (by decide)).1 (ck.symm.trans z)) (by omega)
      obtain ⟨v, hv, ev⟩ := hTv i hin (Or.inr (by omega))
      by_cases hb : ca_B T tv (ca_Z T i) (tv i)
      · refine ⟨nI i, fun post hp => br_f n0 ⟨ii, nm_e ⟨ii, br_f q4 ⟨ii, br_f q20 (br_f (by decide) (br_f (fun z => (bit v hv ev).1 z hb) hp))⟩⟩⟩, fun post hp => br_f n0 ⟨ii, br_f q4 ⟨ii, br_f q20 ⟨ii, ?_⟩⟩⟩, Or.inr ⟨i, by omega, rfl⟩⟩
        rw [cv]
        exact cy_bound hn hK hA hin (by omega) (fun _ => br_f (by decide) hp) (fun z => absurd hb z)
      · obtain ⟨r, rX, rY, rR⟩ := goon (D1 ⟨fun z => absurd z (by omega), fun _ => hb⟩)
        refine ⟨r, fun post hp => br_f n0 ⟨ii, nm_e ⟨ii, br_f q4 ⟨ii, br_f q20 (br_f (by decide) (br_t ((bit v hv ev).2 hb) (rX post hp)))⟩⟩⟩, fun post hp => br_f n0 ⟨ii, br_f q4 ⟨ii, br_f q20 ⟨ii, ?_⟩⟩⟩, rR⟩
        rw [cv]
        exact cy_bound hn hK hA hin (by omega) (fun z => absurd z hb) (fun _ => br_t rfl (nm_r (nI_1 i) (rY post hp)))
theorem cb_both (hn : n ≤ 40) (hK : ∀ i, i < n → tk i = nI (T i) ∧ T i < 23) (hA : ca_S T n = some (1, [])) (hTv : ∀ i, i < n → T i = 4 ∨ 20 ≤ T i → ∃ v, v < 3 ∧ tv i = nI v) (hoo : ∀ j, j < n → T j = 7 ∨ T j = 9 → oo j = nI (ca_o T j)) : ∃ r : Int32, (∀ post : Int32 → Prop, post r → wpX_bindingPlace post (oc, nI n, cp, lc, sc, kc, dp, vc, er, ep, uu, cls, num, lnk, lsz, lit, fb, tk, tv, rk, rl, ro, ra, rt, rp, oo, co, sk, kd, fr, fn, fi, vs, ll, li, lt)) ∧ (∀ post : Int32 → Prop, post r → wpY_unbound post (ob, nI n, pl, nds, sts, res, era, usd, sp, lv, ret, out, ycls, prp, lst, siz, dnd, tk, tv, opd, yrk, rn, op, nm, ay, prt, ylo, yhi, sN, sP, sX, sK, it, vr)) ∧ ((r = -1 ∧ ca_D T tv n) ∨ ∃ j, j ≤ n ∧ r = nI j) := by
  obtain ⟨r, rX, rY, rR⟩ := cb_loop hn hK hA hTv hoo n 0 0 (by omega) ⟨by decide, fun v hv => ⟨fun z => absurd z (by rw [Nat.zero_testBit]; exact Bool.false_ne_true), fun ⟨y, y1, _⟩ => absurd y1 (by rw [ca_Z0]; exact List.not_mem_nil)⟩⟩ (fun j hj => absurd hj (by omega))
  exact ⟨r, fun post hp => ⟨_, rX post hp⟩, fun post hp => ⟨_, rY post hp⟩, rR⟩
end
