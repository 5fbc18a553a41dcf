theorem cw_ar3 (t : Int32) : gr_ar t ≤ 3 := by
  unfold gr_ar; repeat' split
  all_goals omega
theorem cw_keep {q r : Nat} {kind : Int32} {rk rl ro ra rt rp rn op nm ay prt rl' ro' ra' rt' rp' rn' op' nm' ay' prt' : Nat → Int32} (hq : q < 6) (hqr : q ≠ r) (hkq : ¬ rk q = 0) (hQ : gr_Q q rk rl ro ra rt rp rn op nm ay prt) (h1 : rl' q = rl q) (h2 : rn' q = rn q) (h3 : ∀ j, q * 40 ≤ j → j < q * 40 + 40 → ro' j = ro j ∧ ra' j = ra j ∧ rt' j = rt j ∧ rp' j = rp j) (h4 : ∀ j, q * 40 ≤ j → j < q * 40 + 40 → op' j = op j ∧ nm' j = nm j ∧ ay' j = ay j) (h5 : ∀ j, q * 40 * 3 ≤ j → j < (q * 40 + 40) * 3 → prt' j = prt j) (hc : rk r = kind ∨ rk r = 0 ∨ ¬ cf_D rk rn op nm q r) : gr_Q q (upd rk r kind) rl' ro' ra' rt' rp' rn' op' nm' ay' prt' := by
  obtain ⟨len, nn, f, xo, xa, xt, xp, yo, yn, ya, yp, d1, d2, d3, d4, d5, d6, d7, d8, d9, d10⟩ := hQ
  refine ⟨len, nn, f, xo, xa, xt, xp, yo, yn, ya, yp, d1, d2, d3, h1.trans d4, h2.trans d5, fun j hj => ?_, fun j hj => ?_, fun j i hj hi => ?_, d9, ?_⟩
  · obtain ⟨a, b, c, d⟩ := h3 (q * 40 + j) (by omega) (by omega)
    rw [a, b, c, d]; exact d6 j hj
  · obtain ⟨a, b, c⟩ := h4 (q * 40 + j) (by omega) (by omega)
    rw [a, b, c]; exact d7 j hj
  · have := cw_ar3 (yo j)
    rw [h5 _ (by omega) (by omega)]; exact d8 j i hj hi
  · rw [pk_un hqr]
    refine ci_rk (fun j v hj hj5 hjv hv hvk => ?_) d10
    by_cases z : v = r
    · subst z
      rcases hc with z | z | z
      · rw [pk_us]; exact z.symm
      · rw [z] at hvk; exact absurd hvk (by decide)
      · exact absurd ⟨hkq, j, nn, d5, d3, hj, (d7 j hj).1.trans hj5, (d7 j hj).2.1.trans hjv⟩ z
    · exact pk_un z
theorem cw_draft {rk rl ro ra rt rp rn op nm ay prt rl' ro' ra' rt' rp' op' nm' ay' prt' : Nat → Int32} (hU : gr_U rk rl ro ra rt rp rn op nm ay prt) (h1 : ∀ j, j < 6 → rl' j = rl j) (h3 : ∀ j, j < 240 → ro' j = ro j ∧ ra' j = ra j ∧ rt' j = rt j ∧ rp' j = rp j) (h4 : ∀ j, j < 240 → op' j = op j ∧ nm' j = nm j ∧ ay' j = ay j) (h5 : ∀ j, j < 720 → prt' j = prt j) : gr_U rk rl' ro' ra' rt' rp' rn op' nm' ay' prt' := by
  intro q hq
  rcases hU q hq with ⟨a, b⟩ | ⟨a, b⟩
  · exact Or.inl ⟨a, (h1 q hq).trans b⟩
  · have hkq : ¬ rk q = 0 := by rcases a with z | z <;> rw [z] <;> decide
    have e : rk = upd rk (q + 1) (rk (q + 1)) := by
      funext j
      by_cases z : j = q + 1
      · rw [z, pk_us]
      · rw [pk_un z]
    have := cw_keep (r := q + 1) (kind := rk (q + 1)) hq (by omega) hkq b (h1 q hq) rfl (fun j x y => h3 j (by omega)) (fun j x y => h4 j (by omega)) (fun j x y => h5 j (by omega)) (Or.inl rfl)
    rw [← e] at this
    exact Or.inr ⟨a, this⟩
theorem cw_CD {rk rl ro ra rt rp rn op nm ay prt : Nat → Int32} (hU : gr_U rk rl ro ra rt rp rn op nm ay prt) {q r : Nat} (hq : q < 6) (hr : r < 6) : cf_C rl ro ra q r ↔ cf_D rk rn op nm q r := by
  rcases hU q hq with ⟨a, b⟩ | ⟨a, b⟩
  · constructor
    · rintro ⟨c, len, c1, c2, c3, _⟩
      have : len = 0 := (nI_eq (b := 0) (by omega) (by decide)).1 (c1.symm.trans b)
      omega
    · rintro ⟨c, _⟩; exact absurd a c
  · obtain ⟨len, nn, f, xo, xa, xt, xp, yo, yn, ya, yp, d1, d2, d3, d4, d5, d6, d7, d8, d9, d10⟩ := b
    have hkq : ¬ rk q = 0 := by rcases a with z | z <;> rw [z] <;> decide
    constructor
    · rintro ⟨c, len', c1, c2, c3, c4, c5⟩
      have e : len' = len := (nI_eq (by omega) (by omega)).1 (c1.symm.trans d4)
      subst e
      obtain ⟨j, j1, j2, j3⟩ := (d9 r hr).1 ⟨c, c3, (d6 c c3).1.symm.trans c4, (d6 c c3).2.1.symm.trans c5⟩
      exact ⟨hkq, j, nn, d5, d3, j1, (d7 j j1).1.trans j2, (d7 j j1).2.1.trans j3⟩
    · rintro ⟨_, j, nn', n1, n2, n3, n4, n5⟩
      have e : nn' = nn := (nI_eq (by omega) (by omega)).1 (n1.symm.trans d5)
      subst e
      obtain ⟨c, c1, c2, c3⟩ := (d9 r hr).2 ⟨j, n3, (d7 j n3).1.symm.trans n4, (d7 j n3).2.1.symm.trans n5⟩
      exact ⟨c, len, d4, d2, c1, (d6 c c1).1.trans c2, (d6 c c1).2.1.trans c3⟩
theorem cw_upd2 (f : Nat → Int32) (r : Nat) (x : Int32) : upd (upd f r x) r (f r) = f := by
  funext j
  by_cases z : j = r
  · rw [z, pk_us]
  · rw [pk_un z, pk_un z]
theorem i_vc_compile {k : Nat} {u : SX} {v : SY} (I : i_Rel k u v) (hk : k + 4 ≤ 2048) (v1 : Int32) (v2 : Int32) : wpX_compile (fun r u' => wpY_compile (fun r' v' => r' = r ∧ i_Rel (k + 4) u' v') v v1 v2) u v1 v2 := by
  refine gr_el (P := fun u v => wpX_compile (fun r u' => wpY_compile (fun r' v' => r' = r ∧ i_Rel (k + 4) u' v') v v1 v2) u v1 v2) I ?_
  intro o n cp lc sc kc dp vc er ep uu nds sts sp lv ret out cls num lnk lsz lit fb tk tv rk rl ro ra rt rp oo co sk kd fr fn fi vs ll li lt prp opd rn op nm ay prt ylo yhi sN sP sX sK it vr hO hT hU
  have R : i_Rel (k + 4) (nI o, nI n, cp, lc, sc, kc, dp, vc, er, ep, uu, cls, num, lnk, lsz, lit, fb, tk, tv, rk, rl, ro, ra, rt, rp, oo, co, sk, kd, fr, fn, fi, vs, ll, li, lt) (nI o, nI n, cp, nds, sts, er, ep, uu, sp, lv, ret, out, cls, prp, lit, lsz, fb, tk, tv, opd, rk, rn, op, nm, ay, prt, ylo, yhi, sN, sP, sX, sK, it, vr) := gr_mk hO hT hU
  rcases pk_ix v1 (n := 6) (by omega) with h | h | ⟨r, hr, rfl⟩
  · exact br_t h (br_t h ⟨rfl, R⟩)
  · obtain ⟨j, hj, hj2, rfl⟩ := gr_ge (by omega) h
    exact br_f (nI_pos hj2) (br_t (nI_le (a := 6) hj hj2) (br_f (nI_pos hj2) (br_t (nI_lt (a := 5) hj hj2) ⟨rfl, R⟩)))
  have r0 : ¬ nI r < 0 := nI_pos (by omega)
  have r6 : ¬ 6 ≤ nI r := nI_ge (b := 6) hr (by decide)
  have r5 : ¬ 5 < nI r := nI_nlt (a := 5) (by omega) (by omega)
  by_cases hkd : v2 = 1 ∨ v2 = 2
  rotate_left 1
  · have k1 : ¬ v2 = 1 := fun z => hkd (Or.inl z)
    have k2 : ¬ v2 = 2 := fun z => hkd (Or.inr z)
    exact br_f r0 (br_f r6 (br_f k1 (br_f k2 (br_f r0 (br_f r5 (br_f k1 (br_f k2 ⟨rfl, R⟩)))))))
  have XL : ∀ post : Int32 → SX → Prop, wX_compile_22 post (nI r) v2 (nI o) (nI n) cp lc sc kc dp vc er ep uu cls num lnk lsz lit fb tk tv rk rl ro ra rt rp oo co sk kd fr fn fi vs ll li lt → wpX_compile post (nI o, nI n, cp, lc, sc, kc, dp, vc, er, ep, uu, cls, num, lnk, lsz, lit, fb, tk, tv, rk, rl, ro, ra, rt, rp, oo, co, sk, kd, fr, fn, fi, vs, ll, li, lt) (nI r) v2 := by
    intro post H
    rcases hkd with z | z
    · exact br_f r0 (br_f r6 (br_t z H))
    · exact br_f r0 (br_f r6 (br_f (by rw [z]; decide) (br_t z H)))
  have YL : ∀ post : Int32 → SY → Prop, wY_compile_21 post (nI r) v2 (nI o) (nI n) (cp) nds sts (er) (ep) (uu) sp lv ret out (cls) prp (lit) (lsz) (fb) (tk) (tv) opd (rk) rn op nm ay prt ylo yhi sN sP sX sK it vr → wpY_compile post (nI o, nI n, cp, nds, sts, er, ep, uu, sp, lv, ret, out, cls, prp, lit, lsz, fb, tk, tv, opd, rk, rn, op, nm, ay, prt, ylo, yhi, sN, sP, sX, sK, it, vr) (nI r) v2 := by
    intro post H
    rcases hkd with z | z
    · exact br_f r0 (br_f r5 (br_t z H))
    · exact br_f r0 (br_f r5 (br_f (by rw [z]; decide) (br_t z H)))
  refine XL _ ?_
  obtain ⟨hn, hTk⟩ := id hT
  obtain ⟨T, eT⟩ : ∃ T : Nat → Nat, T = fun i => (tk i).toNatClampNeg := ⟨_, rfl⟩
  have hK : ∀ i, i < n → tk i = nI (T i) ∧ T i < 23 := by
    intro i hi
    obtain ⟨t, t1, t2, _⟩ := hTk i hi
    rw [eT]
    dsimp only
    rw [t2, nI_clamp (by omega)]
    exact ⟨rfl, t1⟩
  have hTt : ∀ i, i < n → ∀ t, tk i = nI t → t < 23 → T i = t := by
    intro i hi t h1 h2
    rw [eT]
    dsimp only
    rw [h1, nI_clamp (by omega)]
  have hT23 : ∀ i, i < n → T i < 23 := fun i hi => (hK i hi).2
  have hTv : ∀ i, i < n → T i = 4 ∨ 20 ≤ T i → ∃ v, v < 3 ∧ tv i = nI v := by
    intro i hi h
    obtain ⟨t, t1, t2, t3, t4⟩ := hTk i hi
    rw [hTt i hi t t2 t1] at h
    exact t4 h
  have hT6 : ∀ i, i < n → T i = 1 ∨ T i = 2 ∨ T i = 5 → ∃ x, x < 6 ∧ tv i = nI x := by
    intro i hi h
    obtain ⟨t, t1, t2, t3, t4⟩ := hTk i hi
    rw [hTt i hi t t2 t1] at h
    exact t3 h
  clear hTt eT
  -- the grammar
  obtain ⟨s1, sc1, oo1, sk1, opd1, sX1, sY1, sR⟩ := ca_syn (oc := nI o) (cp := cp) (lc := lc) (kc := kc) (dp := dp) (vc := vc) (er := er) (ep := ep) (uu := uu) (cls := cls) (num := num) (lnk := lnk) (lsz := lsz) (lit := lit) (fb := fb) (rk := rk) (rl := rl) (ro := ro) (ra := ra) (rt := rt) (rp := rp) (co := co) (kd := kd) (fr := fr) (fn := fn) (fi := fi) (vs := vs) (ll := ll) (li := li) (lt := lt) (ob := nI o) (pl := cp) (nds := nds) (sts := sts) (res := er) (era := ep) (usd := uu) (sp := sp) (lv := lv) (ret := ret) (out := out) (ycls := cls) (prp := prp) (lst := lit) (siz := lsz) (dnd := fb) (yrk := rk) (rn := rn) (op := op) (nm := nm) (ay := ay) (prt := prt) (ylo := ylo) (yhi := yhi) (sN := sN) (sP := sP) (sX := sX) (sK := sK) (it := it) (vr := vr) (tk := tk) (tv := tv) (n := n) (T := T) hn hK sc oo sk opd
  refine sX1 _ ?_
  rcases sR with ⟨e1, hA, hoo0⟩ | ⟨j, hj, e1⟩
  rotate_left 1
  · subst e1
    exact br_f (gr_m1 (by omega)) (YL _ (sY1 _ (br_f (nI_pos (by omega)) ⟨rfl, gr_mk hO hT hU⟩)))
  subst e1
  refine br_t rfl ?_
  -- the bindings
  obtain ⟨s2, bX, bY, bR⟩ := cb_both (oc := nI o) (cp := -1) (lc := lc) (sc := sc1) (kc := kc) (dp := dp) (vc := vc) (er := er) (ep := ep) (uu := uu) (cls := cls) (num := num) (lnk := lnk) (lsz := lsz) (lit := lit) (fb := fb) (rk := rk) (rl := rl) (ro := ro) (ra := ra) (rt := rt) (rp := rp) (oo := oo1) (co := co) (sk := sk1) (kd := kd) (fr := fr) (fn := fn) (fi := fi) (vs := vs) (ll := ll) (li := li) (lt := lt) (ob := nI o) (pl := cp) (nds := nds) (sts := sts) (res := er) (era := ep) (usd := uu) (sp := sp) (lv := lv) (ret := ret) (out := out) (ycls := cls) (prp := prp) (lst := lit) (siz := lsz) (dnd := fb) (opd := opd1) (yrk := rk) (rn := rn) (op := op) (nm := nm) (ay := ay) (prt := prt) (ylo := ylo) (yhi := yhi) (sN := sN) (sP := sP) (sX := sX) (sK := sK) (it := it) (vr := vr) (tk := tk) (tv := tv) (n := n) (T := T) hn hK hA hTv hoo0
  refine bX _ ?_
  rcases bR with ⟨e2, hD⟩ | ⟨j, hj, e2⟩
  rotate_left 1
  · subst e2
    exact br_f (gr_m1 (by omega)) (YL _ (sY1 _ (br_t (by decide) (bY _ (br_f (nI_pos (by omega)) ⟨rfl, gr_mk hO hT hU⟩)))))
  subst e2
  refine br_t rfl ?_
  -- the rules that are called
  rcases cu_both (oc := nI o) (cp := -1) (lc := lc) (sc := sc1) (kc := kc) (dp := dp) (vc := vc) (er := er) (ep := ep) (uu := uu) (cls := cls) (num := num) (lnk := lnk) (lsz := lsz) (lit := lit) (fb := fb) (rk := rk) (rl := rl) (ro := ro) (ra := ra) (rt := rt) (rp := rp) (oo := oo1) (co := co) (sk := sk1) (kd := kd) (fr := fr) (fn := fn) (fi := fi) (vs := vs) (ll := ll) (li := li) (lt := lt) (ob := nI o) (pl := cp) (nds := nds) (sts := sts) (res := er) (era := ep) (usd := uu) (sp := sp) (lv := lv) (ret := ret) (out := out) (ycls := cls) (prp := prp) (lst := lit) (siz := lsz) (dnd := fb) (opd := opd1) (rn := rn) (op := op) (nm := nm) (ay := ay) (prt := prt) (ylo := ylo) (yhi := yhi) (sN := sN) (sP := sP) (sX := sX) (sK := sK) (it := it) (vr := vr) (tk := tk) (tv := tv) (n := n) (T := T) hn hK hT6 (nI r) v2 with ⟨hUk, uX, uY⟩ | ⟨j, hj, uX, uY⟩
  rotate_left 1
  · refine uX _ ?_
    exact br_f (gr_m1 (by omega)) (YL _ (sY1 _ (br_t (by decide) (bY _ (br_t (by decide) (uY _ ⟨rfl, gr_mk hO hT hU⟩))))))
  refine uX _ ?_
  refine br_t rfl ?_
  -- the nodes
  have hoo : ∀ j, j < n → T j = 7 ∨ T j = 9 → oo1 j = nI (ca_o T j) ∧ ca_o T j < j := by
    intro j hj h
    refine ⟨hoo0 j hj h, ?_⟩
    have rl9 := ca_rule hA hj
    have hd : ∃ e rr, ca_Z T j = e :: rr := by
      rcases rl9 with ⟨_, t, _⟩ | ⟨_, t, _⟩ | ⟨_, t, _⟩ | ⟨_, t, _⟩ | ⟨_, t, _⟩ | ⟨_, t, _⟩ | ⟨_, t, _⟩ | ⟨_, t, _, e, rr, z, _⟩ | ⟨_, t, _, e, rr, z, _⟩ | ⟨_, t, _, e, rr, z, _⟩ | ⟨_, t, _⟩
      all_goals first | exact ⟨e, rr, z⟩ | omega
    obtain ⟨e, rr, z⟩ := hd
    rw [cg_opn hA (by omega) z]
    obtain ⟨a1, a2, a3, a4, a5⟩ := ca_ent hA (i := j) (by omega) [] e rr z
    by_cases t9 : T e.1 = 9
    · have := (a5 t9).2.2; omega
    · have := (a4 t9).1; omega
  have hQ : ∀ j, j < n → T j = 7 → 20 ≤ T (ca_o T j) → cx_J T j (ca_o T j) := by
    intro j hj h7 h20
    rcases ca_rule hA hj with ⟨_, t, _⟩ | ⟨_, t, _⟩ | ⟨_, t, _⟩ | ⟨_, t, _⟩ | ⟨_, t, _⟩ | ⟨_, t, _⟩ | ⟨_, t, _⟩ | ⟨_, t, _⟩ | ⟨_, t, _⟩ | ⟨_, t, _, e, rr, z, t1, _⟩ | ⟨_, t, _⟩
    all_goals first | omega | skip
    obtain ⟨a1, a2, a3, a4, a5⟩ := ca_ent hA (i := j) (by omega) [] e rr z
    have eo := cg_opn hA (by omega : j ≤ n) z
    rw [eo] at h20 ⊢
    by_cases t9 : T e.1 = 9
    · exact ⟨e.1, a1, t9, cg_opn hA (by omega) (a5 t9).2.1⟩
    · have := (a4 t9).1
      rw [this] at h20; omega
  have hC : ∀ j, j < n → T j = 9 → T (ca_o T j) = 8 ∨ 20 ≤ T (ca_o T j) := by
    intro j hj h9
    rcases ca_rule hA hj with ⟨_, t, _⟩ | ⟨_, t, _⟩ | ⟨_, t, _⟩ | ⟨_, t, _⟩ | ⟨_, t, _⟩ | ⟨_, t, _⟩ | ⟨_, t, _⟩ | ⟨_, t, _, e, rr, z, t1, _⟩ | ⟨_, t, _, e, rr, z, t1, _⟩ | ⟨_, t, _⟩ | ⟨_, t, _⟩
    all_goals first | omega | skip
    · rw [cg_opn hA (by omega) z]
      have := ((ca_ent hA (i := j) (by omega) [] e rr z).2.2.2.1 (by omega)).1
      rw [this]; exact Or.inl t1
    · rw [cg_opn hA (by omega) z]
      have := ((ca_ent hA (i := j) (by omega) [] e rr z).2.2.2.1 (by omega)).1
      rw [this]; exact Or.inr t1
  obtain ⟨N, lN, hNN, bN, cN, op1, nm1, ay1, prt1, ylo1, yhi1, I1, E1, E2, HL⟩ := cl_loop (ob := nI o) (pl := cp) (sts := sts) (res := er) (era := ep) (usd := uu) (sp := sp) (lv := lv) (ret := ret) (out := out) (ycls := cls) (prp := prp) (lst := lit) (siz := lsz) (dnd := fb) (opd := opd1) (yrk := rk) (rn := rn) (sN := sN) (sP := sP) (sX := sX) (sK := sK) (it := it) (vr := vr) (tk := tk) (tv := tv) (n := n) (T := T) hn hK hA n (cl_start (op := op) (nm := nm) (ay := ay) (prt := prt) (ylo := upd ylo 240 0) (yhi := upd yhi 240 (nI n)) hA pk_us pk_us) (by omega)
  obtain ⟨hNn, hN0, hY, hY5, hop, hay, hroot⟩ := cl_facts hn hT23 hT6 I1
  have hN40 : N ≤ 40 := by omega
  -- the tree
  have hP : ∀ k i, k < N → i < gr_ar (op1 (240 + k)) → k < bN k + i ∧ bN k + i < N := fun k i a b => (hY k i a b).2
  have hP40 : ∀ k i, k < N → i < gr_ar ((fun j => op1 (240 + j)) k) → k < (fun j i => bN j + i) k i ∧ (fun j i => bN j + i) k i < 40 := fun k i a b => ⟨(hP k i a b).1, by have := (hP k i a b).2; show bN k + i < 40; omega⟩
  obtain ⟨p0, ch0, f0, L0, _⟩ := I1.2.2.2.2.2.2.1 0 hN0
  obtain ⟨w, hw1, hG⟩ := cg_all hA hn hT23 hTv hT6 hD I1 n 0 0 n f0 p0 ch0 hN0 (by omega) (by
    have a := I1.2.2.2.1
    have b := I1.2.2.2.2.1
    rw [a, b] at L0; exact L0) (by
    obtain ⟨p', ch', f', q1, q2, q3⟩ := I1.2.2.2.2.2.2.1 0 hN0
    sorry) (by sorry) 1 cg_LB1
  sorry
