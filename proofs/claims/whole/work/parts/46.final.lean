theorem cw_ar3 (t : Int32) : gr_ar t ≤ 3 := by
  unfold gr_ar; repeat' split
  all_goals omega
theorem cw_keep {q r : Nat} {kind : Int32} {rk rl ro ra rt rp rn op nm ay prt rl' ro' ra' rt' rp' rn' op' nm' ay' prt' : Nat → Int32} (hq : q < 6) (hqr : q ≠ r) (hkq : ¬ rk q = 0) (hQ : gr_Q q rk rl ro ra rt rp rn op nm ay prt) (h1 : rl' q = rl q) (h2 : rn' q = rn q) (h3 : ∀ j, q * 40 ≤ j → j < q * 40 + 40 → ro' j = ro j ∧ ra' j = ra j ∧ rt' j = rt j ∧ rp' j = rp j) (h4 : ∀ j, q * 40 ≤ j → j < q * 40 + 40 → op' j = op j ∧ nm' j = nm j ∧ ay' j = ay j) (h5 : ∀ j, q * 40 * 3 ≤ j → j < (q * 40 + 40) * 3 → prt' j = prt j) (hc : rk r = kind ∨ rk r = 0 ∨ ¬ cf_D rk rn op nm q r) : gr_Q q (upd rk r kind) rl' ro' ra' rt' rp' rn' op' nm' ay' prt' := by
  obtain ⟨len, nn, f, xo, xa, xt, xp, yo, yn, ya, yp, d1, d2, d3, d4, d5, d6, d7, d8, d9, d10⟩ := hQ
  refine ⟨len, nn, f, xo, xa, xt, xp, yo, yn, ya, yp, d1, d2, d3, h1.trans d4, h2.trans d5, fun j hj => ?_, fun j hj => ?_, fun j i hj hi => ?_, d9, ?_⟩
  · obtain ⟨a, b, c, d⟩ := h3 (q * 40 + j) (by omega) (by omega)
    rw [a, b, c, d]; exact d6 j hj
  · obtain ⟨a, b, c⟩ := h4 (q * 40 + j) (by omega) (by omega)
    rw [a, b, c]; exact d7 j hj
  · have := cw_ar3 (yo j)
    rw [h5 _ (by omega) (by omega)]; exact d8 j i hj hi
  · rw [pk_un hqr]
    refine ci_rk (fun j v hj hj5 hjv hv hvk => ?_) d10
    by_cases z : v = r
    · subst z
      rcases hc with z | z | z
      · rw [pk_us]; exact z.symm
      · rw [z] at hvk; exact absurd hvk (by decide)
      · exact absurd ⟨hkq, j, nn, d5, d3, hj, (d7 j hj).1.trans hj5, (d7 j hj).2.1.trans hjv⟩ z
    · exact pk_un z
theorem cw_draft {rk rl ro ra rt rp rn op nm ay prt rl' ro' ra' rt' rp' op' nm' ay' prt' : Nat → Int32} (hU : gr_U rk rl ro ra rt rp rn op nm ay prt) (h1 : ∀ j, j < 6 → rl' j = rl j) (h3 : ∀ j, j < 240 → ro' j = ro j ∧ ra' j = ra j ∧ rt' j = rt j ∧ rp' j = rp j) (h4 : ∀ j, j < 240 → op' j = op j ∧ nm' j = nm j ∧ ay' j = ay j) (h5 : ∀ j, j < 720 → prt' j = prt j) : gr_U rk rl' ro' ra' rt' rp' rn op' nm' ay' prt' := by
  intro q hq
  rcases hU q hq with ⟨a, b⟩ | ⟨a, b⟩
  · exact Or.inl ⟨a, (h1 q hq).trans b⟩
  · have hkq : ¬ rk q = 0 := by rcases a with z | z <;> rw [z] <;> decide
    have e : rk = upd rk (q + 1) (rk (q + 1)) := by
      funext j
      by_cases z : j = q + 1
      · rw [z, pk_us]
      · rw [pk_un z]
    have := cw_keep (r := q + 1) (kind := rk (q + 1)) hq (by omega) hkq b (h1 q hq) rfl (fun j x y => h3 j (by omega)) (fun j x y => h4 j (by omega)) (fun j x y => h5 j (by omega)) (Or.inl rfl)
    rw [← e] at this
    exact Or.inr ⟨a, this⟩
theorem cw_CD {rk rl ro ra rt rp rn op nm ay prt : Nat → Int32} (hU : gr_U rk rl ro ra rt rp rn op nm ay prt) {q r : Nat} (hq : q < 6) (hr : r < 6) : cf_C rl ro ra q r ↔ cf_D rk rn op nm q r := by
  rcases hU q hq with ⟨a, b⟩ | ⟨a, b⟩
  · constructor
    · rintro ⟨c, len, c1, c2, c3, _⟩
      have : len = 0 := (nI_eq (b := 0) (by omega) (by decide)).1 (c1.symm.trans b)
      omega
    · rintro ⟨c, _⟩; exact absurd a c
  · obtain ⟨len, nn, f, xo, xa, xt, xp, yo, yn, ya, yp, d1, d2, d3, d4, d5, d6, d7, d8, d9, d10⟩ := b
    have hkq : ¬ rk q = 0 := by rcases a with z | z <;> rw [z] <;> decide
    constructor
    · rintro ⟨c, len', c1, c2, c3, c4, c5⟩
      have e : len' = len := (nI_eq (by omega) (by omega)).1 (c1.symm.trans d4)
      subst e
      obtain ⟨j, j1, j2, j3⟩ := (d9 r hr).1 ⟨c, c3, (d6 c c3).1.symm.trans c4, (d6 c c3).2.1.symm.trans c5⟩
      exact ⟨hkq, j, nn, d5, d3, j1, (d7 j j1).1.trans j2, (d7 j j1).2.1.trans j3⟩
    · rintro ⟨_, j, nn', n1, n2, n3, n4, n5⟩
      have e : nn' = nn := (nI_eq (by omega) (by omega)).1 (n1.symm.trans d5)
      subst e
      obtain ⟨c, c1, c2, c3⟩ := (d9 r hr).2 ⟨j, n3, (d7 j n3).1.symm.trans n4, (d7 j n3).2.1.symm.trans n5⟩
      exact ⟨c, len, d4, d2, c1, (d6 c c1).1.trans c2, (d6 c c1).2.1.trans c3⟩
theorem cw_pu {T : Nat → Nat} {yo yn ya yc rk : Nat → Int32} {yp : Nat → Nat → Nat} {k q L : Nat} : cm_se T q [] (cm_pu yo yn ya yc rk yp k [] [] L) = some ([], ([cn_k yo yn rk yp k], cn_c yo yn ya yc yp k 0, min L (cn_b yo yn ya rk yp k))) := by
  unfold cm_pu
  rw [List.nil_append, List.length_nil]
  unfold cm_se
  rfl
theorem cw_upd2 (f : Nat → Int32) (r : Nat) (x : Int32) : upd (upd f r x) r (f r) = f := by
  funext j
  by_cases z : j = r
  · rw [z, pk_us]
  · rw [pk_un z, pk_un z]
theorem i_vc_compile {k : Nat} {u : SX} {v : SY} (I : i_Rel k u v) (hk : k + 4 ≤ 2048) (v1 : Int32) (v2 : Int32) : wpX_compile (fun r u' => wpY_compile (fun r' v' => r' = r ∧ i_Rel (k + 4) u' v') v v1 v2) u v1 v2 := by
  refine gr_el (P := fun u v => wpX_compile (fun r u' => wpY_compile (fun r' v' => r' = r ∧ i_Rel (k + 4) u' v') v v1 v2) u v1 v2) I ?_
  intro o n cp lc sc kc dp vc er ep uu nds sts sp lv ret out cls num lnk lsz lit fb tk tv rk rl ro ra rt rp oo co sk kd fr fn fi vs ll li lt prp opd rn op nm ay prt ylo yhi sN sP sX sK it vr hO hT hU
  have R : i_Rel (k + 4) (nI o, nI n, cp, lc, sc, kc, dp, vc, er, ep, uu, cls, num, lnk, lsz, lit, fb, tk, tv, rk, rl, ro, ra, rt, rp, oo, co, sk, kd, fr, fn, fi, vs, ll, li, lt) (nI o, nI n, cp, nds, sts, er, ep, uu, sp, lv, ret, out, cls, prp, lit, lsz, fb, tk, tv, opd, rk, rn, op, nm, ay, prt, ylo, yhi, sN, sP, sX, sK, it, vr) := gr_mk hO hT hU
  rcases pk_ix v1 (n := 6) (by omega) with h | h | ⟨r, hr, rfl⟩
  · exact br_t h (br_t h ⟨rfl, R⟩)
  · obtain ⟨j, hj, hj2, rfl⟩ := gr_ge (by omega) h
    exact br_f (nI_pos hj2) (br_t (nI_le (a := 6) hj hj2) (br_f (nI_pos hj2) (br_t (nI_lt (a := 5) hj hj2) ⟨rfl, R⟩)))
  have r0 : ¬ nI r < 0 := nI_pos (by omega)
  have r6 : ¬ 6 ≤ nI r := nI_ge (b := 6) hr (by decide)
  have r5 : ¬ 5 < nI r := nI_nlt (a := 5) (by omega) (by omega)
  by_cases hkd : v2 = 1 ∨ v2 = 2
  rotate_left 1
  · have k1 : ¬ v2 = 1 := fun z => hkd (Or.inl z)
    have k2 : ¬ v2 = 2 := fun z => hkd (Or.inr z)
    exact br_f r0 (br_f r6 (br_f k1 (br_f k2 (br_f r0 (br_f r5 (br_f k1 (br_f k2 ⟨rfl, R⟩)))))))
  have XL : ∀ post : Int32 → SX → Prop, wX_compile_22 post (nI r) v2 (nI o) (nI n) cp lc sc kc dp vc er ep uu cls num lnk lsz lit fb tk tv rk rl ro ra rt rp oo co sk kd fr fn fi vs ll li lt → wpX_compile post (nI o, nI n, cp, lc, sc, kc, dp, vc, er, ep, uu, cls, num, lnk, lsz, lit, fb, tk, tv, rk, rl, ro, ra, rt, rp, oo, co, sk, kd, fr, fn, fi, vs, ll, li, lt) (nI r) v2 := by
    intro post H
    rcases hkd with z | z
    · exact br_f r0 (br_f r6 (br_t z H))
    · exact br_f r0 (br_f r6 (br_f (by rw [z]; decide) (br_t z H)))
  have YL : ∀ post : Int32 → SY → Prop, wY_compile_21 post (nI r) v2 (nI o) (nI n) (cp) nds sts (er) (ep) (uu) sp lv ret out (cls) prp (lit) (lsz) (fb) (tk) (tv) opd (rk) rn op nm ay prt ylo yhi sN sP sX sK it vr → wpY_compile post (nI o, nI n, cp, nds, sts, er, ep, uu, sp, lv, ret, out, cls, prp, lit, lsz, fb, tk, tv, opd, rk, rn, op, nm, ay, prt, ylo, yhi, sN, sP, sX, sK, it, vr) (nI r) v2 := by
    intro post H
    rcases hkd with z | z
    · exact br_f r0 (br_f r5 (br_t z H))
    · exact br_f r0 (br_f r5 (br_f (by rw [z]; decide) (br_t z H)))
  refine XL _ ?_
  obtain ⟨hn, hTk⟩ := id hT
  obtain ⟨T, eT⟩ : ∃ T : Nat → Nat, T = fun i => (tk i).toNatClampNeg := ⟨_, rfl⟩
  have hK : ∀ i, i < n → tk i = nI (T i) ∧ T i < 23 := by
    intro i hi
    obtain ⟨t, t1, t2, _⟩ := hTk i hi
    rw [eT]
    dsimp only
    rw [t2, nI_clamp (by omega)]
    exact ⟨rfl, t1⟩
  have hTt : ∀ i, i < n → ∀ t, tk i = nI t → t < 23 → T i = t := by
    intro i hi t h1 h2
    rw [eT]
    dsimp only
    rw [h1, nI_clamp (by omega)]
  have hT23 : ∀ i, i < n → T i < 23 := fun i hi => (hK i hi).2
  have hTv : ∀ i, i < n → T i = 4 ∨ 20 ≤ T i → ∃ v, v < 3 ∧ tv i = nI v := by
    intro i hi h
    obtain ⟨t, t1, t2, t3, t4⟩ := hTk i hi
    rw [hTt i hi t t2 t1] at h
    exact t4 h
  have hT6 : ∀ i, i < n → T i = 1 ∨ T i = 2 ∨ T i = 5 → ∃ x, x < 6 ∧ tv i = nI x := by
    intro i hi h
    obtain ⟨t, t1, t2, t3, t4⟩ := hTk i hi
    rw [hTt i hi t t2 t1] at h
    exact t3 h
  clear hTt eT
  -- the grammar
  obtain ⟨s1, sc1, oo1, sk1, opd1, sX1, sY1, sR⟩ := ca_syn (oc := nI o) (cp := cp) (lc := lc) (kc := kc) (dp := dp) (vc := vc) (er := er) (ep := ep) (uu := uu) (cls := cls) (num := num) (lnk := lnk) (lsz := lsz) (lit := lit) (fb := fb) (rk := rk) (rl := rl) (ro := ro) (ra := ra) (rt := rt) (rp := rp) (co := co) (kd := kd) (fr := fr) (fn := fn) (fi := fi) (vs := vs) (ll := ll) (li := li) (lt := lt) (ob := nI o) (pl := cp) (nds := nds) (sts := sts) (res := er) (era := ep) (usd := uu) (sp := sp) (lv := lv) (ret := ret) (out := out) (ycls := cls) (prp := prp) (lst := lit) (siz := lsz) (dnd := fb) (yrk := rk) (rn := rn) (op := op) (nm := nm) (ay := ay) (prt := prt) (ylo := ylo) (yhi := yhi) (sN := sN) (sP := sP) (sX := sX) (sK := sK) (it := it) (vr := vr) (tk := tk) (tv := tv) (n := n) (T := T) hn hK sc oo sk opd
  refine sX1 _ ?_
  rcases sR with ⟨e1, hA, hoo0⟩ | ⟨j, hj, e1⟩
  rotate_left 1
  · subst e1
    exact br_f (gr_m1 (by omega)) (YL _ (sY1 _ (br_f (nI_pos (by omega)) ⟨rfl, gr_mk hO hT hU⟩)))
  subst e1
  refine br_t rfl ?_
  -- the bindings
  obtain ⟨s2, bX, bY, bR⟩ := cb_both (oc := nI o) (cp := -1) (lc := lc) (sc := sc1) (kc := kc) (dp := dp) (vc := vc) (er := er) (ep := ep) (uu := uu) (cls := cls) (num := num) (lnk := lnk) (lsz := lsz) (lit := lit) (fb := fb) (rk := rk) (rl := rl) (ro := ro) (ra := ra) (rt := rt) (rp := rp) (oo := oo1) (co := co) (sk := sk1) (kd := kd) (fr := fr) (fn := fn) (fi := fi) (vs := vs) (ll := ll) (li := li) (lt := lt) (ob := nI o) (pl := cp) (nds := nds) (sts := sts) (res := er) (era := ep) (usd := uu) (sp := sp) (lv := lv) (ret := ret) (out := out) (ycls := cls) (prp := prp) (lst := lit) (siz := lsz) (dnd := fb) (opd := opd1) (yrk := rk) (rn := rn) (op := op) (nm := nm) (ay := ay) (prt := prt) (ylo := ylo) (yhi := yhi) (sN := sN) (sP := sP) (sX := sX) (sK := sK) (it := it) (vr := vr) (tk := tk) (tv := tv) (n := n) (T := T) hn hK hA hTv hoo0
  refine bX _ ?_
  rcases bR with ⟨e2, hD⟩ | ⟨j, hj, e2⟩
  rotate_left 1
  · subst e2
    exact br_f (gr_m1 (by omega)) (YL _ (sY1 _ (br_t (by decide) (bY _ (br_f (nI_pos (by omega)) ⟨rfl, gr_mk hO hT hU⟩)))))
  subst e2
  refine br_t rfl ?_
  -- the rules that are called
  rcases cu_both (oc := nI o) (cp := -1) (lc := lc) (sc := sc1) (kc := kc) (dp := dp) (vc := vc) (er := er) (ep := ep) (uu := uu) (cls := cls) (num := num) (lnk := lnk) (lsz := lsz) (lit := lit) (fb := fb) (rk := rk) (rl := rl) (ro := ro) (ra := ra) (rt := rt) (rp := rp) (oo := oo1) (co := co) (sk := sk1) (kd := kd) (fr := fr) (fn := fn) (fi := fi) (vs := vs) (ll := ll) (li := li) (lt := lt) (ob := nI o) (pl := cp) (nds := nds) (sts := sts) (res := er) (era := ep) (usd := uu) (sp := sp) (lv := lv) (ret := ret) (out := out) (ycls := cls) (prp := prp) (lst := lit) (siz := lsz) (dnd := fb) (opd := opd1) (rn := rn) (op := op) (nm := nm) (ay := ay) (prt := prt) (ylo := ylo) (yhi := yhi) (sN := sN) (sP := sP) (sX := sX) (sK := sK) (it := it) (vr := vr) (tk := tk) (tv := tv) (n := n) (T := T) hn hK hT6 (nI r) v2 with ⟨hUk, uX, uY⟩ | ⟨j, hj, uX, uY⟩
  rotate_left 1
  · refine uX _ ?_
    exact br_f (gr_m1 (by omega)) (YL _ (sY1 _ (br_t (by decide) (bY _ (br_t (by decide) (uY _ ⟨rfl, gr_mk hO hT hU⟩))))))
  refine uX _ ?_
  refine br_t rfl ?_
  -- the nodes
  have hoo : ∀ j, j < n → T j = 7 ∨ T j = 9 → oo1 j = nI (ca_o T j) ∧ ca_o T j < j := by
    intro j hj h
    refine ⟨hoo0 j hj h, ?_⟩
    have rl9 := ca_rule hA hj
    have hd : ∃ e rr, ca_Z T j = e :: rr := by
      rcases rl9 with ⟨_, t, _⟩ | ⟨_, t, _⟩ | ⟨_, t, _⟩ | ⟨_, t, _⟩ | ⟨_, t, _⟩ | ⟨_, t, _⟩ | ⟨_, t, _⟩ | ⟨_, t, _, e, rr, z, _⟩ | ⟨_, t, _, e, rr, z, _⟩ | ⟨_, t, _, e, rr, z, _⟩ | ⟨_, t, _⟩
      all_goals first | exact ⟨e, rr, z⟩ | omega
    obtain ⟨e, rr, z⟩ := hd
    rw [cg_opn hA (by omega) z]
    obtain ⟨a1, a2, a3, a4, a5⟩ := ca_ent hA (i := j) (by omega) [] e rr z
    by_cases t9 : T e.1 = 9
    · have := (a5 t9).2.2; omega
    · have := (a4 t9).1; omega
  have hQ : ∀ j, j < n → T j = 7 → 20 ≤ T (ca_o T j) → cx_J T j (ca_o T j) := by
    intro j hj h7 h20
    rcases ca_rule hA hj with ⟨_, t, _⟩ | ⟨_, t, _⟩ | ⟨_, t, _⟩ | ⟨_, t, _⟩ | ⟨_, t, _⟩ | ⟨_, t, _⟩ | ⟨_, t, _⟩ | ⟨_, t, _⟩ | ⟨_, t, _⟩ | ⟨_, t, _, e, rr, z, t1, _⟩ | ⟨_, t, _⟩
    all_goals first | omega | skip
    obtain ⟨a1, a2, a3, a4, a5⟩ := ca_ent hA (i := j) (by omega) [] e rr z
    have eo := cg_opn hA (by omega : j ≤ n) z
    rw [eo] at h20 ⊢
    by_cases t9 : T e.1 = 9
    · exact ⟨e.1, a1, t9, (cg_opn (e := (e.2, e.2)) hA (by omega) (a5 t9).2.1)⟩
    · have := (a4 t9).1
      rw [this] at h20; omega
  have hC : ∀ j, j < n → T j = 9 → T (ca_o T j) = 8 ∨ 20 ≤ T (ca_o T j) := by
    intro j hj h9
    rcases ca_rule hA hj with ⟨_, t, _⟩ | ⟨_, t, _⟩ | ⟨_, t, _⟩ | ⟨_, t, _⟩ | ⟨_, t, _⟩ | ⟨_, t, _⟩ | ⟨_, t, _⟩ | ⟨_, t, _, e, rr, z, t1, _⟩ | ⟨_, t, _, e, rr, z, t1, _⟩ | ⟨_, t, _⟩ | ⟨_, t, _⟩
    all_goals first | omega | skip
    · rw [cg_opn hA (by omega) z]
      have := ((ca_ent hA (i := j) (by omega) [] e rr z).2.2.2.1 (by omega)).1
      rw [this]; exact Or.inl t1
    · rw [cg_opn hA (by omega) z]
      have := ((ca_ent hA (i := j) (by omega) [] e rr z).2.2.2.1 (by omega)).1
      rw [this]; exact Or.inr t1
  obtain ⟨N, lN, hNN, bN, cN, op1, nm1, ay1, prt1, ylo1, yhi1, I1, E1, E2, HL⟩ := cl_loop (ob := nI o) (pl := cp) (sts := sts) (res := er) (era := ep) (usd := uu) (sp := sp) (lv := lv) (ret := ret) (out := out) (ycls := cls) (prp := prp) (lst := lit) (siz := lsz) (dnd := fb) (opd := opd1) (yrk := rk) (rn := rn) (sN := sN) (sP := sP) (sX := sX) (sK := sK) (it := it) (vr := vr) (tk := tk) (tv := tv) (n := n) (T := T) hn hK hA n (cl_start (op := op) (nm := nm) (ay := ay) (prt := prt) (ylo := upd ylo 240 0) (yhi := upd yhi 240 (nI n)) hA pk_us pk_us) (by omega)
  obtain ⟨hNn, hN0, hY, hY5, hop, hay, hroot⟩ := cl_facts hn hT23 hT6 I1
  have hN40 : N ≤ 40 := by omega
  -- the tree
  have hP : ∀ k i, k < N → i < gr_ar (op1 (240 + k)) → k < bN k + i ∧ bN k + i < N := fun k i a b => (hY k i a b).2
  have hP40 : ∀ k i, k < N → i < gr_ar ((fun j => op1 (240 + j)) k) → k < (fun j i => bN j + i) k i ∧ (fun j i => bN j + i) k i < 40 := fun k i a b => ⟨(hP k i a b).1, by have := (hP k i a b).2; show bN k + i < 40; omega⟩
  obtain ⟨p0, ch0, f0, L0, ea0, b0a, b0b, b0c, b0d⟩ := I1.2.2.2.2.2.2.1 0 hN0
  rw [I1.2.2.2.1, I1.2.2.2.2.1] at L0
  obtain ⟨w, hw1, hG⟩ := cg_all hA hn hT23 hTv hT6 hD I1 n 0 0 n f0 p0 ch0 hN0 (by omega) L0 ea0 (fun i c hc => ⟨by
    obtain ⟨z, _⟩ := List.getElem?_eq_some_iff.1 hc
    omega, (b0d i c hc).2⟩) 1 cg_LB1
  have eB : cg_B T tv 0 = fun _ => False := by
    funext x
    apply propext
    constructor
    · rintro ⟨_, e, he, _⟩
      rw [ca_Z0] at he
      exact absurd he List.not_mem_nil
    · intro z; exact absurd z id
  rw [eB] at hG
  -- the pass over the tokens
  obtain ⟨st, hrun, hse, _⟩ := cm_main (rk := upd rk r v2) hP40 n _ 0 w 0 n hG (by omega) [] [] [] (n + 1) (by omega) (fun e r h => by cases h)
  have hse1 := (hse 1 hw1).trans cw_pu
  rw [Nat.sub_zero] at hrun
  have hcl := ci_len (n := n) hP40 n _ 0 w 0 n hG 0
  have hs : ∀ j, j < N → cn_s (fun j => op1 (240 + j)) (fun j => nm1 (240 + j)) (fun j => ay1 (240 + j)) (upd rk r v2) (fun j i => bN j + i) j = 100 ∨ cn_s (fun j => op1 (240 + j)) (fun j => nm1 (240 + j)) (fun j => ay1 (240 + j)) (upd rk r v2) (fun j i => bN j + i) j < n := by
    intro j hj
    unfold cn_s
    split
    · exact Or.inl rfl
    · obtain ⟨p, hp, e⟩ := hay j hj
      refine Or.inr ?_
      show (ay1 (240 + j)).toNatClampNeg < n
      rw [e, nI_clamp (by omega)]; exact hp
  have hb := cz_b (yrk := upd rk r v2) (ay := ay1) (yp := (fun j i => bN j + i)) hN40 hY hY5 (fun j hj => by rcases hs j hj with z | z <;> omega) hroot hN0
  have hms := cz_ms_or N hs
  rw [hb] at hse1
  have hEn : ∃ (K : Int32) (code : List cm_I) (mb : Nat), K = cn_k (fun j => op1 (240 + j)) (fun j => nm1 (240 + j)) (upd rk r v2) (fun j i => bN j + i) 0 ∧ code = cn_c (fun j => op1 (240 + j)) (fun j => nm1 (240 + j)) (fun j => ay1 (240 + j)) (fun j => nI (hNN (bN j + 1))) (fun j i => bN j + i) 0 0 ∧ mb = cz_ms (cn_s (fun j => op1 (240 + j)) (fun j => nm1 (240 + j)) (fun j => ay1 (240 + j)) (upd rk r v2) (fun j i => bN j + i)) N := ⟨_, _, _, rfl, rfl, rfl⟩
  obtain ⟨K, code, mb, eK, ecode, emb⟩ := hEn
  rw [← eK, ← ecode, ← emb] at hse1
  rw [← ecode] at hcl
  rw [← emb] at hms hb
  have hE : ∀ c mb : Nat, (c = 100 ∨ c = n) → (mb = 100 ∨ mb < n) → (if min (min (n + 1) mb) c ≤ n then nI (min (min (n + 1) mb) c) else (-1 : Int32)) = cz_enc (min c mb) := by
    intro c mb h1 h2
    unfold cz_enc
    by_cases z : min c mb < 100
    · rw [if_pos z, if_pos (by omega), show min (min (n + 1) mb) c = min c mb by omega]
    · rw [if_neg z, if_neg (by omega)]
  have hc0 : (if K = v2 then 100 else n) = 100 ∨ (if K = v2 then 100 else n) = n := by
    split
    · exact Or.inl rfl
    · exact Or.inr rfl
  have cr : (nI r).toNatClampNeg = r := nI_clamp (by omega)
  have ir : vp_in (nI r) 6 := vp_in_nI hr (by decide)
  have ir7 : vp_in (nI r) 7 := vp_in_nI (by omega) (by decide)
  -- the reference
  have YS : ∀ post : Int32 → SY → Prop, (∀ m, wY_compile_134 post (nI r) v2 (m + 1) (nI (240 + N)) (nI o) (nI n) (cp) (nI (240 + N)) sts (er) (ep) (uu) sp lv ret out (cls) prp (lit) (lsz) (fb) (tk) (tv) (opd1) (rk) rn (op1) (nm1) (ay1) (prt1) (ylo1) (yhi1) sN sP sX sK it vr) → wpY_compile post (nI o, nI n, cp, nds, sts, er, ep, uu, sp, lv, ret, out, cls, prp, lit, lsz, fb, tk, tv, opd, rk, rn, op, nm, ay, prt, ylo, yhi, sN, sP, sX, sK, it, vr) (nI r) v2 := by
    intro post H
    refine YL _ (sY1 _ (br_t (by decide) (bY _ (br_t (by decide) (uY _ ?_)))))
    refine br_t (nI_le (Nat.le_refl n) (by omega)) ?_
    refine cs_add (nd := 240) (by omega) ?_
    exact HL post (nI r) v2 H
  have YE : ∀ post : Int32 → SY → Prop, (∀ e, e = cz_enc (min (if K = v2 then 100 else n) mb) → ((e < 0 → (((rk r = 0 → wY_compile_222 post (nI r) v2 (nI o) (nI n) (cp) (nI (240 + N)) sts (er) (ep) (uu) sp lv ret out (cls) prp (lit) (lsz) (fb) (tk) (tv) (opd1) (rk) rn (op1) (nm1) (ay1) (prt1) (ylo1) (yhi1) sN sP sX sK it vr) ∧ (¬ rk r = 0 → (((rk r = v2 → wY_compile_222 post (nI r) v2 (nI o) (nI n) (cp) (nI (240 + N)) sts (er) (ep) (uu) sp lv ret out (cls) prp (lit) (lsz) (fb) (tk) (tv) (opd1) (rk) rn (op1) (nm1) (ay1) (prt1) (ylo1) (yhi1) sN sP sX sK it vr) ∧ (¬ rk r = v2 → wpY_calledByAnother (fun x => ((x = 0 → wY_compile_222 post (nI r) v2 (nI o) (nI n) (cp) (nI (240 + N)) sts (er) (ep) (uu) sp lv ret out (cls) prp (lit) (lsz) (fb) (tk) (tv) (opd1) (rk) rn (op1) (nm1) (ay1) (prt1) (ylo1) (yhi1) sN sP sX sK it vr) ∧ (¬ x = 0 → post 6 (nI o, nI n, 0, nI (240 + N), sts, er, ep, uu, sp, lv, ret, out, cls, prp, lit, lsz, fb, tk, tv, opd1, rk, rn, op1, nm1, ay1, prt1, ylo1, yhi1, sN, sP, sX, sK, it, vr)))) (nI o, nI n, cp, nI (240 + N), sts, er, ep, uu, sp, lv, ret, out, cls, prp, lit, lsz, fb, tk, tv, opd1, rk, rn, op1, nm1, ay1, prt1, ylo1, yhi1, sN, sP, sX, sK, it, vr) (nI r)))))))) ∧ (¬ e < 0 → post 5 (nI o, nI n, e, nI (240 + N), sts, er, ep, uu, sp, lv, ret, out, cls, prp, lit, lsz, fb, tk, tv, opd1, rk, rn, op1, nm1, ay1, prt1, ylo1, yhi1, sN, sP, sX, sK, it, vr)))) → wpY_compile post (nI o, nI n, cp, nds, sts, er, ep, uu, sp, lv, ret, out, cls, prp, lit, lsz, fb, tk, tv, opd, rk, rn, op, nm, ay, prt, ylo, yhi, sN, sP, sX, sK, it, vr) (nI r) v2 := by
    intro post H
    refine YS post (fun m => br_t (nI_le (Nat.le_refl _) (by omega)) ⟨ir, ?_⟩)
    rw [cr]
    refine nm_r rfl ⟨ir, nm_r (e' := upd rk r v2) rfl (cz_clash (yrk := upd rk r v2) (N := N) hN40 hY hY5 (fun j hj => by
      obtain ⟨t, t1, t2, _⟩ := hop j hj
      exact ⟨t, t1, t2⟩) (fun j hj => by
      obtain ⟨t, t1, t2, t3, t4, t5⟩ := hop j hj
      rw [t2]
      exact ⟨fun y => t3 ((nI_eq (b := 6) (by omega) (by decide)).1 y), fun y => t4 ((nI_eq (b := 7) (by omega) (by decide)).1 y), fun y => t5 ((nI_eq (b := 9) (by omega) (by decide)).1 y)⟩) hay hn hN0 ?_)⟩
    rw [← eK, ← emb]
    exact ⟨ir, nm_r (e' := rk) (cw_upd2 rk r v2) (H _ rfl)⟩
  -- the Java side
  refine cx_clash hn hK hoo hQ hC (kf := fun o => upd rk r v2 (tv o).toNatClampNeg) (fun j hj h => hT6 j hj (Or.inr (Or.inr h))) (fun j hj h => by
    obtain ⟨x, hx, ex⟩ := hT6 j hj (Or.inr (Or.inr h))
    show upd rk r v2 (tv j).toNatClampNeg = _
    rw [ex, nI_clamp (by omega)]
    by_cases z : x = r
    · rw [z, pk_us, if_pos rfl]
    · rw [pk_un z, if_neg (fun y => z ((nI_eq (by omega) (by omega)).1 y))]) hrun hse1 (by
      have := hcl.1
      omega) ?_
  intro lc' sc' kc' rl' ro' ra' rt' rp' co' sk' kd' g1 g2 g3 g4
  rw [hE _ _ hc0 hms]
  have U' := cw_draft (op' := op1) (nm' := nm1) (ay' := ay1) (prt' := prt1) hU g3 g4 (fun j hj => E1 j (Or.inr hj)) (fun j hj => E2 j (Or.inr hj))
  by_cases hm : min (if K = v2 then 100 else n) mb < 100
  · -- a clash
    have ee : cz_enc (min (if K = v2 then 100 else n) mb) = nI (min (if K = v2 then 100 else n) mb) := if_pos hm
    rw [ee]
    refine br_f (gr_m1 (by omega)) (YE _ (fun e he => ?_))
    rw [ee] at he
    subst he
    exact br_f (nI_pos (by omega)) ⟨rfl, gr_mk hO hT U'⟩
  have ee : cz_enc (min (if K = v2 then 100 else n) mb) = -1 := if_neg hm
  have hK2 : K = v2 := by
    by_cases z : K = v2
    · exact z
    · rw [if_neg z] at hm; omega
  have hmb : mb = 100 := by
    rcases hms with z | z
    · exact z
    · omega
  have he' : ∀ e, e = cz_enc (min (if K = v2 then 100 else n) mb) → e < 0 := by
    intro e he
    rw [he, ee]; decide
  have h5 : ∀ l x, l < n → T l = 5 → tv l = nI x → x < 6 → upd rk r v2 x = 1 ∨ upd rk r v2 x = 2 := by
    intro l x hl t5 ex hx
    by_cases z : x = r
    · rw [z, pk_us]; exact hkd
    · rw [pk_un z]
      rcases hUk l hl t5 with y | y
      · rw [ex] at y; exact absurd ((nI_eq (by omega) (by omega)).1 y) z
      · rw [ex, nI_clamp (by omega)] at y
        rcases hU x hx with ⟨a, _⟩ | ⟨a, _⟩
        · exact absurd a y
        · exact a
  have hIm := ci_im (rk := upd rk r v2) (code := code) hn hP40 h5 n _ 0 w 0 n hG (Nat.le_refl n) (by rw [hb]; omega) 0 (by rw [← ecode]; exact fun j x h => by rw [Nat.zero_add]; exact h) (by rw [← ecode]; omega)
  rw [← ecode, Nat.zero_add, ← eK, hK2] at hIm
  have hCa : ∀ v, (∃ c, c < code.length ∧ (ci_x code c).1 = 5 ∧ (ci_x code c).2.1 = nI v) ↔ ∃ j, j < N ∧ op1 (240 + j) = 5 ∧ nm1 (240 + j) = nI v := by
    intro v
    rw [ecode]
    exact cq_calls (yo := (fun j => op1 (240 + j))) (yn := (fun j => nm1 (240 + j))) (ya := (fun j => ay1 (240 + j))) (yc := (fun j => nI (hNN (bN j + 1)))) (yp := (fun j i => bN j + i)) hN40 hop hP hroot hN0 v
  have AD : (rk r = v2 ∨ rk r = 0 ∨ ∀ q, q < 6 → q ≠ r → ¬ cf_D rk rn op1 nm1 q r) → (∀ post : Int32 → SY → Prop, wY_compile_222 post (nI r) v2 (nI o) (nI n) (cp) (nI (240 + N)) sts (er) (ep) (uu) sp lv ret out (cls) prp (lit) (lsz) (fb) (tk) (tv) (opd1) (rk) rn (op1) (nm1) (ay1) (prt1) (ylo1) (yhi1) sN sP sX sK it vr → wpY_compile post (nI o, nI n, cp, nds, sts, er, ep, uu, sp, lv, ret, out, cls, prp, lit, lsz, fb, tk, tv, opd, rk, rn, op, nm, ay, prt, ylo, yhi, sN, sP, sX, sK, it, vr) (nI r) v2) → wX_compile_132 (fun r0 u' => wpY_compile (fun r' v' => r' = r0 ∧ i_Rel (k + 4) u' v') (nI o, nI n, cp, nds, sts, er, ep, uu, sp, lv, ret, out, cls, prp, lit, lsz, fb, tk, tv, opd, rk, rn, op, nm, ay, prt, ylo, yhi, sN, sP, sX, sK, it, vr) (nI r) v2) (nI r) v2 (nI o) (nI n) (-1) (lc') (sc') (kc') dp vc er ep uu cls num lnk lsz lit fb tk tv rk (rl') (ro') (ra') (rt') (rp') (oo1) (co') (sk') (kd') fr fn fi vs ll li lt := by
    intro hc hW
    refine cd_adopt hr g1 (by have := hcl.1; omega) ?_
    intro ro2 ra2 rt2 rp2 k1 k2
    refine hW _ ?_
    refine cd_ycopy hr hN40 ?_
    intro op2 nm2 ay2 prt2 l1 l2 l3 l4
    refine ⟨rfl, gr_mk (n := 0) hO ⟨by omega, fun i h => absurd h (by omega)⟩ ?_⟩
    intro q hq
    by_cases z : q = r
    · rw [z]
      refine Or.inr ⟨by rw [pk_us]; exact hkd, ?_⟩
      refine ⟨code.length, N, n, fun j => (ci_x code j).1, fun j => (ci_x code j).2.1, fun j => (ci_x code j).2.2.1, fun j => (ci_x code j).2.2.2, (fun j => op1 (240 + j)), (fun j => nm1 (240 + j)), (fun j => ay1 (240 + j)), (fun j i => bN j + i), hcl.2, by have := hcl.1; omega, hN40, pk_us, pk_us, fun j hj => ?_, fun j hj => l1 j hj, fun j i hj hi => ?_, fun v hv => hCa v, ?_⟩
      · obtain ⟨a, b, c, d⟩ := k1 j hj
        have hx : code[j]? = some (ci_x code j) := by rw [List.getElem?_eq_getElem hj, ci_get (List.getElem?_eq_getElem hj)]
        obtain ⟨a', b', c', d'⟩ := g2 j _ hx
        exact ⟨a.trans a', b.trans b', c.trans c', d.trans d'⟩
      · have h3 := cw_ar3 (op1 (240 + j))
        have hi' : i < gr_ar (op1 (240 + j)) := hi
        show prt2 ((r * 40 + j) * 3 + i) = nI (r * 40 + (bN j + i))
        rw [l2 j i hj (by omega), (hY j i hj hi).1, cd_sh]
      · rw [pk_us]; exact hIm
    · rcases U' q hq with ⟨a, b⟩ | ⟨a, b⟩
      · exact Or.inl ⟨(pk_un z).trans a, (pk_un z).trans b⟩
      · refine Or.inr ⟨by rw [pk_un z]; exact a, ?_⟩
        refine cw_keep hq z (by rcases a with y | y <;> rw [y] <;> decide) b (pk_un z) (pk_un z) (fun j x y => k2 j (by omega)) (fun j x y => l3 j (by omega)) (fun j x y => l4 j (by omega)) ?_
        rcases hc with c | c | c
        · exact Or.inl c
        · exact Or.inr (Or.inl c)
        · exact Or.inr (Or.inr (c q hq z))
  have hlen : ∀ q, q < 6 → ∃ len, len ≤ 40 ∧ rl' q = nI len := by
    intro q hq
    rcases U' q hq with ⟨a, b⟩ | ⟨a, len, nn, f, xo, xa, xt, xp, yo, yn, ya, yp, d1, d2, d3, d4, d5, _⟩
    · exact ⟨0, by omega, b⟩
    · exact ⟨len, d2, d4⟩
  have hnn : ∀ q, q < 6 → ¬ rk q = 0 → ∃ nn, nn ≤ 40 ∧ rn q = nI nn := by
    intro q hq hz
    rcases U' q hq with ⟨a, b⟩ | ⟨a, len, nn, f, xo, xa, xt, xp, yo, yn, ya, yp, d1, d2, d3, d4, d5, _⟩
    · exact absurd a hz
    · exact ⟨nn, d3, d5⟩
  rw [ee]
  by_cases z0 : rk r = 0
  · exact br_t rfl ⟨ir7, br_t (by rw [cr]; exact z0) (AD (Or.inr (Or.inl z0)) (fun post H => YE post (fun e he => br_t (he' e he) (br_t z0 H))))⟩
  by_cases z2 : rk r = v2
  · exact br_t rfl ⟨ir7, br_f (by rw [cr]; exact z0) ⟨ir7, br_t (by rw [cr]; exact z2) (AD (Or.inl z2) (fun post H => YE post (fun e he => br_t (he' e he) (br_f z0 (br_t z2 H)))))⟩⟩
  · refine br_t rfl ⟨ir7, br_f (by rw [cr]; exact z0) ⟨ir7, br_f (by rw [cr]; exact z2) (cf_xcalled hr hlen (fun hx => ?_) (fun hx => ?_))⟩⟩
    · obtain ⟨q, q1, q2, q3⟩ := hx
      refine br_f (by decide) (YE _ (fun e he => br_t (he' e he) (br_f z0 (br_f z2 (cf_ycalled hr hnn (fun hy => br_f (by decide) ⟨rfl, gr_mk hO hT U'⟩) (fun hy => absurd ⟨q, q1, q2, (cw_CD U' q1 hr).1 q3⟩ hy))))))
    · have hno : ∀ q, q < 6 → q ≠ r → ¬ cf_D rk rn op1 nm1 q r := fun q q1 q2 q3 => hx ⟨q, q1, q2, (cw_CD U' q1 hr).2 q3⟩
      exact br_t rfl (AD (Or.inr (Or.inr hno)) (fun post H => YE post (fun e he => br_t (he' e he) (br_f z0 (br_f z2 (cf_ycalled hr hnn (fun hy => by
        obtain ⟨q, q1, q2, q3⟩ := hy
        exact absurd q3 (hno q q1 q2)) (fun _ => br_t rfl H)))))))
