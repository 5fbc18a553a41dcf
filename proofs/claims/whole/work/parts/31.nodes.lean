theorem cs_ups_ne {j : Nat} : ∀ {xs : List Int32} {f : Nat → Int32} {b : Nat}, (j < b ∨ b + xs.length ≤ j) → cs_ups f b xs j = f j
  | [], _, _, _ => rfl
  | x :: r, f, b, h => by
    show cs_ups (upd f b x) (b + 1) r j = f j
    rw [List.length_cons] at h
    rw [cs_ups_ne (by omega), pk_un (by omega)]
theorem cs_ups_in : ∀ {xs : List Int32} {f : Nat → Int32} {b i : Nat} {x : Int32}, xs[i]? = some x → cs_ups f b xs (b + i) = x
  | [], _, _, _, _, h => nomatch h
  | y :: r, f, b, 0, x, h => by
    show cs_ups (upd f b y) (b + 1) r (b + 0) = x
    rw [cs_ups_ne (by omega), Nat.add_zero, pk_us]
    exact Option.some.inj h
  | y :: r, f, b, i + 1, x, h => by
    show cs_ups (upd f b y) (b + 1) r (b + (i + 1)) = x
    rw [show b + (i + 1) = b + 1 + i by omega]
    exact cs_ups_in h
theorem cs_ids_len : ∀ (c nd : Nat), (cs_ids nd c).length = c
  | 0, _ => rfl
  | c + 1, nd => by show (cs_ids (nd + 1) c).length + 1 = c + 1; rw [cs_ids_len c]
theorem cs_ids_get : ∀ {c nd i : Nat}, i < c → (cs_ids nd c)[i]? = some (nI (nd + i))
  | 0, _, _, h => absurd h (by omega)
  | c + 1, nd, 0, _ => rfl
  | c + 1, nd, i + 1, h => by
    show (cs_ids (nd + 1) c)[i]? = _
    rw [cs_ids_get (by omega), show nd + 1 + i = nd + (i + 1) by omega]
def cs_len : List (Nat × Nat) → Nat
  | [] => 0
  | c :: r => (c.2 - c.1) + cs_len r
theorem cs_L_ch {T : Nat → Nat} {tv : Nat → Int32} {n : Nat} : ∀ {f l u : Nat} {t v : Int32} {p : Nat} {ch : List (Nat × Nat)}, cs_L T tv n f l u t v p ch → (∀ c, c ∈ ch → ca_V T n c.1 c.2) ∧ ch.length ≤ 3 ∧ cs_len ch + 1 ≤ u - l ∧ p < n := by
  intro f
  induction f with
  | zero => intro l u t v p ch h; exact absurd h id
  | succ f ih =>
    intro l u t v p ch h
    obtain ⟨hV, h⟩ := h
    have v1 := hV.1
    have v2 := hV.2.1
    rcases h with ⟨_, _, _, _, h⟩ | ⟨h1, _, _, _, h5, h6⟩ | ⟨_, _, _, _, _, h5, h6, h7, _⟩ | ⟨_, _, _, _, _, _, _, h5, h6, h7⟩ | ⟨m, _, _, _, _, _, _, _, _, _, _, h5, h6, h7, h8⟩ | ⟨_, _, _, h5, h6, h7, _⟩ | ⟨c, _, _, _, _, _, _, _, h5, h6, h7, h8, _⟩ | ⟨c, m, _, _, _, _, _, _, _, _, _, _, _, _, h5, h6, h7, h8, h9⟩
    · obtain ⟨a, b, c, d⟩ := ih h
      exact ⟨a, b, by omega, d⟩
    · subst h6; exact ⟨(fun c hc => nomatch hc), by decide, by show 0 + 1 ≤ u - l; omega, by omega⟩
    · subst h6
      refine ⟨fun c hc => ?_, by show 1 ≤ 3; omega, by show (u - 1 - l) + 0 + 1 ≤ u - l; omega, by omega⟩
      rw [List.mem_singleton.mp hc]; exact h7
    · subst h6
      have := h7.1
      refine ⟨fun c hc => ?_, by show 1 ≤ 3; omega, by show (u - 1 - (l + 2)) + 0 + 1 ≤ u - l; omega, by omega⟩
      rw [List.mem_singleton.mp hc]; exact h7
    · subst h6
      have := h7.1
      have := h8.1
      refine ⟨fun c hc => ?_, by show 2 ≤ 3; omega, by show (m - (l + 2)) + ((u - 1 - (m + 1)) + 0) + 1 ≤ u - l; omega, by omega⟩
      rcases List.mem_cons.mp hc with z | z
      · rw [z]; exact h7
      · rw [List.mem_singleton.mp z]; exact h8
    · subst h6
      refine ⟨fun c hc => ?_, by show 1 ≤ 3; omega, by show (u - (l + 1)) + 0 + 1 ≤ u - l; omega, by omega⟩
      rw [List.mem_singleton.mp hc]; exact h7
    · subst h6
      have := h7.1
      have := h8.1
      refine ⟨fun d hd => ?_, by show 2 ≤ 3; omega, by show (c - l) + ((u - (c + 1)) + 0) + 1 ≤ u - l; omega, by omega⟩
      rcases List.mem_cons.mp hd with z | z
      · rw [z]; exact h7
      · rw [List.mem_singleton.mp z]; exact h8
    · subst h6
      have := h7.1
      have := h8.1
      have := h9.1
      refine ⟨fun d hd => ?_, by show 3 ≤ 3; omega, by show (c - l) + ((m - (c + 1)) + ((u - (m + 1)) + 0)) + 1 ≤ u - l; omega, by omega⟩
      rcases List.mem_cons.mp hd with z | z
      · rw [z]; exact h7
      · rcases List.mem_cons.mp z with y | y
        · rw [y]; exact h8
        · rw [List.mem_singleton.mp y]; exact h9
def cl_sum (g : Nat → Nat) : Nat → Nat → Nat
  | _, 0 => 0
  | k, c + 1 => g k + cl_sum g (k + 1) c
theorem cl_sum_add (g : Nat → Nat) : ∀ (c k d : Nat), cl_sum g k (c + d) = cl_sum g k c + cl_sum g (k + c) d
  | 0, k, d => by rw [Nat.zero_add, Nat.add_zero]; show _ = 0 + _; omega
  | c + 1, k, d => by
    rw [show c + 1 + d = c + d + 1 by omega]
    show g k + cl_sum g (k + 1) (c + d) = g k + cl_sum g (k + 1) c + _
    rw [cl_sum_add g c (k + 1) d, show k + 1 + c = k + (c + 1) by omega]; omega
theorem cl_sum_eq {g g' : Nat → Nat} : ∀ (c k : Nat), (∀ j, k ≤ j → j < k + c → g j = g' j) → cl_sum g k c = cl_sum g' k c
  | 0, _, _ => rfl
  | c + 1, k, h => by
    show g k + _ = g' k + _
    rw [h k (by omega) (by omega), cl_sum_eq c (k + 1) (fun j a b => h j (by omega) (by omega))]
theorem cl_sum_ge {g : Nat → Nat} : ∀ (c k : Nat), (∀ j, k ≤ j → j < k + c → 1 ≤ g j) → c ≤ cl_sum g k c
  | 0, _, _ => Nat.le_refl _
  | c + 1, k, h => by
    show c + 1 ≤ g k + _
    have a := h k (by omega) (by omega)
    have b := cl_sum_ge c (k + 1) (fun j a b => h j (by omega) (by omega))
    omega
theorem cl_sum_ch {g : Nat → Nat} : ∀ (ch : List (Nat × Nat)) (k : Nat), (∀ (i : Nat) (c : Nat × Nat), ch[i]? = some c → g (k + i) = c.2 - c.1) → cl_sum g k ch.length = cs_len ch
  | [], _, _ => rfl
  | c :: r, k, h => by
    show g k + cl_sum g (k + 1) r.length = (c.2 - c.1) + cs_len r
    have e := h 0 c rfl
    rw [Nat.add_zero] at e
    rw [e, cl_sum_ch r (k + 1) (fun i d hd => by rw [show k + 1 + i = k + (i + 1) by omega]; exact h (i + 1) d hd)]
/-- the table of nodes while the first k of N are split -/
def cl_I (T : Nat → Nat) (tv : Nat → Int32) (n N k : Nat) (lN hN bN cN : Nat → Nat) (op nm ay prt ylo yhi : Nat → Int32) : Prop :=
  1 ≤ N ∧ k ≤ N ∧ k + cl_sum (fun j => hN j - lN j) k (N - k) ≤ n ∧ lN 0 = 0 ∧ hN 0 = n ∧
  (∀ j, j < N → ylo (240 + j) = nI (lN j) ∧ yhi (240 + j) = nI (hN j) ∧ ca_V T n (lN j) (hN j)) ∧
  (∀ j, j < k → ∃ (p : Nat) (ch : List (Nat × Nat)) (f : Nat), cs_L T tv n f (lN j) (hN j) (op (240 + j)) (nm (240 + j)) p ch ∧ ay (240 + j) = nI p ∧ j < bN j ∧ bN j + ch.length ≤ N ∧ ch.length = cN j ∧ ∀ (i : Nat) (c : Nat × Nat), ch[i]? = some c → prt ((240 + j) * 3 + i) = nI (240 + (bN j + i)) ∧ lN (bN j + i) = c.1 ∧ hN (bN j + i) = c.2) ∧
  (∀ j, 0 < j → j < N → ∃ q i, q < k ∧ i < cN q ∧ j = bN q + i)
section
variable {ob pl sts res era usd sp lv ret out : Int32} {ycls prp lst siz dnd opd yrk rn sN sP sX sK it vr tk tv : Nat → Int32} {n : Nat} {T : Nat → Nat}
theorem cl_step (hn : n ≤ 40) (hK : ∀ i, i < n → tk i = nI (T i) ∧ T i < 23) (hA : ca_S T n = some (1, [])) {N k : Nat} {lN hN bN cN : Nat → Nat} {op nm ay prt ylo yhi : Nat → Int32} (hI : cl_I T tv n N k lN hN bN cN op nm ay prt ylo yhi) (hk : k < N) : ∃ (N' : Nat) (lN' hN' bN' cN' : Nat → Nat) (op' nm' ay' prt' ylo' yhi' : Nat → Int32), cl_I T tv n N' (k + 1) lN' hN' bN' cN' op' nm' ay' prt' ylo' yhi' ∧ (∀ j, 280 ≤ j ∨ j < 240 → op' j = op j ∧ nm' j = nm j ∧ ay' j = ay j) ∧ (∀ j, 840 ≤ j ∨ j < 720 → prt' j = prt j) ∧ ∀ post : SY → Prop, post (ob, nI n, pl, nI (240 + N'), sts, res, era, usd, sp, lv, ret, out, ycls, prp, lst, siz, dnd, tk, tv, opd, yrk, rn, op', nm', ay', prt', ylo', yhi', sN, sP, sX, sK, it, vr) → wpY_split post (ob, nI n, pl, nI (240 + N), sts, res, era, usd, sp, lv, ret, out, ycls, prp, lst, siz, dnd, tk, tv, opd, yrk, rn, op, nm, ay, prt, ylo, yhi, sN, sP, sX, sK, it, vr) (nI (240 + k)) := by
  obtain ⟨i1, i2, i3, i3a, i3b, i4, i5, i6⟩ := hI
  obtain ⟨el, eu, hV⟩ := i4 k hk
  have v1 := hV.1
  have v2 := hV.2.1
  have es : N - k = (N - (k + 1)) + 1 := by omega
  have s1 : cl_sum (fun j => hN j - lN j) k (N - k) = (hN k - lN k) + cl_sum (fun j => hN j - lN j) (k + 1) (N - (k + 1)) := by rw [es]; rfl
  have s2 := cl_sum_ge (g := fun j => hN j - lN j) (N - (k + 1)) (k + 1) (fun j a b => by
    show 1 ≤ hN j - lN j
    have := (i4 j (by omega)).2.2.1
    omega)
  obtain ⟨t, v, p, ch, L1, L2, L3⟩ := cs_split (nd := 240 + N) (K := 240 + k) hn hK hA (by omega) hV (by omega) el eu
  obtain ⟨m1, m2, m3, m4⟩ := cs_L_ch L1
  have chl : ch.length ≤ cs_len ch := by
    have hx : ∀ (cs : List (Nat × Nat)), (∀ c, c ∈ cs → ca_V T n c.1 c.2) → cs.length ≤ cs_len cs := by
      intro cs
      induction cs with
      | nil => intro _; exact Nat.le_refl _
      | cons c r ih =>
        intro h
        have a := (h c (List.mem_cons_self ..)).1
        have b := ih (fun d hd => h d (List.mem_cons_of_mem _ hd))
        show r.length + 1 ≤ (c.2 - c.1) + cs_len r
        omega
    exact hx ch m1
  let gl : Nat → Nat := fun j => if N ≤ j then (ch[j - N]?.getD (0, 0)).1 else lN j
  let gh : Nat → Nat := fun j => if N ≤ j then (ch[j - N]?.getD (0, 0)).2 else hN j
  have gl0 : ∀ j, j < N → gl j = lN j := fun j h => if_neg (by omega)
  have gh0 : ∀ j, j < N → gh j = hN j := fun j h => if_neg (by omega)
  have gl1 : ∀ (i : Nat) (c : Nat × Nat), ch[i]? = some c → gl (N + i) = c.1 := by
    intro i c hc
    show (if N ≤ N + i then (ch[N + i - N]?.getD (0, 0)).1 else lN (N + i)) = c.1
    rw [if_pos (by omega), Nat.add_sub_cancel_left, hc]; rfl
  have gh1 : ∀ (i : Nat) (c : Nat × Nat), ch[i]? = some c → gh (N + i) = c.2 := by
    intro i c hc
    show (if N ≤ N + i then (ch[N + i - N]?.getD (0, 0)).2 else hN (N + i)) = c.2
    rw [if_pos (by omega), Nat.add_sub_cancel_left, hc]; rfl
  have some_of : ∀ i, i < ch.length → ∃ c, ch[i]? = some c := fun i h => ⟨ch[i], List.getElem?_eq_getElem h⟩
  have lt_of : ∀ (i : Nat) (c : Nat × Nat), ch[i]? = some c → i < ch.length := by
    intro i c hc
    by_cases h : i < ch.length
    · exact h
    · rw [List.getElem?_eq_none (by omega)] at hc; cases hc
  refine ⟨N + ch.length, gl, gh, fun j => if j = k then N else bN j, fun j => if j = k then ch.length else cN j, upd op (240 + k) t, upd nm (240 + k) v, upd ay (240 + k) (nI p), cs_ups prt ((240 + k) * 3) (cs_ids (240 + N) ch.length), cs_ups ylo (240 + N) (ch.map (fun c => nI c.1)), cs_ups yhi (240 + N) (ch.map (fun c => nI c.2)), ⟨by omega, by omega, ?_, by rw [gl0 0 (by omega)]; exact i3a, by rw [gh0 0 (by omega)]; exact i3b, ?_, ?_, ?_⟩, ?_, ?_, ?_⟩
  · -- the sum
    have e1 : N + ch.length - (k + 1) = (N - (k + 1)) + ch.length := by omega
    rw [e1, cl_sum_add, show k + 1 + (N - (k + 1)) = N by omega]
    rw [cl_sum_eq (g' := fun j => hN j - lN j) (N - (k + 1)) (k + 1) (fun j a b => by
      show gh j - gl j = hN j - lN j
      rw [gh0 j (by omega), gl0 j (by omega)])]
    rw [cl_sum_ch ch N (fun i c hc => by
      show gh (N + i) - gl (N + i) = c.2 - c.1
      rw [gh1 i c hc, gl1 i c hc])]
    omega
  · -- the spans
    intro j hj
    by_cases jN : j < N
    · rw [gl0 j jN, gh0 j jN, cs_ups_ne (by omega), cs_ups_ne (by omega)]
      exact i4 j jN
    · obtain ⟨i, rfl⟩ : ∃ i, j = N + i := ⟨j - N, by omega⟩
      obtain ⟨c, hc⟩ := some_of i (by omega)
      rw [gl1 i c hc, gh1 i c hc]
      refine ⟨?_, ?_, m1 c (List.mem_of_getElem? hc)⟩
      · rw [show 240 + (N + i) = 240 + N + i by omega]
        exact cs_ups_in (by rw [List.getElem?_map, hc]; rfl)
      · rw [show 240 + (N + i) = 240 + N + i by omega]
        exact cs_ups_in (by rw [List.getElem?_map, hc]; rfl)
  · -- what is split
    intro j hj
    by_cases jk : j = k
    · subst jk
      refine ⟨p, ch, hN j - lN j, ?_, pk_us, ?_, ?_, ?_, ?_⟩
      · rw [gl0 j hk, gh0 j hk, pk_us, pk_us]; exact L1
      · show j < if j = j then N else bN j
        rw [if_pos rfl]; exact hk
      · show (if j = j then N else bN j) + ch.length ≤ N + ch.length
        rw [if_pos rfl]; exact Nat.le_refl _
      · show ch.length = if j = j then ch.length else cN j
        rw [if_pos rfl]
      · intro i c hc
        show cs_ups prt ((240 + j) * 3) (cs_ids (240 + N) ch.length) ((240 + j) * 3 + i) = nI (240 + ((if j = j then N else bN j) + i)) ∧ gl ((if j = j then N else bN j) + i) = c.1 ∧ gh ((if j = j then N else bN j) + i) = c.2
        rw [if_pos rfl]
        exact ⟨by rw [cs_ups_in (cs_ids_get (lt_of i c hc)), Nat.add_assoc], gl1 i c hc, gh1 i c hc⟩
    · obtain ⟨p', ch', f', q1, q2, q3, q4, q4a, q5⟩ := i5 j (by omega)
      have q6 := (cs_L_ch q1).2.1
      have bj : (fun x => if x = k then N else bN x) j = bN j := if_neg jk
      have cj : (fun x => if x = k then ch.length else cN x) j = cN j := if_neg jk
      refine ⟨p', ch', f', ?_, by rw [pk_un (by omega)]; exact q2, by rw [bj]; exact q3, by rw [bj]; omega, by rw [cj]; exact q4a, ?_⟩
      · rw [gl0 j (by omega), gh0 j (by omega), pk_un (by omega), pk_un (by omega)]; exact q1
      · intro i c hc
        have il : i < ch'.length := by
          by_cases h : i < ch'.length
          · exact h
          · rw [List.getElem?_eq_none (by omega)] at hc; cases hc
        obtain ⟨r1, r2, r3⟩ := q5 i c hc
        rw [bj, gl0 _ (by omega), gh0 _ (by omega), cs_ups_ne (by rw [cs_ids_len]; omega)]
        exact ⟨r1, r2, r3⟩
  · -- every node has one above it
    intro j h0 hj
    by_cases jN : j < N
    · obtain ⟨q, i, a1, a2, a3⟩ := i6 j h0 jN
      refine ⟨q, i, by omega, ?_, ?_⟩
      · show i < if q = k then ch.length else cN q
        rw [if_neg (by omega)]; exact a2
      · show j = (if q = k then N else bN q) + i
        rw [if_neg (by omega)]; exact a3
    · refine ⟨k, j - N, by omega, ?_, ?_⟩
      · show j - N < if k = k then ch.length else cN k
        rw [if_pos rfl]; omega
      · show j = (if k = k then N else bN k) + (j - N)
        rw [if_pos rfl]; omega
  · intro j hj
    rw [pk_un (by omega), pk_un (by omega), pk_un (by omega)]
    exact ⟨rfl, rfl, rfl⟩
  · intro j hj
    exact cs_ups_ne (by rw [cs_ids_len]; omega)
  · intro post hp
    refine L3 post ?_
    rw [show 240 + N + ch.length = 240 + (N + ch.length) by omega]
    exact hp
theorem cl_loop (hn : n ≤ 40) (hK : ∀ i, i < n → tk i = nI (T i) ∧ T i < 23) (hA : ca_S T n = some (1, [])) : ∀ (d : Nat) {N k : Nat} {lN hN bN cN : Nat → Nat} {op nm ay prt ylo yhi : Nat → Int32}, cl_I T tv n N k lN hN bN cN op nm ay prt ylo yhi → n ≤ k + d → ∃ (N' : Nat) (lN' hN' bN' cN' : Nat → Nat) (op' nm' ay' prt' ylo' yhi' : Nat → Int32), cl_I T tv n N' N' lN' hN' bN' cN' op' nm' ay' prt' ylo' yhi' ∧ (∀ j, 280 ≤ j ∨ j < 240 → op' j = op j ∧ nm' j = nm j ∧ ay' j = ay j) ∧ (∀ j, 840 ≤ j ∨ j < 720 → prt' j = prt j) ∧ ∀ (post : Int32 → SY → Prop) (x1 x2 : Int32), (∀ m, wY_compile_134 post x1 x2 (m + 1) (nI (240 + N')) ob (nI n) pl (nI (240 + N')) sts res era usd sp lv ret out ycls prp lst siz dnd (tk) (tv) opd yrk rn (op') (nm') (ay') (prt') (ylo') (yhi') sN sP sX sK it vr) → ∃ m, wY_compile_134 post x1 x2 m (nI (240 + k)) ob (nI n) pl (nI (240 + N)) sts res era usd sp lv ret out ycls prp lst siz dnd (tk) (tv) opd yrk rn op nm ay prt ylo yhi sN sP sX sK it vr := by
  intro d
  induction d with
  | zero =>
    intro N k lN hN bN cN op nm ay prt ylo yhi hI hd
    have i2 := hI.2.1
    have i3 := hI.2.2.1
    have kN : k = N := by
      have := cl_sum_ge (g := fun j => hN j - lN j) (N - k) k (fun j a b => by
        show 1 ≤ hN j - lN j
        have := (hI.2.2.2.2.2.1 j (by omega)).2.2.1
        omega)
      omega
    subst kN
    exact ⟨k, lN, hN, bN, cN, op, nm, ay, prt, ylo, yhi, hI, fun j _ => ⟨rfl, rfl, rfl⟩, fun j _ => rfl, fun post x1 x2 H => ⟨1, H 0⟩⟩
  | succ d ih =>
    intro N k lN hN bN cN op nm ay prt ylo yhi hI hd
    have i2 := hI.2.1
    have i3 := hI.2.2.1
    by_cases kN : k < N
    · obtain ⟨N1, lN1, hN1, bN1, cN1, op1, nm1, ay1, prt1, ylo1, yhi1, I1, E1, E2, H1⟩ := cl_step (ob := ob) (pl := pl) (sts := sts) (res := res) (era := era) (usd := usd) (sp := sp) (lv := lv) (ret := ret) (out := out) (ycls := ycls) (prp := prp) (lst := lst) (siz := siz) (dnd := dnd) (opd := opd) (yrk := yrk) (rn := rn) (sN := sN) (sP := sP) (sX := sX) (sK := sK) (it := it) (vr := vr) hn hK hA hI kN
      obtain ⟨N2, lN2, hN2, bN2, cN2, op2, nm2, ay2, prt2, ylo2, yhi2, I2, F1, F2, H2⟩ := ih I1 (by omega)
      have sum := cl_sum_ge (g := fun j => hN j - lN j) (N - k) k (fun j a b => by
        show 1 ≤ hN j - lN j
        have := (hI.2.2.2.2.2.1 j (by omega)).2.2.1
        omega)
      refine ⟨N2, lN2, hN2, bN2, cN2, op2, nm2, ay2, prt2, ylo2, yhi2, I2, fun j hj => ?_, fun j hj => (F2 j hj).trans (E2 j hj), fun post x1 x2 H => ?_⟩
      · exact ⟨(F1 j hj).1.trans (E1 j hj).1, (F1 j hj).2.1.trans (E1 j hj).2.1, (F1 j hj).2.2.trans (E1 j hj).2.2⟩
      · obtain ⟨m, hm⟩ := H2 post x1 x2 H
        refine ⟨m + 1, br_f (nI_ge (by omega) (by omega)) (nm_r (nI_1 (240 + k)) (H1 _ ?_))⟩
        exact hm
    · have kN2 : k = N := by omega
      subst kN2
      exact ⟨k, lN, hN, bN, cN, op, nm, ay, prt, ylo, yhi, hI, fun j _ => ⟨rfl, rfl, rfl⟩, fun j _ => rfl, fun post x1 x2 H => ⟨1, H 0⟩⟩
theorem cl_start (hA : ca_S T n = some (1, [])) {op nm ay prt ylo yhi : Nat → Int32} (h1 : ylo 240 = nI 0) (h2 : yhi 240 = nI n) : cl_I T tv n 1 0 (fun _ => 0) (fun _ => n) (fun _ => 0) (fun _ => 0) op nm ay prt ylo yhi := by
  refine ⟨by omega, by omega, ?_, rfl, rfl, fun j hj => ?_, fun j hj => absurd hj (by omega), fun j h0 hj => absurd hj (by omega)⟩
  · show 0 + ((n - 0) + 0) ≤ n
    omega
  · have : j = 0 := by omega
    subst this
    exact ⟨h1, h2, ca_V0 hA⟩
end
