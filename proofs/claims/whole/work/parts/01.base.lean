theorem pk_us {f : Nat → Int32} {k : Nat} {x : Int32} : upd f k x k = x := if_pos rfl
theorem pk_un {f : Nat → Int32} {k j : Nat} {x : Int32} (h : j ≠ k) : upd f k x j = f j := if_neg h
theorem pk_sub {a b : Nat} (h : b ≤ a) : nI a - nI b = nI (a - b) := by
  obtain ⟨c, rfl⟩ : ∃ c, a = c + b := ⟨a - b, by omega⟩
  rw [← nI_add, Int32.add_sub_cancel, Nat.add_sub_cancel]
theorem pk_m1 (n : Nat) : nI (n + 1) + (-1) = nI n := by
  rw [← nI_1, Int32.add_assoc, show (1 : Int32) + (-1) = 0 from rfl, Int32.add_zero]
theorem pk_mul (a b : Nat) : nI a * nI b = nI (a * b) := (Int32.ofNat_mul a b).symm
theorem pk_div {a d : Nat} (ha : a < 2 ^ 31) (h0 : 0 < d) (hd : d < 2 ^ 31) : nI a / nI d = nI (a / d) := by
  apply Int32.toInt_inj.mp
  rw [lg_idiv_nonneg (by rw [nI_toInt ha]; omega) (by rw [nI_toInt hd]; omega), nI_toInt ha, nI_toInt hd, nI_toInt (Nat.lt_of_le_of_lt (Nat.div_le_self a d) ha)]
  first | rfl | exact (Int.natCast_ediv _ _).symm
theorem pk_rem {a d : Nat} (ha : a < 2 ^ 31) (h0 : 0 < d) (hd : d < 2 ^ 31) : nI a - nI a / nI d * nI d = nI (a % d) := by
  rw [pk_div ha h0 hd, pk_mul, pk_sub (Nat.div_mul_le_self a d)]
  exact congrArg nI (by have := Nat.div_add_mod' a d; omega)
theorem pk_sub_toInt {a b : Nat} (ha : a < 2 ^ 30) (hb : b < 2 ^ 30) : (nI a - nI b).toInt = (a : Int) - b := by
  rw [Int32.toInt_sub, nI_toInt (by omega), nI_toInt (by omega)]
  exact Int.bmod_eq_of_le (by omega) (by omega)
theorem pk_sneg {a b : Nat} (hb : b < 2 ^ 30) (h : a < b) : nI a - nI b < 0 := by
  rw [Int32.lt_iff_toInt_lt, pk_sub_toInt (by omega) hb, show (0 : Int32).toInt = 0 from by decide]
  omega
theorem pk_ix (x : Int32) {n : Nat} (hn : n < 2 ^ 31) : x < 0 ∨ nI n ≤ x ∨ ∃ j : Nat, j < n ∧ x = nI j := by
  by_cases h : x < 0
  · exact Or.inl h
  · obtain ⟨j, hj, rfl⟩ := nI_of h
    by_cases h2 : j < n
    · exact Or.inr (Or.inr ⟨j, h2, rfl⟩)
    · exact Or.inr (Or.inl (nI_le (by omega) hj))
theorem pk_le {x y : Int32} {A B : Prop} (a b : Nat) (f : a ≤ b → A) (g : b < a → B) (hx : x = nI a := by rfl) (hy : y = nI b := by rfl) (ha : a < 2 ^ 31 := by omega) (hb : b < 2 ^ 31 := by omega) : (x ≤ y → A) ∧ (¬ x ≤ y → B) := by
  subst hx hy
  rw [nI_leI ha hb]
  exact ⟨f, fun z => g (by omega)⟩
theorem pk_lt {x y : Int32} {A B : Prop} (a b : Nat) (f : a < b → A) (g : b ≤ a → B) (hx : x = nI a := by rfl) (hy : y = nI b := by rfl) (ha : a < 2 ^ 31 := by omega) (hb : b < 2 ^ 31 := by omega) : (x < y → A) ∧ (¬ x < y → B) := by
  subst hx hy
  rw [nI_ltI ha hb]
  exact ⟨f, fun z => g (by omega)⟩
theorem pk_eq {x y : Int32} {A B : Prop} (a b : Nat) (f : a = b → A) (g : a ≠ b → B) (hx : x = nI a := by rfl) (hy : y = nI b := by rfl) (ha : a < 2 ^ 31 := by omega) (hb : b < 2 ^ 31 := by omega) : (x = y → A) ∧ (¬ x = y → B) := by
  subst hx hy
  rw [nI_eq ha hb]
  exact ⟨f, g⟩
theorem pk_in {x : Int32} (n N : Nat) (h : n < N) (hx : x = nI n := by rfl) (hN : N < 2 ^ 31 := by omega) : vp_in x N := by
  subst hx
  exact vp_in_nI h hN
theorem pk_cl {x : Int32} (n : Nat) (hx : x = nI n := by rfl) (h : n < 2 ^ 31 := by omega) : x.toNatClampNeg = n := by
  subst hx
  exact nI_clamp h
theorem pk_loop {σ : Type} (W : Nat → Nat → σ → Prop) (I : Nat → σ → Prop) (e i0 : Nat) (s : σ) (hi : i0 ≤ e) (h0 : I i0 s) (hx : ∀ n s, I e s → W (n + 1) e s)
    (hs : ∀ n i s, i < e → I i s → (∀ s', I (i + 1) s' → W n (i + 1) s') → W (n + 1) i s) : ∃ n, W n i0 s :=
  ⟨e + 1, loop_i W I e hx hs (e + 1) i0 s hi (by omega) h0⟩
theorem pk_least (P : Nat → Prop) (h : ∃ k, P k) : ∃ k, P k ∧ ∀ j, j < k → ¬ P j := by
  obtain ⟨k, hk⟩ := h
  induction k using Nat.strongRecOn with
  | ind k ih =>
    by_cases e : ∃ j, j < k ∧ P j
    · obtain ⟨j, hj, pj⟩ := e
      exact ih j hj pj
    · exact ⟨k, hk, fun j hj pj => e ⟨j, hj, pj⟩⟩

/-- how many children a node of this kind has -/
def gr_ar (t : Int32) : Nat := if t = 0 ∨ t = 3 ∨ t = 4 ∨ t = 19 then 0 else if t = 1 ∨ t = 2 ∨ t = 5 ∨ t = 12 ∨ t = 23 then 1 else if t = 8 then 3 else 2
/-- the kind of a property -/
def gr_pk (p : Nat) : Int32 := if p < 3 then 1 else if p = 3 then 3 else 4
/-- node k of the tree is carried out by the instructions a .. b-1, with the variables B bound, and is of kind t -/
def gr_Im (xo xa xt xp yo yn ya : Nat → Int32) (yp : Nat → Nat → Nat) (rk : Nat → Int32) (len nn : Nat) : Nat → (Nat → Prop) → Nat → Nat → Nat → Int32 → Prop
  | 0 => fun _ _ _ _ _ => False
  | f + 1 => fun B k a b t => k < nn ∧ a < b ∧ b ≤ len ∧ (
      (yo k = 0 ∧ b = a + 1 ∧ xo a = 0 ∧ xa a = yn k ∧ t = 1) ∨
      (yo k = 3 ∧ b = a + 1 ∧ xo a = 3 ∧ t = 3) ∨
      (yo k = 19 ∧ b = a + 1 ∧ xo a = 19 ∧ t = 3) ∨
      (∃ v, v < 3 ∧ yo k = 4 ∧ yn k = nI v ∧ b = a + 1 ∧ xo a = 4 ∧ xa a = nI v ∧ B v ∧ t = 3) ∨
      (∃ p c, p < 6 ∧ b = c + 1 ∧ (yo k = 1 ∨ yo k = 2) ∧ yn k = nI p ∧ gr_Im xo xa xt xp yo yn ya yp rk len nn f B (yp k 0) a c 3 ∧ xo c = yo k ∧ xa c = nI p ∧ xp c = ya k ∧ t = gr_pk p) ∨
      (∃ c, b = c + 1 ∧ (yo k = 12 ∧ t = 2 ∨ yo k = 23 ∧ t = 1) ∧ gr_Im xo xa xt xp yo yn ya yp rk len nn f B (yp k 0) a c t ∧ xo c = yo k) ∨
      (∃ r c, r < 6 ∧ b = c + 1 ∧ yo k = 5 ∧ yn k = nI r ∧ gr_Im xo xa xt xp yo yn ya yp rk len nn f B (yp k 0) a c 3 ∧ xo c = 5 ∧ xa c = nI r ∧ xp c = ya k ∧ rk r = t ∧ (t = 1 ∨ t = 2)) ∨
      (∃ s m c t1 t2, 13 ≤ s ∧ s ≤ 18 ∧ b = c + 1 ∧ yo k = nI s ∧ gr_Im xo xa xt xp yo yn ya yp rk len nn f B (yp k 0) a m t1 ∧ gr_Im xo xa xt xp yo yn ya yp rk len nn f B (yp k 1) m c t2 ∧ xo c = nI s ∧ xp c = ya k ∧ t = (if s ≤ 14 then 2 else 1)) ∨
      (∃ m, (yo k = 10 ∨ yo k = 11) ∧ gr_Im xo xa xt xp yo yn ya yp rk len nn f B (yp k 0) a m 2 ∧ xo m = yo k ∧ xt m = nI b ∧ gr_Im xo xa xt xp yo yn ya yp rk len nn f B (yp k 1) (m + 1) b 2 ∧ t = 2) ∨
      (∃ m m2, yo k = 8 ∧ gr_Im xo xa xt xp yo yn ya yp rk len nn f B (yp k 0) a m 2 ∧ xo m = 8 ∧ xt m = nI (m2 + 1) ∧ gr_Im xo xa xt xp yo yn ya yp rk len nn f B (yp k 1) (m + 1) m2 t ∧ xo m2 = 9 ∧ xt m2 = nI b ∧ gr_Im xo xa xt xp yo yn ya yp rk len nn f B (yp k 2) (m2 + 1) b t) ∨
      (∃ s v m c, 20 ≤ s ∧ s ≤ 22 ∧ v < 3 ∧ b = c + 1 ∧ yo k = nI s ∧ yn k = nI v ∧ ¬ B v ∧ gr_Im xo xa xt xp yo yn ya yp rk len nn f B (yp k 0) a m 4 ∧ xo m = nI s ∧ xa m = nI v ∧ xt m = nI b ∧ xp m = ya k ∧ gr_Im xo xa xt xp yo yn ya yp rk len nn f (fun w => w = v ∨ B w) (yp k 1) (m + 1) c t ∧ xo c = 24 ∧ xa c = nI m ∧ xp c = ya k ∧ t = (if s = 22 then 1 else 2)))
/-- rule q: its instructions and its nodes belong together -/
def gr_Q (q : Nat) (rk rl ro ra rt rp rn op nm ay prt : Nat → Int32) : Prop :=
  ∃ (len nn f : Nat) (xo xa xt xp yo yn ya : Nat → Int32) (yp : Nat → Nat → Nat), 0 < len ∧ len ≤ 40 ∧ nn ≤ 40 ∧ rl q = nI len ∧ rn q = nI nn ∧
    (∀ j, j < len → ro (q * 40 + j) = xo j ∧ ra (q * 40 + j) = xa j ∧ rt (q * 40 + j) = xt j ∧ rp (q * 40 + j) = xp j) ∧
    (∀ j, j < nn → op (q * 40 + j) = yo j ∧ nm (q * 40 + j) = yn j ∧ ay (q * 40 + j) = ya j) ∧
    (∀ j i, j < nn → i < gr_ar (yo j) → prt ((q * 40 + j) * 3 + i) = nI (q * 40 + yp j i)) ∧
    (∀ v, v < 6 → ((∃ c, c < len ∧ xo c = 5 ∧ xa c = nI v) ↔ ∃ j, j < nn ∧ yo j = 5 ∧ yn j = nI v)) ∧
    gr_Im xo xa xt xp yo yn ya yp rk len nn f (fun _ => False) 0 0 len (rk q)
def gr_U (rk rl ro ra rt rp rn op nm ay prt : Nat → Int32) : Prop :=
  ∀ q, q < 6 → (rk q = 0 ∧ rl q = 0) ∨ ((rk q = 1 ∨ rk q = 2) ∧ gr_Q q rk rl ro ra rt rp rn op nm ay prt)
/-- the objects -/
def gr_O (o : Nat) (cls num lnk lsz lit prp : Nat → Int32) : Prop :=
  o ≤ 8 ∧ (∀ i, i < o → ∃ c, c < 3 ∧ cls i = nI c) ∧ (∀ i p, i < 8 → p < 3 → prp (i * 4 + p) = num (i * 3 + p)) ∧ (∀ i, i < 8 → prp (i * 4 + 3) = lnk i) ∧
  (∀ i, i < o → lnk i = -1 ∨ ∃ t, t < o ∧ lnk i = nI t) ∧ (∀ l, l < 16 → ∃ s, s ≤ 4 ∧ lsz l = nI s ∧ ∀ j, j < s → ∃ t, t < o ∧ lit (l * 4 + j) = nI t)
/-- a token that may stand -/
def gr_tk (k v : Int32) : Prop := ∃ t, t < 23 ∧ k = nI t ∧ (t = 1 ∨ t = 2 ∨ t = 5 → ∃ x, x < 6 ∧ v = nI x) ∧ (t = 4 ∨ 20 ≤ t → ∃ x, x < 3 ∧ v = nI x)
def gr_T (n : Nat) (tk tv : Nat → Int32) : Prop := n ≤ 40 ∧ ∀ i, i < n → gr_tk (tk i) (tv i)
def i_Rel (_k : Nat) (u : SX) (v : SY) : Prop := ∃ (o n : Nat) (cp lc sc kc dp vc er ep uu nds sts sp lv ret out : Int32) (cls num lnk lsz lit fb tk tv rk rl ro ra rt rp oo co sk kd fr fn fi vs ll li lt prp opd rn op nm ay prt ylo yhi sN sP sX sK it vr : Nat → Int32),
  u = (nI o, nI n, cp, lc, sc, kc, dp, vc, er, ep, uu, cls, num, lnk, lsz, lit, fb, tk, tv, rk, rl, ro, ra, rt, rp, oo, co, sk, kd, fr, fn, fi, vs, ll, li, lt) ∧ v = (nI o, nI n, cp, nds, sts, er, ep, uu, sp, lv, ret, out, cls, prp, lit, lsz, fb, tk, tv, opd, rk, rn, op, nm, ay, prt, ylo, yhi, sN, sP, sX, sK, it, vr) ∧ gr_O o cls num lnk lsz lit prp ∧ gr_T n tk tv ∧ gr_U rk rl ro ra rt rp rn op nm ay prt
theorem gr_mk {k o n : Nat} {cp lc sc kc dp vc er ep uu nds sts sp lv ret out : Int32} {cls num lnk lsz lit fb tk tv rk rl ro ra rt rp oo co sk kd fr fn fi vs ll li lt prp opd rn op nm ay prt ylo yhi sN sP sX sK it vr : Nat → Int32} (hO : gr_O o cls num lnk lsz lit prp) (hT : gr_T n tk tv) (hU : gr_U rk rl ro ra rt rp rn op nm ay prt) : i_Rel k (nI o, nI n, cp, lc, sc, kc, dp, vc, er, ep, uu, cls, num, lnk, lsz, lit, fb, tk, tv, rk, rl, ro, ra, rt, rp, oo, co, sk, kd, fr, fn, fi, vs, ll, li, lt) (nI o, nI n, cp, nds, sts, er, ep, uu, sp, lv, ret, out, cls, prp, lit, lsz, fb, tk, tv, opd, rk, rn, op, nm, ay, prt, ylo, yhi, sN, sP, sX, sK, it, vr) :=
  ⟨o, n, cp, lc, sc, kc, dp, vc, er, ep, uu, nds, sts, sp, lv, ret, out, cls, num, lnk, lsz, lit, fb, tk, tv, rk, rl, ro, ra, rt, rp, oo, co, sk, kd, fr, fn, fi, vs, ll, li, lt, prp, opd, rn, op, nm, ay, prt, ylo, yhi, sN, sP, sX, sK, it, vr, rfl, rfl, hO, hT, hU⟩
theorem gr_el {k : Nat} {u : SX} {v : SY} {P : SX → SY → Prop} (I : i_Rel k u v) (h : ∀ (o n : Nat) (cp lc sc kc dp vc er ep uu nds sts sp lv ret out : Int32) (cls num lnk lsz lit fb tk tv rk rl ro ra rt rp oo co sk kd fr fn fi vs ll li lt prp opd rn op nm ay prt ylo yhi sN sP sX sK it vr : Nat → Int32), gr_O o cls num lnk lsz lit prp → gr_T n tk tv → gr_U rk rl ro ra rt rp rn op nm ay prt → P (nI o, nI n, cp, lc, sc, kc, dp, vc, er, ep, uu, cls, num, lnk, lsz, lit, fb, tk, tv, rk, rl, ro, ra, rt, rp, oo, co, sk, kd, fr, fn, fi, vs, ll, li, lt) (nI o, nI n, cp, nds, sts, er, ep, uu, sp, lv, ret, out, cls, prp, lit, lsz, fb, tk, tv, opd, rk, rn, op, nm, ay, prt, ylo, yhi, sN, sP, sX, sK, it, vr)) : P u v := by
  obtain ⟨o, n, cp, lc, sc, kc, dp, vc, er, ep, uu, nds, sts, sp, lv, ret, out, cls, num, lnk, lsz, lit, fb, tk, tv, rk, rl, ro, ra, rt, rp, oo, co, sk, kd, fr, fn, fi, vs, ll, li, lt, prp, opd, rn, op, nm, ay, prt, ylo, yhi, sN, sP, sX, sK, it, vr, rfl, rfl, hO, hT, hU⟩ := I
  exact h _ _ _ _ _ _ _ _ _ _ _ _ _ _ _ _ _ _ _ _ _ _ _ _ _ _ _ _ _ _ _ _ _ _ _ _ _ _ _ _ _ _ _ _ _ _ _ _ _ _ _ _ _ _ _ _ _ hO hT hU
theorem i_up {k : Nat} {u : SX} {v : SY} (h : i_Rel k u v) : i_Rel (k + 4) u v := h
