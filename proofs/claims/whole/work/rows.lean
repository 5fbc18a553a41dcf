section
theorem pk_us {f : Nat → Int32} {k : Nat} {x : Int32} : upd f k x k = x := if_pos rfl
theorem pk_un {f : Nat → Int32} {k j : Nat} {x : Int32} (h : j ≠ k) : upd f k x j = f j := if_neg h
theorem pk_sub {a b : Nat} (h : b ≤ a) : nI a - nI b = nI (a - b) := by
  obtain ⟨c, rfl⟩ : ∃ c, a = c + b := ⟨a - b, by omega⟩
  rw [← nI_add, Int32.add_sub_cancel, Nat.add_sub_cancel]
theorem pk_m1 (n : Nat) : nI (n + 1) + (-1) = nI n := by
  rw [← nI_1, Int32.add_assoc, show (1 : Int32) + (-1) = 0 from rfl, Int32.add_zero]
theorem pk_mul (a b : Nat) : nI a * nI b = nI (a * b) := (Int32.ofNat_mul a b).symm
theorem pk_div {a d : Nat} (ha : a < 2 ^ 31) (h0 : 0 < d) (hd : d < 2 ^ 31) : nI a / nI d = nI (a / d) := by
  apply Int32.toInt_inj.mp
  rw [lg_idiv_nonneg (by rw [nI_toInt ha]; omega) (by rw [nI_toInt hd]; omega), nI_toInt ha, nI_toInt hd, nI_toInt (Nat.lt_of_le_of_lt (Nat.div_le_self a d) ha)]
  first | rfl | exact (Int.natCast_ediv _ _).symm
theorem pk_rem {a d : Nat} (ha : a < 2 ^ 31) (h0 : 0 < d) (hd : d < 2 ^ 31) : nI a - nI a / nI d * nI d = nI (a % d) := by
  rw [pk_div ha h0 hd, pk_mul, pk_sub (Nat.div_mul_le_self a d)]
  exact congrArg nI (by have := Nat.div_add_mod' a d; omega)
theorem pk_sub_toInt {a b : Nat} (ha : a < 2 ^ 30) (hb : b < 2 ^ 30) : (nI a - nI b).toInt = (a : Int) - b := by
  rw [Int32.toInt_sub, nI_toInt (by omega), nI_toInt (by omega)]
  exact Int.bmod_eq_of_le (by omega) (by omega)
theorem pk_sneg {a b : Nat} (hb : b < 2 ^ 30) (h : a < b) : nI a - nI b < 0 := by
  rw [Int32.lt_iff_toInt_lt, pk_sub_toInt (by omega) hb, show (0 : Int32).toInt = 0 from by decide]
  omega
theorem pk_ix (x : Int32) {n : Nat} (hn : n < 2 ^ 31) : x < 0 ∨ nI n ≤ x ∨ ∃ j : Nat, j < n ∧ x = nI j := by
  by_cases h : x < 0
  · exact Or.inl h
  · obtain ⟨j, hj, rfl⟩ := nI_of h
    by_cases h2 : j < n
    · exact Or.inr (Or.inr ⟨j, h2, rfl⟩)
    · exact Or.inr (Or.inl (nI_le (by omega) hj))
theorem pk_le {x y : Int32} {A B : Prop} (a b : Nat) (f : a ≤ b → A) (g : b < a → B) (hx : x = nI a := by rfl) (hy : y = nI b := by rfl) (ha : a < 2 ^ 31 := by omega) (hb : b < 2 ^ 31 := by omega) : (x ≤ y → A) ∧ (¬ x ≤ y → B) := by
  subst hx hy
  rw [nI_leI ha hb]
  exact ⟨f, fun z => g (by omega)⟩
theorem pk_lt {x y : Int32} {A B : Prop} (a b : Nat) (f : a < b → A) (g : b ≤ a → B) (hx : x = nI a := by rfl) (hy : y = nI b := by rfl) (ha : a < 2 ^ 31 := by omega) (hb : b < 2 ^ 31 := by omega) : (x < y → A) ∧ (¬ x < y → B) := by
  subst hx hy
  rw [nI_ltI ha hb]
  exact ⟨f, fun z => g (by omega)⟩
theorem pk_eq {x y : Int32} {A B : Prop} (a b : Nat) (f : a = b → A) (g : a ≠ b → B) (hx : x = nI a := by rfl) (hy : y = nI b := by rfl) (ha : a < 2 ^ 31 := by omega) (hb : b < 2 ^ 31 := by omega) : (x = y → A) ∧ (¬ x = y → B) := by
  subst hx hy
  rw [nI_eq ha hb]
  exact ⟨f, g⟩
theorem pk_in {x : Int32} (n N : Nat) (h : n < N) (hx : x = nI n := by rfl) (hN : N < 2 ^ 31 := by omega) : vp_in x N := by
  subst hx
  exact vp_in_nI h hN
theorem pk_cl {x : Int32} (n : Nat) (hx : x = nI n := by rfl) (h : n < 2 ^ 31 := by omega) : x.toNatClampNeg = n := by
  subst hx
  exact nI_clamp h
theorem pk_loop {σ : Type} (W : Nat → Nat → σ → Prop) (I : Nat → σ → Prop) (e i0 : Nat) (s : σ) (hi : i0 ≤ e) (h0 : I i0 s) (hx : ∀ n s, I e s → W (n + 1) e s)
    (hs : ∀ n i s, i < e → I i s → (∀ s', I (i + 1) s' → W n (i + 1) s') → W (n + 1) i s) : ∃ n, W n i0 s :=
  ⟨e + 1, loop_i W I e hx hs (e + 1) i0 s hi (by omega) h0⟩
theorem pk_least (P : Nat → Prop) (h : ∃ k, P k) : ∃ k, P k ∧ ∀ j, j < k → ¬ P j := by
  obtain ⟨k, hk⟩ := h
  induction k using Nat.strongRecOn with
  | ind k ih =>
    by_cases e : ∃ j, j < k ∧ P j
    · obtain ⟨j, hj, pj⟩ := e
      exact ih j hj pj
    · exact ⟨k, hk, fun j hj pj => e ⟨j, hj, pj⟩⟩

/-- how many children a node of this kind has -/
def gr_ar (t : Int32) : Nat := if t = 0 ∨ t = 3 ∨ t = 4 ∨ t = 19 then 0 else if t = 1 ∨ t = 2 ∨ t = 5 ∨ t = 12 ∨ t = 23 then 1 else if t = 8 then 3 else 2
/-- the kind of a property -/
def gr_pk (p : Nat) : Int32 := if p < 3 then 1 else if p = 3 then 3 else 4
/-- node k of the tree is carried out by the instructions a .. b-1, with the variables B bound, and is of kind t -/
def gr_Im (xo xa xt xp yo yn ya : Nat → Int32) (yp : Nat → Nat → Nat) (rk : Nat → Int32) (len nn : Nat) : Nat → (Nat → Prop) → Nat → Nat → Nat → Int32 → Prop
  | 0 => fun _ _ _ _ _ => False
  | f + 1 => fun B k a b t => k < nn ∧ a < b ∧ b ≤ len ∧ (
      (yo k = 0 ∧ b = a + 1 ∧ xo a = 0 ∧ xa a = yn k ∧ t = 1) ∨
      (yo k = 3 ∧ b = a + 1 ∧ xo a = 3 ∧ t = 3) ∨
      (yo k = 19 ∧ b = a + 1 ∧ xo a = 19 ∧ t = 3) ∨
      (∃ v, v < 3 ∧ yo k = 4 ∧ yn k = nI v ∧ b = a + 1 ∧ xo a = 4 ∧ xa a = nI v ∧ B v ∧ t = 3) ∨
      (∃ p c, p < 6 ∧ b = c + 1 ∧ (yo k = 1 ∨ yo k = 2) ∧ yn k = nI p ∧ gr_Im xo xa xt xp yo yn ya yp rk len nn f B (yp k 0) a c 3 ∧ xo c = yo k ∧ xa c = nI p ∧ xp c = ya k ∧ t = gr_pk p) ∨
      (∃ c, b = c + 1 ∧ (yo k = 12 ∧ t = 2 ∨ yo k = 23 ∧ t = 1) ∧ gr_Im xo xa xt xp yo yn ya yp rk len nn f B (yp k 0) a c t ∧ xo c = yo k) ∨
      (∃ r c, r < 6 ∧ b = c + 1 ∧ yo k = 5 ∧ yn k = nI r ∧ gr_Im xo xa xt xp yo yn ya yp rk len nn f B (yp k 0) a c 3 ∧ xo c = 5 ∧ xa c = nI r ∧ xp c = ya k ∧ rk r = t ∧ (t = 1 ∨ t = 2)) ∨
      (∃ s m c t1 t2, 13 ≤ s ∧ s ≤ 18 ∧ b = c + 1 ∧ yo k = nI s ∧ gr_Im xo xa xt xp yo yn ya yp rk len nn f B (yp k 0) a m t1 ∧ gr_Im xo xa xt xp yo yn ya yp rk len nn f B (yp k 1) m c t2 ∧ xo c = nI s ∧ xp c = ya k ∧ t = (if s ≤ 14 then 2 else 1)) ∨
      (∃ m, (yo k = 10 ∨ yo k = 11) ∧ gr_Im xo xa xt xp yo yn ya yp rk len nn f B (yp k 0) a m 2 ∧ xo m = yo k ∧ xt m = nI b ∧ gr_Im xo xa xt xp yo yn ya yp rk len nn f B (yp k 1) (m + 1) b 2 ∧ t = 2) ∨
      (∃ m m2, yo k = 8 ∧ gr_Im xo xa xt xp yo yn ya yp rk len nn f B (yp k 0) a m 2 ∧ xo m = 8 ∧ xt m = nI (m2 + 1) ∧ gr_Im xo xa xt xp yo yn ya yp rk len nn f B (yp k 1) (m + 1) m2 t ∧ xo m2 = 9 ∧ xt m2 = nI b ∧ gr_Im xo xa xt xp yo yn ya yp rk len nn f B (yp k 2) (m2 + 1) b t) ∨
      (∃ s v m c, 20 ≤ s ∧ s ≤ 22 ∧ v < 3 ∧ b = c + 1 ∧ yo k = nI s ∧ yn k = nI v ∧ ¬ B v ∧ gr_Im xo xa xt xp yo yn ya yp rk len nn f B (yp k 0) a m 4 ∧ xo m = nI s ∧ xa m = nI v ∧ xt m = nI b ∧ xp m = ya k ∧ gr_Im xo xa xt xp yo yn ya yp rk len nn f (fun w => w = v ∨ B w) (yp k 1) (m + 1) c t ∧ xo c = 24 ∧ xa c = nI m ∧ xp c = ya k ∧ t = (if s = 22 then 1 else 2)))
/-- rule q: its instructions and its nodes belong together -/
def gr_Q (q : Nat) (rk rl ro ra rt rp rn op nm ay prt : Nat → Int32) : Prop :=
  ∃ (len nn f : Nat) (xo xa xt xp yo yn ya : Nat → Int32) (yp : Nat → Nat → Nat), 0 < len ∧ len ≤ 40 ∧ nn ≤ 40 ∧ rl q = nI len ∧ rn q = nI nn ∧
    (∀ j, j < len → ro (q * 40 + j) = xo j ∧ ra (q * 40 + j) = xa j ∧ rt (q * 40 + j) = xt j ∧ rp (q * 40 + j) = xp j) ∧
    (∀ j, j < nn → op (q * 40 + j) = yo j ∧ nm (q * 40 + j) = yn j ∧ ay (q * 40 + j) = ya j) ∧
    (∀ j i, j < nn → i < gr_ar (yo j) → prt ((q * 40 + j) * 3 + i) = nI (q * 40 + yp j i)) ∧
    (∀ v, v < 6 → ((∃ c, c < len ∧ xo c = 5 ∧ xa c = nI v) ↔ ∃ j, j < nn ∧ yo j = 5 ∧ yn j = nI v)) ∧
    gr_Im xo xa xt xp yo yn ya yp rk len nn f (fun _ => False) 0 0 len (rk q)
def gr_U (rk rl ro ra rt rp rn op nm ay prt : Nat → Int32) : Prop :=
  ∀ q, q < 6 → (rk q = 0 ∧ rl q = 0) ∨ ((rk q = 1 ∨ rk q = 2) ∧ gr_Q q rk rl ro ra rt rp rn op nm ay prt)
/-- the objects -/
def gr_O (o : Nat) (cls num lnk lsz lit prp : Nat → Int32) : Prop :=
  o ≤ 8 ∧ (∀ i, i < o → ∃ c, c < 3 ∧ cls i = nI c) ∧ (∀ i p, i < 8 → p < 3 → prp (i * 4 + p) = num (i * 3 + p)) ∧ (∀ i, i < 8 → prp (i * 4 + 3) = lnk i) ∧
  (∀ i, i < o → lnk i = -1 ∨ ∃ t, t < o ∧ lnk i = nI t) ∧ (∀ l, l < 16 → ∃ s, s ≤ 4 ∧ lsz l = nI s ∧ ∀ j, j < s → ∃ t, t < o ∧ lit (l * 4 + j) = nI t)
/-- a token that may stand -/
def gr_tk (k v : Int32) : Prop := ∃ t, t < 23 ∧ k = nI t ∧ (t = 1 ∨ t = 2 ∨ t = 5 → ∃ x, x < 6 ∧ v = nI x) ∧ (t = 4 ∨ 20 ≤ t → ∃ x, x < 3 ∧ v = nI x)
def gr_T (n : Nat) (tk tv : Nat → Int32) : Prop := n ≤ 40 ∧ ∀ i, i < n → gr_tk (tk i) (tv i)
def i_Rel (_k : Nat) (u : SX) (v : SY) : Prop := ∃ (o n : Nat) (cp lc sc kc dp vc er ep uu nds sts sp lv ret out : Int32) (cls num lnk lsz lit fb tk tv rk rl ro ra rt rp oo co sk kd fr fn fi vs ll li lt prp opd rn op nm ay prt ylo yhi sN sP sX sK it vr : Nat → Int32),
  u = (nI o, nI n, cp, lc, sc, kc, dp, vc, er, ep, uu, cls, num, lnk, lsz, lit, fb, tk, tv, rk, rl, ro, ra, rt, rp, oo, co, sk, kd, fr, fn, fi, vs, ll, li, lt) ∧ v = (nI o, nI n, cp, nds, sts, er, ep, uu, sp, lv, ret, out, cls, prp, lit, lsz, fb, tk, tv, opd, rk, rn, op, nm, ay, prt, ylo, yhi, sN, sP, sX, sK, it, vr) ∧ gr_O o cls num lnk lsz lit prp ∧ gr_T n tk tv ∧ gr_U rk rl ro ra rt rp rn op nm ay prt
theorem gr_mk {k o n : Nat} {cp lc sc kc dp vc er ep uu nds sts sp lv ret out : Int32} {cls num lnk lsz lit fb tk tv rk rl ro ra rt rp oo co sk kd fr fn fi vs ll li lt prp opd rn op nm ay prt ylo yhi sN sP sX sK it vr : Nat → Int32} (hO : gr_O o cls num lnk lsz lit prp) (hT : gr_T n tk tv) (hU : gr_U rk rl ro ra rt rp rn op nm ay prt) : i_Rel k (nI o, nI n, cp, lc, sc, kc, dp, vc, er, ep, uu, cls, num, lnk, lsz, lit, fb, tk, tv, rk, rl, ro, ra, rt, rp, oo, co, sk, kd, fr, fn, fi, vs, ll, li, lt) (nI o, nI n, cp, nds, sts, er, ep, uu, sp, lv, ret, out, cls, prp, lit, lsz, fb, tk, tv, opd, rk, rn, op, nm, ay, prt, ylo, yhi, sN, sP, sX, sK, it, vr) :=
  ⟨o, n, cp, lc, sc, kc, dp, vc, er, ep, uu, nds, sts, sp, lv, ret, out, cls, num, lnk, lsz, lit, fb, tk, tv, rk, rl, ro, ra, rt, rp, oo, co, sk, kd, fr, fn, fi, vs, ll, li, lt, prp, opd, rn, op, nm, ay, prt, ylo, yhi, sN, sP, sX, sK, it, vr, rfl, rfl, hO, hT, hU⟩
theorem gr_el {k : Nat} {u : SX} {v : SY} {P : SX → SY → Prop} (I : i_Rel k u v) (h : ∀ (o n : Nat) (cp lc sc kc dp vc er ep uu nds sts sp lv ret out : Int32) (cls num lnk lsz lit fb tk tv rk rl ro ra rt rp oo co sk kd fr fn fi vs ll li lt prp opd rn op nm ay prt ylo yhi sN sP sX sK it vr : Nat → Int32), gr_O o cls num lnk lsz lit prp → gr_T n tk tv → gr_U rk rl ro ra rt rp rn op nm ay prt → P (nI o, nI n, cp, lc, sc, kc, dp, vc, er, ep, uu, cls, num, lnk, lsz, lit, fb, tk, tv, rk, rl, ro, ra, rt, rp, oo, co, sk, kd, fr, fn, fi, vs, ll, li, lt) (nI o, nI n, cp, nds, sts, er, ep, uu, sp, lv, ret, out, cls, prp, lit, lsz, fb, tk, tv, opd, rk, rn, op, nm, ay, prt, ylo, yhi, sN, sP, sX, sK, it, vr)) : P u v := by
  obtain ⟨o, n, cp, lc, sc, kc, dp, vc, er, ep, uu, nds, sts, sp, lv, ret, out, cls, num, lnk, lsz, lit, fb, tk, tv, rk, rl, ro, ra, rt, rp, oo, co, sk, kd, fr, fn, fi, vs, ll, li, lt, prp, opd, rn, op, nm, ay, prt, ylo, yhi, sN, sP, sX, sK, it, vr, rfl, rfl, hO, hT, hU⟩ := I
  exact h _ _ _ _ _ _ _ _ _ _ _ _ _ _ _ _ _ _ _ _ _ _ _ _ _ _ _ _ _ _ _ _ _ _ _ _ _ _ _ _ _ _ _ _ _ _ _ _ _ _ _ _ _ _ _ _ _ hO hT hU
theorem i_up {k : Nat} {u : SX} {v : SY} (h : i_Rel k u v) : i_Rel (k + 4) u v := h
end
section
theorem gr_ge {x : Int32} {b : Nat} (hb : b < 2 ^ 31) (h : nI b ≤ x) : ∃ j, b ≤ j ∧ j < 2 ^ 31 ∧ x = nI j := by
  have h0 : ¬ x < 0 := fun z => absurd (Int32.lt_of_le_of_lt h z) (nI_pos hb)
  obtain ⟨j, hj, rfl⟩ := nI_of h0
  exact ⟨j, (nI_leI hb hj).1 h, hj, rfl⟩
theorem gr_m1 {j : Nat} (hj : j < 2 ^ 31) : ¬ nI j = -1 := by
  intro h
  have h2 : (nI j).toInt = (-1 : Int32).toInt := by rw [h]
  rw [nI_toInt hj, show (-1 : Int32).toInt = -1 from rfl] at h2
  omega
theorem gr_mul (a b : Nat) {y : Int32} (hy : y = nI b) : nI a * y = nI (a * b) := by rw [hy, pk_mul]
theorem gr_lin (a m p : Nat) {y : Int32} (hy : y = nI m) {z : Int32} (hz : z = nI p) : nI a * y + z = nI (a * m + p) := by rw [gr_mul a m hy, hz, nI_add]
theorem gr_list (i p : Nat) (hp : 4 ≤ p) : nI i * 2 + nI p - 4 = nI (i * 2 + p - 4) := by
  rw [show nI i * 2 + nI p = nI (i * 2 + p) from gr_lin i 2 p rfl rfl, show (4 : Int32) = nI 4 from rfl, pk_sub (by omega)]
theorem i_vc0 : wpX_init (fun u => wpY_init (fun v => i_Rel 0 u v)) :=
  gr_mk (k := 0) (o := 0) (n := 0) ⟨by omega, fun i h => absurd h (by omega), fun _ _ _ _ => rfl, fun _ _ => rfl, fun i h => absurd h (by omega), fun l _ => ⟨0, by omega, rfl, fun j h => absurd h (by omega)⟩⟩ ⟨by omega, fun i h => absurd h (by omega)⟩ (fun q _ => Or.inl ⟨rfl, rfl⟩)
theorem i_vc_object {k : Nat} {u : SX} {v : SY} (I : i_Rel k u v) (hk : k + 4 ≤ 2048) (v1 : Int32) : wpX_object (fun r u' => wpY_object (fun r' v' => r' = r ∧ i_Rel (k + 4) u' v') v v1) u v1 := by
  refine gr_el (P := fun u v => wpX_object (fun r u' => wpY_object (fun r' v' => r' = r ∧ i_Rel (k + 4) u' v') v v1) u v1) I ?_
  intro o n cp lc sc kc dp vc er ep uu nds sts sp lv ret out cls num lnk lsz lit fb tk tv rk rl ro ra rt rp oo co sk kd fr fn fi vs ll li lt prp opd rn op nm ay prt ylo yhi sN sP sX sK it vr hO hT hU
  obtain ⟨ho, h1, h2, h3, h4, h5⟩ := hO
  rcases pk_ix v1 (n := 3) (by omega) with h | h | ⟨c, hc, rfl⟩
  · exact br_t h (br_t rfl (br_t h ⟨rfl, gr_mk ⟨ho, h1, h2, h3, h4, h5⟩ hT hU⟩))
  · obtain ⟨j, hj, hj2, rfl⟩ := gr_ge (by omega) h
    exact br_f (nI_pos hj2) (br_t (nI_le hj hj2) (br_t rfl (br_f (nI_pos hj2) (br_t (nI_lt (a := 2) hj hj2) ⟨rfl, gr_mk ⟨ho, h1, h2, h3, h4, h5⟩ hT hU⟩))))
  · have hcl : (nI o).toNatClampNeg = o := nI_clamp (by omega)
    have e4 : nI o * 4 + 3 = nI (o * 4 + 3) := gr_lin o 4 3 rfl rfl
    by_cases h8 : o < 8
    · refine br_f (nI_pos (by omega)) (br_f (nI_ge (b := 3) hc (by decide)) (br_f (by decide) (br_t (nI_lt (b := 8) h8 (by decide)) ⟨vp_in_nI h8 (by decide), fun a ea => ⟨vp_in_nI h8 (by decide), fun b eb d ed => ?_⟩⟩)))
      refine br_f (nI_pos (by omega)) (br_f (nI_nlt (a := 2) (by omega) (by omega)) (br_f (fun z => absurd ((nI_eq (b := 8) (by omega) (by decide)).1 z) (by omega)) ⟨vp_in_nI h8 (by decide), fun a' ea' => ⟨by rw [e4]; exact vp_in_nI (by omega) (by decide), fun b' eb' d' ed' => ⟨?_, ?_⟩⟩⟩))
      · rw [ed', nI_1, nI_pred]
      · rw [ea, eb, ed, ea', eb', ed', hcl, e4, nI_clamp (by omega), nI_1]
        refine gr_mk ⟨by omega, fun i hi => ?_, fun i p hi hp => ?_, fun i hi => ?_, fun i hi => ?_, fun l hl => ?_⟩ hT hU
        · by_cases hio : i = o
          · exact ⟨c, hc, by rw [hio]; exact pk_us⟩
          · rw [pk_un hio]; exact h1 i (by omega)
        · rw [pk_un (by omega)]; exact h2 i p hi hp
        · by_cases hio : i = o
          · rw [hio]; exact pk_us.trans pk_us.symm
          · rw [pk_un hio, pk_un (by omega)]; exact h3 i hi
        · by_cases hio : i = o
          · exact Or.inl (by rw [hio]; exact pk_us)
          · rw [pk_un hio]
            rcases h4 i (by omega) with z | ⟨t, ht, z⟩
            · exact Or.inl z
            · exact Or.inr ⟨t, by omega, z⟩
        · obtain ⟨s, hs, e, hl2⟩ := h5 l hl
          exact ⟨s, hs, e, fun j hj => by obtain ⟨t, ht, z⟩ := hl2 j hj; exact ⟨t, by omega, z⟩⟩
    · have : o = 8 := by omega
      exact br_f (nI_pos (by omega)) (br_f (nI_ge (b := 3) hc (by decide)) (br_f (by decide) (br_f (nI_nlt (b := 8) (by omega) (by omega)) (br_f (nI_pos (by omega)) (br_f (nI_nlt (a := 2) (by omega) (by omega)) (br_t (by rw [this]; rfl) ⟨rfl, gr_mk ⟨ho, h1, h2, h3, h4, h5⟩ hT hU⟩))))))
/-- an argument that is no object, or one -/
theorem gr_obj (o : Nat) (ho : o ≤ 8) (x : Int32) : (x < 0 ∨ (¬ x < 0 ∧ nI o ≤ x)) ∨ ∃ i, i < o ∧ x = nI i := by
  rcases pk_ix x (n := o) (by omega) with h | h | h
  · exact Or.inl (Or.inl h)
  · obtain ⟨j, hj, hj2, rfl⟩ := gr_ge (by omega) h
    exact Or.inl (Or.inr ⟨nI_pos hj2, h⟩)
  · exact Or.inr h
theorem gr_br {c d A B : Prop} (h : c ∨ (¬ c ∧ d)) (a : A) : (c → A) ∧ (¬ c → ((d → A) ∧ (¬ d → B))) := ⟨fun _ => a, fun z => ⟨fun _ => a, fun y => absurd (h.resolve_left z).2 y⟩⟩
theorem i_vc_set {k : Nat} {u : SX} {v : SY} (I : i_Rel k u v) (hk : k + 4 ≤ 2048) (v1 : Int32) (v2 : Int32) (v3 : Int32) : wpX_set (fun r u' => wpY_set (fun r' v' => r' = r ∧ i_Rel (k + 4) u' v') v v1 v2 v3) u v1 v2 v3 := by
  refine gr_el (P := fun u v => wpX_set (fun r u' => wpY_set (fun r' v' => r' = r ∧ i_Rel (k + 4) u' v') v v1 v2 v3) u v1 v2 v3) I ?_
  intro o n cp lc sc kc dp vc er ep uu nds sts sp lv ret out cls num lnk lsz lit fb tk tv rk rl ro ra rt rp oo co sk kd fr fn fi vs ll li lt prp opd rn op nm ay prt ylo yhi sN sP sX sK it vr hO hT hU
  obtain ⟨ho, h1, h2, h3, h4, h5⟩ := hO
  have R : i_Rel (k + 4) (nI o, nI n, cp, lc, sc, kc, dp, vc, er, ep, uu, cls, num, lnk, lsz, lit, fb, tk, tv, rk, rl, ro, ra, rt, rp, oo, co, sk, kd, fr, fn, fi, vs, ll, li, lt) (nI o, nI n, cp, nds, sts, er, ep, uu, sp, lv, ret, out, cls, prp, lit, lsz, fb, tk, tv, opd, rk, rn, op, nm, ay, prt, ylo, yhi, sN, sP, sX, sK, it, vr) := gr_mk ⟨ho, h1, h2, h3, h4, h5⟩ hT hU
  rcases gr_obj o ho v1 with h | ⟨i, hi, rfl⟩
  · exact gr_br h (br_t rfl (gr_br h (br_t rfl ⟨rfl, R⟩)))
  · have n0 : ¬ nI i < 0 := nI_pos (by omega)
    have n1 : ¬ nI o ≤ nI i := nI_ge hi (by omega)
    rcases pk_ix v2 (n := 3) (by omega) with h | h | ⟨p, hp, rfl⟩
    · exact br_f n0 (br_f n1 (br_f (by decide) (br_t h (br_f n0 (br_f n1 (br_f (by decide) (br_t h ⟨rfl, R⟩)))))))
    · obtain ⟨j, hj, hj2, rfl⟩ := gr_ge (by omega) h
      exact br_f n0 (br_f n1 (br_f (by decide) (br_f (nI_pos hj2) (br_f (nI_nlt (b := 3) hj hj2) (br_f n0 (br_f n1 (br_f (by decide) (br_f (nI_pos hj2) (br_f (nI_ge (b := j) (a := 2) hj hj2) ⟨rfl, R⟩)))))))))
    · have e3 : nI i * 3 + nI p = nI (i * 3 + p) := gr_lin i 3 p rfl rfl
      have e4 : nI i * 4 + nI p = nI (i * 4 + p) := gr_lin i 4 p rfl rfl
      refine br_f n0 (br_f n1 (br_f (by decide) (br_f (nI_pos (by omega)) (br_t (nI_lt (b := 3) hp (by decide)) ⟨by rw [e3]; exact vp_in_nI (by omega) (by decide), fun a ea => ?_⟩))))
      refine br_f n0 (br_f n1 (br_f (by decide) (br_f (nI_pos (by omega)) (br_t (nI_le (b := 2) (by omega) (by decide)) ⟨by rw [e4]; exact vp_in_nI (by omega) (by decide), fun a' ea' => ⟨rfl, ?_⟩⟩))))
      rw [ea, ea', e3, e4, nI_clamp (by omega), nI_clamp (by omega)]
      refine gr_mk ⟨ho, h1, fun i' p' hi' hp' => ?_, fun i' hi' => ?_, h4, h5⟩ hT hU
      · by_cases z : i' * 4 + p' = i * 4 + p
        · have z2 : i' * 3 + p' = i * 3 + p := by omega
          rw [z, z2]; exact pk_us.trans pk_us.symm
        · rw [pk_un z, pk_un (by omega)]; exact h2 i' p' hi' hp'
      · rw [pk_un (by omega)]; exact h3 i' hi' 
theorem gr_nb (r : Int32) (h : r = 0 ∨ r = 1) : narrow .boolean (.int r) = .int r := by
  rcases h with rfl | rfl
  · exact lw_bz_n 0
  · exact lw_bz_n 1
theorem i_vc_link {k : Nat} {u : SX} {v : SY} (I : i_Rel k u v) (hk : k + 4 ≤ 2048) (v1 : Int32) (v2 : Int32) (v3 : Int32) : wpX_link (fun r u' => wpY_link (fun r' v' => r' = r ∧ i_Rel (k + 4) u' v') v v1 v2 v3) u v1 v2 v3 := by
  refine gr_el (P := fun u v => wpX_link (fun r u' => wpY_link (fun r' v' => r' = r ∧ i_Rel (k + 4) u' v') v v1 v2 v3) u v1 v2 v3) I ?_
  intro o n cp lc sc kc dp vc er ep uu nds sts sp lv ret out cls num lnk lsz lit fb tk tv rk rl ro ra rt rp oo co sk kd fr fn fi vs ll li lt prp opd rn op nm ay prt ylo yhi sN sP sX sK it vr hO hT hU
  obtain ⟨ho, h1, h2, h3, h4, h5⟩ := hO
  have R : i_Rel (k + 4) (nI o, nI n, cp, lc, sc, kc, dp, vc, er, ep, uu, cls, num, lnk, lsz, lit, fb, tk, tv, rk, rl, ro, ra, rt, rp, oo, co, sk, kd, fr, fn, fi, vs, ll, li, lt) (nI o, nI n, cp, nds, sts, er, ep, uu, sp, lv, ret, out, cls, prp, lit, lsz, fb, tk, tv, opd, rk, rn, op, nm, ay, prt, ylo, yhi, sN, sP, sX, sK, it, vr) := gr_mk ⟨ho, h1, h2, h3, h4, h5⟩ hT hU
  rcases gr_obj o ho v1 with h | ⟨i, hi, rfl⟩
  · exact gr_br h (br_t rfl (gr_br h (br_t rfl ⟨rfl, R⟩)))
  have n0 : ¬ nI i < 0 := nI_pos (by omega)
  have n1 : ¬ nI o ≤ nI i := nI_ge hi (by omega)
  by_cases h30 : v2 < 3
  · exact br_f n0 (br_f n1 (br_f (by decide) (br_t h30 (br_f n0 (br_f n1 (br_f (by decide) (br_t h30 ⟨rfl, R⟩)))))))
  obtain ⟨p, hp3, hp31, rfl⟩ := gr_ge (b := 3) (by omega) (Int32.not_lt.mp h30)
  by_cases hp6 : 6 ≤ p
  · exact br_f n0 (br_f n1 (br_f (by decide) (br_f h30 (br_f (nI_nlt (b := 6) hp6 hp31) (br_f n0 (br_f n1 (br_f (by decide) (br_f h30 (br_t (nI_lt (a := 5) hp6 hp31) ⟨rfl, R⟩)))))))))
  have m6 : nI p < 6 := nI_lt (b := 6) (by omega) (by decide)
  have m5 : ¬ 5 < nI p := nI_nlt (a := 5) (by omega) (by omega)
  have fin : (v3 = -1 ∨ ∃ t, t < o ∧ v3 = nI t) → wX_link_36 (fun r u' => wpY_link (fun r' v' => r' = r ∧ i_Rel (k + 4) u' v') (nI o, nI n, cp, nds, sts, er, ep, uu, sp, lv, ret, out, cls, prp, lit, lsz, fb, tk, tv, opd, rk, rn, op, nm, ay, prt, ylo, yhi, sN, sP, sX, sK, it, vr) (nI i) (nI p) v3) (nI i) (nI p) v3 (nI o) (nI n) cp lc sc kc dp vc er ep uu cls num lnk lsz lit fb tk tv rk rl ro ra rt rp oo co sk kd fr fn fi vs ll li lt := by
    intro ht
    have yl : ∀ post : Int32 → SY → Prop, wY_link_33 post (nI i) (nI p) v3 (nI o) (nI n) (cp) nds sts (er) (ep) (uu) sp lv ret out (cls) prp (lit) (lsz) (fb) (tk) (tv) opd (rk) rn op nm ay prt ylo yhi sN sP sX sK it vr → wpY_link post (nI o, nI n, cp, nds, sts, er, ep, uu, sp, lv, ret, out, cls, prp, lit, lsz, fb, tk, tv, opd, rk, rn, op, nm, ay, prt, ylo, yhi, sN, sP, sX, sK, it, vr) (nI i) (nI p) v3 := by
      intro post H
      refine br_f n0 (br_f n1 (br_f (by decide) (br_f h30 (br_f m5 ?_))))
      rcases ht with rfl | ⟨t, ht, rfl⟩
      · exact br_t rfl H
      · exact br_f (gr_m1 (by omega)) (br_f (nI_pos (by omega)) (br_f (nI_ge ht (by omega)) (br_f (by decide) H)))
    by_cases hp : p = 3
    · subst hp
      have e4 : nI i * 4 + 3 = nI (i * 4 + 3) := gr_lin i 4 3 rfl rfl
      refine br_t rfl ⟨vp_in_nI (by omega) (by decide), fun a ea => yl _ (br_t rfl ⟨by rw [e4]; exact vp_in_nI (by omega) (by decide), fun b eb => ⟨rfl, ?_⟩⟩)⟩
      rw [ea, eb, e4, nI_clamp (by omega), nI_clamp (by omega)]
      refine gr_mk ⟨ho, h1, fun i' p' hi' hp' => ?_, fun i' hi' => ?_, fun i' hi' => ?_, h5⟩ hT hU
      · rw [pk_un (by omega)]; exact h2 i' p' hi' hp'
      · by_cases z : i' = i
        · rw [z]; exact pk_us.trans pk_us.symm
        · rw [pk_un z, pk_un (by omega)]; exact h3 i' hi'
      · by_cases z : i' = i
        · rw [z, pk_us]; exact ht
        · rw [pk_un z]; exact h4 i' hi'
    · have np : ¬ nI p = 3 := fun z => hp ((nI_eq (b := 3) (by omega) (by decide)).1 z)
      have el : nI i * 2 + nI p - 4 = nI (i * 2 + p - 4) := gr_list i p (by omega)
      have hl : i * 2 + p - 4 < 16 := by omega
      have cl : (nI (i * 2 + p - 4)).toNatClampNeg = i * 2 + p - 4 := nI_clamp (by omega)
      refine br_f np ?_
      show (v3 = -1 → _) ∧ (¬ v3 = -1 → _)
      rw [el]
      rcases ht with rfl | ⟨t, ht, rfl⟩
      · refine br_t rfl ⟨vp_in_nI hl (by decide), fun a ea => ⟨gr_nb _ (Or.inr rfl), yl _ (br_f np (nm_r el (br_t rfl ⟨vp_in_nI hl (by decide), fun b eb => ⟨rfl, ?_⟩⟩)))⟩⟩
        rw [ea, eb, cl]
        refine gr_mk ⟨ho, h1, h2, h3, h4, fun l hl => ?_⟩ hT hU
        by_cases z : l = i * 2 + p - 4
        · exact ⟨0, by omega, by rw [z]; exact pk_us, fun j hj => absurd hj (by omega)⟩
        · rw [pk_un z]; exact h5 l hl
      · have nt : ¬ nI t = -1 := gr_m1 (by omega)
        obtain ⟨s, hs, es, hs2⟩ := h5 _ hl
        have e8 : nI (i * 2 + p - 4) * 4 + nI s = nI ((i * 2 + p - 4) * 4 + s) := gr_lin _ 4 s rfl rfl
        by_cases s4 : s = 4
        · have l4 : lsz (nI (i * 2 + p - 4)).toNatClampNeg = 4 := by rw [cl, es, s4]; rfl
          exact br_f nt ⟨vp_in_nI hl (by decide), nm_r l4 (br_f (by decide) ⟨gr_nb _ (Or.inl rfl), yl _ (br_f np (nm_r el (br_f nt ⟨vp_in_nI hl (by decide), br_t l4 ⟨rfl, R⟩⟩)))⟩)⟩
        · have ls : lsz (nI (i * 2 + p - 4)).toNatClampNeg = nI s := by rw [cl, es]
          have ns : ¬ nI s = 4 := fun z => s4 ((nI_eq (b := 4) (by omega) (by decide)).1 z)
          refine br_f nt ⟨vp_in_nI hl (by decide), nm_r ls (br_t (nI_lt (b := 4) (by omega) (by decide)) ⟨by rw [e8]; exact vp_in_nI (by omega) (by decide), fun a ea => ⟨vp_in_nI hl (by decide), fun b eb => ⟨gr_nb _ (Or.inr rfl), yl _ (br_f np (nm_r el (br_f nt ⟨vp_in_nI hl (by decide), br_f (by rw [ls]; exact ns) ⟨vp_in_nI hl (by decide), by rw [ls, e8]; exact vp_in_nI (by omega) (by decide), fun a' ea' => ⟨vp_in_nI hl (by decide), vp_in_nI hl (by decide), fun b' eb' => ⟨rfl, ?_⟩⟩⟩⟩)))⟩⟩⟩)⟩
          rw [ea, eb, ea', eb', ls, cl, e8, nI_clamp (by omega), nI_1]
          refine gr_mk ⟨ho, h1, h2, h3, h4, fun l hl => ?_⟩ hT hU
          by_cases z : l = i * 2 + p - 4
          · refine ⟨s + 1, by omega, by rw [z]; exact pk_us, fun j hj => ?_⟩
            rw [z]
            by_cases zj : j = s
            · exact ⟨t, ht, by rw [zj]; exact pk_us⟩
            · rw [pk_un (by omega)]; exact hs2 j (by omega)
          · obtain ⟨s', hs', es', hs2'⟩ := h5 l hl
            exact ⟨s', hs', by rw [pk_un z]; exact es', fun j hj => by rw [pk_un (by omega)]; exact hs2' j hj⟩
  refine br_f n0 (br_f n1 (br_f (by decide) (br_f h30 (br_t m6 ?_))))
  by_cases t1 : v3 = -1
  · exact br_t t1 (fin (Or.inl t1))
  · refine br_f t1 ?_
    rcases gr_obj o ho v3 with h | ⟨t, ht, rfl⟩
    · exact gr_br h (br_t rfl (br_f n0 (br_f n1 (br_f (by decide) (br_f h30 (br_f m5 (br_f t1 (gr_br h (br_t rfl ⟨rfl, R⟩)))))))))
    · exact br_f (nI_pos (by omega)) (br_f (nI_ge ht (by omega)) (br_f (by decide) (fin (Or.inr ⟨t, ht, rfl⟩))))
theorem i_vc_allow {k : Nat} {u : SX} {v : SY} (I : i_Rel k u v) (hk : k + 4 ≤ 2048) (v1 : Int32) (v2 : Int32) (v3 : Int32) : wpX_allow (fun r u' => wpY_allow (fun r' v' => r' = r ∧ i_Rel (k + 4) u' v') v v1 v2 (lw_bz v3)) u v1 v2 (lw_bz v3) := by
  refine gr_el (P := fun u v => wpX_allow (fun r u' => wpY_allow (fun r' v' => r' = r ∧ i_Rel (k + 4) u' v') v v1 v2 (lw_bz v3)) u v1 v2 (lw_bz v3)) I ?_
  intro o n cp lc sc kc dp vc er ep uu nds sts sp lv ret out cls num lnk lsz lit fb tk tv rk rl ro ra rt rp oo co sk kd fr fn fi vs ll li lt prp opd rn op nm ay prt ylo yhi sN sP sX sK it vr hO hT hU
  have R : i_Rel (k + 4) (nI o, nI n, cp, lc, sc, kc, dp, vc, er, ep, uu, cls, num, lnk, lsz, lit, fb, tk, tv, rk, rl, ro, ra, rt, rp, oo, co, sk, kd, fr, fn, fi, vs, ll, li, lt) (nI o, nI n, cp, nds, sts, er, ep, uu, sp, lv, ret, out, cls, prp, lit, lsz, fb, tk, tv, opd, rk, rn, op, nm, ay, prt, ylo, yhi, sN, sP, sX, sK, it, vr) := gr_mk hO hT hU
  rcases pk_ix v1 (n := 3) (by omega) with h | h | ⟨c, hc, rfl⟩
  · exact br_t h (br_t rfl (br_t h ⟨rfl, R⟩))
  · obtain ⟨j, hj, hj2, rfl⟩ := gr_ge (by omega) h
    exact br_f (nI_pos hj2) (br_t (nI_le hj hj2) (br_t rfl (br_f (nI_pos hj2) (br_t (nI_lt (a := 2) hj hj2) ⟨rfl, R⟩))))
  have c0 : ¬ nI c < 0 := nI_pos (by omega)
  have c3 : ¬ 3 ≤ nI c := nI_ge (b := 3) hc (by decide)
  have c2 : ¬ 2 < nI c := nI_nlt (a := 2) (by omega) (by omega)
  rcases pk_ix v2 (n := 6) (by omega) with h | h | ⟨p, hp, rfl⟩
  · exact br_f c0 (br_f c3 (br_f (by decide) (br_t h (br_f c0 (br_f c2 (br_t h ⟨rfl, R⟩))))))
  · obtain ⟨j, hj, hj2, rfl⟩ := gr_ge (by omega) h
    exact br_f c0 (br_f c3 (br_f (by decide) (br_f (nI_pos hj2) (br_f (nI_nlt (b := 6) hj hj2) (br_f c0 (br_f c2 (br_f (nI_pos hj2) (br_f (nI_ge (b := j) (a := 5) hj hj2) ⟨rfl, R⟩))))))))
  · have e6 : nI c * 6 + nI p = nI (c * 6 + p) := gr_lin c 6 p rfl rfl
    have i6 : vp_in (nI c * 6 + nI p) 18 := by rw [e6]; exact vp_in_nI (by omega) (by decide)
    have p0 : ¬ nI p < 0 := nI_pos (by omega)
    have p6 : nI p < 6 := nI_lt (b := 6) hp (by decide)
    have p5 : nI p ≤ 5 := nI_le (b := 5) (by omega) (by decide)
    by_cases z : lw_bz v3 = 0
    · refine br_f c0 (br_f c3 (br_f (by decide) (br_f p0 (br_t p6 (br_t z ⟨i6, fun a ea => br_f c0 (br_f c2 (br_f p0 (br_t p5 (br_t z ⟨i6, fun b eb => ⟨rfl, ?_⟩⟩))))⟩)))))
      rw [ea, eb]; exact gr_mk hO hT hU
    · refine br_f c0 (br_f c3 (br_f (by decide) (br_f p0 (br_t p6 (br_f z ⟨i6, fun a ea => br_f c0 (br_f c2 (br_f p0 (br_t p5 (br_f z ⟨i6, fun b eb => ⟨rfl, ?_⟩⟩))))⟩)))))
      rw [ea, eb]; exact gr_mk hO hT hU
theorem gr_xv0 (post : Int32 → Prop) (u : SX) (v : Int32) (h1 : post 1) : wpX_isValueOf post u 0 v :=
  br_t (by decide) (h1)
theorem gr_xv1 (post : Int32 → Prop) (u : SX) (v : Int32) (h1 : (∃ x, x < 6 ∧ v = nI x) → post 1) (h0 : (v < 0 ∨ (¬ v < 0 ∧ 6 ≤ v)) → post 0) : wpX_isValueOf post u 1 v := by
  have H : (v < 0 → post 0) ∧ (¬ v < 0 → (((6 : Int32) ≤ v → post 0) ∧ (¬ (6 : Int32) ≤ v → post 1))) := by
    rcases pk_ix v (n := 6) (by omega) with h | h | ⟨x, hx, rfl⟩
    · exact br_t h (h0 (Or.inl h))
    · obtain ⟨j, hj, hj2, rfl⟩ := gr_ge (by omega) h
      exact br_f (nI_pos hj2) (br_t h (h0 (Or.inr ⟨nI_pos hj2, h⟩)))
    · exact br_f (nI_pos (by omega)) (br_f (nI_ge (b := 6) hx (by decide)) (h1 ⟨x, hx, rfl⟩))
  exact br_f (by decide) (br_f (by decide) (br_t (by decide) (H)))
theorem gr_xv2 (post : Int32 → Prop) (u : SX) (v : Int32) (h1 : (∃ x, x < 6 ∧ v = nI x) → post 1) (h0 : (v < 0 ∨ (¬ v < 0 ∧ 6 ≤ v)) → post 0) : wpX_isValueOf post u 2 v := by
  have H : (v < 0 → post 0) ∧ (¬ v < 0 → (((6 : Int32) ≤ v → post 0) ∧ (¬ (6 : Int32) ≤ v → post 1))) := by
    rcases pk_ix v (n := 6) (by omega) with h | h | ⟨x, hx, rfl⟩
    · exact br_t h (h0 (Or.inl h))
    · obtain ⟨j, hj, hj2, rfl⟩ := gr_ge (by omega) h
      exact br_f (nI_pos hj2) (br_t h (h0 (Or.inr ⟨nI_pos hj2, h⟩)))
    · exact br_f (nI_pos (by omega)) (br_f (nI_ge (b := 6) hx (by decide)) (h1 ⟨x, hx, rfl⟩))
  exact br_f (by decide) (br_f (by decide) (br_f (by decide) (br_t (by decide) (H))))
theorem gr_xv3 (post : Int32 → Prop) (u : SX) (v : Int32) (h1 : post 1) : wpX_isValueOf post u 3 v :=
  br_f (by decide) (br_f (by decide) (br_f (by decide) (br_f (by decide) (br_t (by decide) (h1)))))
theorem gr_xv4 (post : Int32 → Prop) (u : SX) (v : Int32) (h1 : (∃ x, x < 3 ∧ v = nI x) → post 1) (h0 : (v < 0 ∨ (¬ v < 0 ∧ 3 ≤ v)) → post 0) : wpX_isValueOf post u 4 v := by
  have H : (v < 0 → post 0) ∧ (¬ v < 0 → (((3 : Int32) ≤ v → post 0) ∧ (¬ (3 : Int32) ≤ v → post 1))) := by
    rcases pk_ix v (n := 3) (by omega) with h | h | ⟨x, hx, rfl⟩
    · exact br_t h (h0 (Or.inl h))
    · obtain ⟨j, hj, hj2, rfl⟩ := gr_ge (by omega) h
      exact br_f (nI_pos hj2) (br_t h (h0 (Or.inr ⟨nI_pos hj2, h⟩)))
    · exact br_f (nI_pos (by omega)) (br_f (nI_ge (b := 3) hx (by decide)) (h1 ⟨x, hx, rfl⟩))
  exact br_f (by decide) (br_f (by decide) (br_f (by decide) (br_f (by decide) (br_f (by decide) (br_t (by decide) (H))))))
theorem gr_xv5 (post : Int32 → Prop) (u : SX) (v : Int32) (h1 : (∃ x, x < 6 ∧ v = nI x) → post 1) (h0 : (v < 0 ∨ (¬ v < 0 ∧ 6 ≤ v)) → post 0) : wpX_isValueOf post u 5 v := by
  have H : (v < 0 → post 0) ∧ (¬ v < 0 → (((6 : Int32) ≤ v → post 0) ∧ (¬ (6 : Int32) ≤ v → post 1))) := by
    rcases pk_ix v (n := 6) (by omega) with h | h | ⟨x, hx, rfl⟩
    · exact br_t h (h0 (Or.inl h))
    · obtain ⟨j, hj, hj2, rfl⟩ := gr_ge (by omega) h
      exact br_f (nI_pos hj2) (br_t h (h0 (Or.inr ⟨nI_pos hj2, h⟩)))
    · exact br_f (nI_pos (by omega)) (br_f (nI_ge (b := 6) hx (by decide)) (h1 ⟨x, hx, rfl⟩))
  exact br_f (by decide) (br_f (by decide) (br_f (by decide) (br_f (by decide) (br_f (by decide) (br_f (by decide) (br_t (by decide) (H)))))))
theorem gr_xv6 (post : Int32 → Prop) (u : SX) (v : Int32) (h1 : post 1) : wpX_isValueOf post u 6 v :=
  br_f (by decide) (br_f (by decide) (br_f (by decide) (br_f (by decide) (br_f (by decide) (br_f (by decide) (br_f (by decide) (br_t (by decide) (h1))))))))
theorem gr_xv7 (post : Int32 → Prop) (u : SX) (v : Int32) (h1 : post 1) : wpX_isValueOf post u 7 v :=
  br_f (by decide) (br_f (by decide) (br_f (by decide) (br_f (by decide) (br_f (by decide) (br_f (by decide) (br_f (by decide) (br_f (by decide) (br_t (by decide) (h1)))))))))
theorem gr_xv8 (post : Int32 → Prop) (u : SX) (v : Int32) (h1 : post 1) : wpX_isValueOf post u 8 v :=
  br_f (by decide) (br_f (by decide) (br_f (by decide) (br_f (by decide) (br_f (by decide) (br_f (by decide) (br_f (by decide) (br_f (by decide) (br_f (by decide) (br_t (by decide) (h1))))))))))
theorem gr_xv9 (post : Int32 → Prop) (u : SX) (v : Int32) (h1 : post 1) : wpX_isValueOf post u 9 v :=
  br_f (by decide) (br_f (by decide) (br_f (by decide) (br_f (by decide) (br_f (by decide) (br_f (by decide) (br_f (by decide) (br_f (by decide) (br_f (by decide) (br_f (by decide) (br_t (by decide) (h1)))))))))))
theorem gr_xv10 (post : Int32 → Prop) (u : SX) (v : Int32) (h1 : post 1) : wpX_isValueOf post u 10 v :=
  br_f (by decide) (br_f (by decide) (br_f (by decide) (br_f (by decide) (br_f (by decide) (br_f (by decide) (br_f (by decide) (br_f (by decide) (br_f (by decide) (br_f (by decide) (br_f (by decide) (br_t (by decide) (h1))))))))))))
theorem gr_xv11 (post : Int32 → Prop) (u : SX) (v : Int32) (h1 : post 1) : wpX_isValueOf post u 11 v :=
  br_f (by decide) (br_f (by decide) (br_f (by decide) (br_f (by decide) (br_f (by decide) (br_f (by decide) (br_f (by decide) (br_f (by decide) (br_f (by decide) (br_f (by decide) (br_f (by decide) (br_f (by decide) (br_t (by decide) (h1)))))))))))))
theorem gr_xv12 (post : Int32 → Prop) (u : SX) (v : Int32) (h1 : post 1) : wpX_isValueOf post u 12 v :=
  br_f (by decide) (br_f (by decide) (br_f (by decide) (br_f (by decide) (br_f (by decide) (br_f (by decide) (br_f (by decide) (br_f (by decide) (br_f (by decide) (br_f (by decide) (br_f (by decide) (br_f (by decide) (br_f (by decide) (br_t (by decide) (h1))))))))))))))
theorem gr_xv13 (post : Int32 → Prop) (u : SX) (v : Int32) (h1 : post 1) : wpX_isValueOf post u 13 v :=
  br_f (by decide) (br_f (by decide) (br_f (by decide) (br_f (by decide) (br_f (by decide) (br_f (by decide) (br_f (by decide) (br_f (by decide) (br_f (by decide) (br_f (by decide) (br_f (by decide) (br_f (by decide) (br_f (by decide) (br_f (by decide) (br_t (by decide) (h1)))))))))))))))
theorem gr_xv14 (post : Int32 → Prop) (u : SX) (v : Int32) (h1 : post 1) : wpX_isValueOf post u 14 v :=
  br_f (by decide) (br_f (by decide) (br_f (by decide) (br_f (by decide) (br_f (by decide) (br_f (by decide) (br_f (by decide) (br_f (by decide) (br_f (by decide) (br_f (by decide) (br_f (by decide) (br_f (by decide) (br_f (by decide) (br_f (by decide) (br_f (by decide) (br_t (by decide) (h1))))))))))))))))
theorem gr_xv15 (post : Int32 → Prop) (u : SX) (v : Int32) (h1 : post 1) : wpX_isValueOf post u 15 v :=
  br_f (by decide) (br_f (by decide) (br_f (by decide) (br_f (by decide) (br_f (by decide) (br_f (by decide) (br_f (by decide) (br_f (by decide) (br_f (by decide) (br_f (by decide) (br_f (by decide) (br_f (by decide) (br_f (by decide) (br_f (by decide) (br_f (by decide) (br_f (by decide) (br_t (by decide) (h1)))))))))))))))))
theorem gr_xv16 (post : Int32 → Prop) (u : SX) (v : Int32) (h1 : post 1) : wpX_isValueOf post u 16 v :=
  br_f (by decide) (br_f (by decide) (br_f (by decide) (br_f (by decide) (br_f (by decide) (br_f (by decide) (br_f (by decide) (br_f (by decide) (br_f (by decide) (br_f (by decide) (br_f (by decide) (br_f (by decide) (br_f (by decide) (br_f (by decide) (br_f (by decide) (br_f (by decide) (br_f (by decide) (br_t (by decide) (h1))))))))))))))))))
theorem gr_xv17 (post : Int32 → Prop) (u : SX) (v : Int32) (h1 : post 1) : wpX_isValueOf post u 17 v :=
  br_f (by decide) (br_f (by decide) (br_f (by decide) (br_f (by decide) (br_f (by decide) (br_f (by decide) (br_f (by decide) (br_f (by decide) (br_f (by decide) (br_f (by decide) (br_f (by decide) (br_f (by decide) (br_f (by decide) (br_f (by decide) (br_f (by decide) (br_f (by decide) (br_f (by decide) (br_f (by decide) (br_t (by decide) (h1)))))))))))))))))))
theorem gr_xv18 (post : Int32 → Prop) (u : SX) (v : Int32) (h1 : post 1) : wpX_isValueOf post u 18 v :=
  br_f (by decide) (br_f (by decide) (br_f (by decide) (br_f (by decide) (br_f (by decide) (br_f (by decide) (br_f (by decide) (br_f (by decide) (br_f (by decide) (br_f (by decide) (br_f (by decide) (br_f (by decide) (br_f (by decide) (br_f (by decide) (br_f (by decide) (br_f (by decide) (br_f (by decide) (br_f (by decide) (br_f (by decide) (br_t (by decide) (h1))))))))))))))))))))
theorem gr_xv19 (post : Int32 → Prop) (u : SX) (v : Int32) (h1 : post 1) : wpX_isValueOf post u 19 v :=
  br_f (by decide) (br_f (by decide) (br_f (by decide) (br_f (by decide) (br_f (by decide) (br_f (by decide) (br_f (by decide) (br_f (by decide) (br_f (by decide) (br_f (by decide) (br_f (by decide) (br_f (by decide) (br_f (by decide) (br_f (by decide) (br_f (by decide) (br_f (by decide) (br_f (by decide) (br_f (by decide) (br_f (by decide) (br_f (by decide) (br_t (by decide) (h1)))))))))))))))))))))
theorem gr_xv20 (post : Int32 → Prop) (u : SX) (v : Int32) (h1 : (∃ x, x < 3 ∧ v = nI x) → post 1) (h0 : (v < 0 ∨ (¬ v < 0 ∧ 3 ≤ v)) → post 0) : wpX_isValueOf post u 20 v := by
  have H : (v < 0 → post 0) ∧ (¬ v < 0 → (((3 : Int32) ≤ v → post 0) ∧ (¬ (3 : Int32) ≤ v → post 1))) := by
    rcases pk_ix v (n := 3) (by omega) with h | h | ⟨x, hx, rfl⟩
    · exact br_t h (h0 (Or.inl h))
    · obtain ⟨j, hj, hj2, rfl⟩ := gr_ge (by omega) h
      exact br_f (nI_pos hj2) (br_t h (h0 (Or.inr ⟨nI_pos hj2, h⟩)))
    · exact br_f (nI_pos (by omega)) (br_f (nI_ge (b := 3) hx (by decide)) (h1 ⟨x, hx, rfl⟩))
  exact br_f (by decide) (br_f (by decide) (br_f (by decide) (br_f (by decide) (br_f (by decide) (br_f (by decide) (br_f (by decide) (br_f (by decide) (br_f (by decide) (br_f (by decide) (br_f (by decide) (br_f (by decide) (br_f (by decide) (br_f (by decide) (br_f (by decide) (br_f (by decide) (br_f (by decide) (br_f (by decide) (br_f (by decide) (br_f (by decide) (br_f (by decide) (br_t (by decide) (H))))))))))))))))))))))
theorem gr_xv21 (post : Int32 → Prop) (u : SX) (v : Int32) (h1 : (∃ x, x < 3 ∧ v = nI x) → post 1) (h0 : (v < 0 ∨ (¬ v < 0 ∧ 3 ≤ v)) → post 0) : wpX_isValueOf post u 21 v := by
  have H : (v < 0 → post 0) ∧ (¬ v < 0 → (((3 : Int32) ≤ v → post 0) ∧ (¬ (3 : Int32) ≤ v → post 1))) := by
    rcases pk_ix v (n := 3) (by omega) with h | h | ⟨x, hx, rfl⟩
    · exact br_t h (h0 (Or.inl h))
    · obtain ⟨j, hj, hj2, rfl⟩ := gr_ge (by omega) h
      exact br_f (nI_pos hj2) (br_t h (h0 (Or.inr ⟨nI_pos hj2, h⟩)))
    · exact br_f (nI_pos (by omega)) (br_f (nI_ge (b := 3) hx (by decide)) (h1 ⟨x, hx, rfl⟩))
  exact br_f (by decide) (br_f (by decide) (br_f (by decide) (br_f (by decide) (br_f (by decide) (br_f (by decide) (br_f (by decide) (br_f (by decide) (br_f (by decide) (br_f (by decide) (br_f (by decide) (br_f (by decide) (br_f (by decide) (br_f (by decide) (br_f (by decide) (br_f (by decide) (br_f (by decide) (br_f (by decide) (br_f (by decide) (br_f (by decide) (br_f (by decide) (br_f (by decide) (br_t (by decide) (H)))))))))))))))))))))))
theorem gr_xv22 (post : Int32 → Prop) (u : SX) (v : Int32) (h1 : (∃ x, x < 3 ∧ v = nI x) → post 1) (h0 : (v < 0 ∨ (¬ v < 0 ∧ 3 ≤ v)) → post 0) : wpX_isValueOf post u 22 v := by
  have H : (v < 0 → post 0) ∧ (¬ v < 0 → (((3 : Int32) ≤ v → post 0) ∧ (¬ (3 : Int32) ≤ v → post 1))) := by
    rcases pk_ix v (n := 3) (by omega) with h | h | ⟨x, hx, rfl⟩
    · exact br_t h (h0 (Or.inl h))
    · obtain ⟨j, hj, hj2, rfl⟩ := gr_ge (by omega) h
      exact br_f (nI_pos hj2) (br_t h (h0 (Or.inr ⟨nI_pos hj2, h⟩)))
    · exact br_f (nI_pos (by omega)) (br_f (nI_ge (b := 3) hx (by decide)) (h1 ⟨x, hx, rfl⟩))
  exact br_f (by decide) (br_f (by decide) (br_f (by decide) (br_f (by decide) (br_f (by decide) (br_f (by decide) (br_f (by decide) (br_f (by decide) (br_f (by decide) (br_f (by decide) (br_f (by decide) (br_f (by decide) (br_f (by decide) (br_f (by decide) (br_f (by decide) (br_f (by decide) (br_f (by decide) (br_f (by decide) (br_f (by decide) (br_f (by decide) (br_f (by decide) (br_f (by decide) (br_f (by decide) (br_t (by decide) (H))))))))))))))))))))))))
theorem gr_tok_in {n : Nat} {tk tv : Nat → Int32} {t : Nat} {x : Int32} (hT : gr_T n tk tv) (hn : n < 40) (h : gr_tk (nI t) x) : gr_T (n + 1) (upd tk n (nI t)) (upd tv n x) := by
  refine ⟨by omega, fun i hi => ?_⟩
  by_cases z : i = n
  · rw [z, pk_us, pk_us]; exact h
  · rw [pk_un z, pk_un z]; exact hT.2 i (by omega)
theorem i_vc_token {k : Nat} {u : SX} {v : SY} (I : i_Rel k u v) (hk : k + 4 ≤ 2048) (v1 : Int32) (v2 : Int32) : wpX_token (fun r u' => wpY_token (fun r' v' => r' = r ∧ i_Rel (k + 4) u' v') v v1 v2) u v1 v2 := by
  refine gr_el (P := fun u v => wpX_token (fun r u' => wpY_token (fun r' v' => r' = r ∧ i_Rel (k + 4) u' v') v v1 v2) u v1 v2) I ?_
  intro o n cp lc sc kc dp vc er ep uu nds sts sp lv ret out cls num lnk lsz lit fb tk tv rk rl ro ra rt rp oo co sk kd fr fn fi vs ll li lt prp opd rn op nm ay prt ylo yhi sN sP sX sK it vr hO hT hU
  have R : i_Rel (k + 4) (nI o, nI n, cp, lc, sc, kc, dp, vc, er, ep, uu, cls, num, lnk, lsz, lit, fb, tk, tv, rk, rl, ro, ra, rt, rp, oo, co, sk, kd, fr, fn, fi, vs, ll, li, lt) (nI o, nI n, cp, nds, sts, er, ep, uu, sp, lv, ret, out, cls, prp, lit, lsz, fb, tk, tv, opd, rk, rn, op, nm, ay, prt, ylo, yhi, sN, sP, sX, sK, it, vr) := gr_mk hO hT hU
  have hn := hT.1
  rcases pk_ix v1 (n := 23) (by omega) with h | h | ⟨t, ht, rfl⟩
  · exact br_t h (br_t h ⟨rfl, R⟩)
  · obtain ⟨j, hj, hj2, rfl⟩ := gr_ge (by omega) h
    exact br_f (nI_pos hj2) (br_t (nI_lt (a := 22) hj hj2) (br_f (nI_pos hj2) (br_t (nI_lt (a := 22) hj hj2) ⟨rfl, R⟩)))
  have t0 : ¬ nI t < 0 := nI_pos (by omega)
  have t22 : ¬ 22 < nI t := nI_nlt (a := 22) (by omega) (by omega)
  by_cases h40 : n = 40
  · subst h40
    exact br_f t0 (br_f t22 (br_t (by decide) (br_f t0 (br_f t22 (br_t (by decide) ⟨rfl, R⟩)))))
  have x40 : ¬ 40 ≤ nI n := nI_ge (b := 40) (by omega) (by decide)
  have y40 : ¬ nI n = 40 := fun z => h40 ((nI_eq (b := 40) (by omega) (by decide)).1 z)
  have inn : vp_in (nI n) 40 := vp_in_nI (by omega) (by decide)
  have cl : (nI n).toNatClampNeg = n := nI_clamp (by omega)
  have FIN : gr_tk (nI t) v2 → ∀ a b c a' b' c', a = upd tk (nI n).toNatClampNeg (nI t) → b = upd tv (nI n).toNatClampNeg v2 → c = nI n + 1 → a' = upd tk (nI n).toNatClampNeg (nI t) → b' = upd tv (nI n).toNatClampNeg v2 → c' = nI n + 1 → i_Rel (k + 4) (nI o, c, cp, lc, sc, kc, dp, vc, er, ep, uu, cls, num, lnk, lsz, lit, fb, a, b, rk, rl, ro, ra, rt, rp, oo, co, sk, kd, fr, fn, fi, vs, ll, li, lt) (nI o, c', cp, nds, sts, er, ep, uu, sp, lv, ret, out, cls, prp, lit, lsz, fb, a', b', opd, rk, rn, op, nm, ay, prt, ylo, yhi, sN, sP, sX, sK, it, vr) := by
    intro hk a b c a' b' c' ea eb ec ea' eb' ec'
    rw [ea, eb, ec, ea', eb', ec', cl, nI_1]
    exact gr_mk hO (gr_tok_in hT (by omega) hk) hU
  refine br_f t0 (br_f t22 (br_f x40 ?_))
  have hc : t = 0 ∨ t = 1 ∨ t = 2 ∨ t = 3 ∨ t = 4 ∨ t = 5 ∨ t = 6 ∨ t = 7 ∨ t = 8 ∨ t = 9 ∨ t = 10 ∨ t = 11 ∨ t = 12 ∨ t = 13 ∨ t = 14 ∨ t = 15 ∨ t = 16 ∨ t = 17 ∨ t = 18 ∨ t = 19 ∨ t = 20 ∨ t = 21 ∨ t = 22 := by omega
  rcases hc with rfl | rfl | rfl | rfl | rfl | rfl | rfl | rfl | rfl | rfl | rfl | rfl | rfl | rfl | rfl | rfl | rfl | rfl | rfl | rfl | rfl | rfl | rfl
  · exact gr_xv0 _ _ _ (br_f (by decide) ⟨inn, fun a ea => ⟨inn, fun b eb c ec => br_f t0 (br_f t22 (br_f y40 (br_f (by decide) (br_f (by decide) (br_f (by decide) (br_f (by decide) (br_t (by decide) (br_t (by decide) ⟨inn, fun a' ea' => ⟨inn, fun b' eb' c' ec' => ⟨rfl, FIN ⟨0, by omega, rfl, fun z => absurd z (by omega), fun z => absurd z (by omega)⟩ _ _ _ _ _ _ ea eb ec ea' eb' ec'⟩⟩⟩))))))))⟩⟩)
  · refine gr_xv1 _ _ _ (fun ⟨x, hx, ev⟩ => ?_) (fun h => ?_)
    · subst ev
      exact br_f (by decide) ⟨inn, fun a ea => ⟨inn, fun b eb c ec => br_f t0 (br_f t22 (br_f y40 (br_t (by decide) (br_f (by decide) (br_f (nI_pos (by omega)) (br_t (nI_le (b := 5) (by omega) (by decide)) ⟨inn, fun a' ea' => ⟨inn, fun b' eb' c' ec' => ⟨rfl, FIN ⟨1, by omega, rfl, fun z => ⟨x, hx, rfl⟩, fun z => absurd z (by omega)⟩ _ _ _ _ _ _ ea eb ec ea' eb' ec'⟩⟩⟩))))))⟩⟩
    · refine br_t rfl (br_f t0 (br_f t22 (br_f y40 (br_t (by decide) (br_f (by decide) ?_)))))
      rcases h with h | ⟨h, h'⟩
      · exact br_t h ⟨rfl, R⟩
      · obtain ⟨j, hj, hj2, rfl⟩ := gr_ge (b := 6) (by omega) h'
        exact br_f h (br_f (nI_ge (a := 5) hj hj2) ⟨rfl, R⟩)
  · refine gr_xv2 _ _ _ (fun ⟨x, hx, ev⟩ => ?_) (fun h => ?_)
    · subst ev
      exact br_f (by decide) ⟨inn, fun a ea => ⟨inn, fun b eb c ec => br_f t0 (br_f t22 (br_f y40 (br_f (by decide) (br_t (by decide) (br_f (by decide) (br_f (nI_pos (by omega)) (br_t (nI_le (b := 5) (by omega) (by decide)) ⟨inn, fun a' ea' => ⟨inn, fun b' eb' c' ec' => ⟨rfl, FIN ⟨2, by omega, rfl, fun z => ⟨x, hx, rfl⟩, fun z => absurd z (by omega)⟩ _ _ _ _ _ _ ea eb ec ea' eb' ec'⟩⟩⟩)))))))⟩⟩
    · refine br_t rfl (br_f t0 (br_f t22 (br_f y40 (br_f (by decide) (br_t (by decide) (br_f (by decide) ?_))))))
      rcases h with h | ⟨h, h'⟩
      · exact br_t h ⟨rfl, R⟩
      · obtain ⟨j, hj, hj2, rfl⟩ := gr_ge (b := 6) (by omega) h'
        exact br_f h (br_f (nI_ge (a := 5) hj hj2) ⟨rfl, R⟩)
  · exact gr_xv3 _ _ _ (br_f (by decide) ⟨inn, fun a ea => ⟨inn, fun b eb c ec => br_f t0 (br_f t22 (br_f y40 (br_f (by decide) (br_f (by decide) (br_f (by decide) (br_f (by decide) (br_t (by decide) (br_t (by decide) ⟨inn, fun a' ea' => ⟨inn, fun b' eb' c' ec' => ⟨rfl, FIN ⟨3, by omega, rfl, fun z => absurd z (by omega), fun z => absurd z (by omega)⟩ _ _ _ _ _ _ ea eb ec ea' eb' ec'⟩⟩⟩))))))))⟩⟩)
  · refine gr_xv4 _ _ _ (fun ⟨x, hx, ev⟩ => ?_) (fun h => ?_)
    · subst ev
      exact br_f (by decide) ⟨inn, fun a ea => ⟨inn, fun b eb c ec => br_f t0 (br_f t22 (br_f y40 (br_f (by decide) (br_f (by decide) (br_f (by decide) (br_t (by decide) (br_f (by decide) (br_f (nI_pos (by omega)) (br_t (nI_le (b := 2) (by omega) (by decide)) ⟨inn, fun a' ea' => ⟨inn, fun b' eb' c' ec' => ⟨rfl, FIN ⟨4, by omega, rfl, fun z => absurd z (by omega), fun _ => ⟨x, hx, rfl⟩⟩ _ _ _ _ _ _ ea eb ec ea' eb' ec'⟩⟩⟩)))))))))⟩⟩
    · refine br_t rfl (br_f t0 (br_f t22 (br_f y40 (br_f (by decide) (br_f (by decide) (br_f (by decide) (br_t (by decide) (br_f (by decide) ?_))))))))
      rcases h with h | ⟨h, h'⟩
      · exact br_t h ⟨rfl, R⟩
      · obtain ⟨j, hj, hj2, rfl⟩ := gr_ge (b := 3) (by omega) h'
        exact br_f h (br_f (nI_ge (a := 2) hj hj2) ⟨rfl, R⟩)
  · refine gr_xv5 _ _ _ (fun ⟨x, hx, ev⟩ => ?_) (fun h => ?_)
    · subst ev
      exact br_f (by decide) ⟨inn, fun a ea => ⟨inn, fun b eb c ec => br_f t0 (br_f t22 (br_f y40 (br_f (by decide) (br_f (by decide) (br_t (by decide) (br_f (by decide) (br_f (nI_pos (by omega)) (br_t (nI_le (b := 5) (by omega) (by decide)) ⟨inn, fun a' ea' => ⟨inn, fun b' eb' c' ec' => ⟨rfl, FIN ⟨5, by omega, rfl, fun z => ⟨x, hx, rfl⟩, fun z => absurd z (by omega)⟩ _ _ _ _ _ _ ea eb ec ea' eb' ec'⟩⟩⟩))))))))⟩⟩
    · refine br_t rfl (br_f t0 (br_f t22 (br_f y40 (br_f (by decide) (br_f (by decide) (br_t (by decide) (br_f (by decide) ?_)))))))
      rcases h with h | ⟨h, h'⟩
      · exact br_t h ⟨rfl, R⟩
      · obtain ⟨j, hj, hj2, rfl⟩ := gr_ge (b := 6) (by omega) h'
        exact br_f h (br_f (nI_ge (a := 5) hj hj2) ⟨rfl, R⟩)
  · exact gr_xv6 _ _ _ (br_f (by decide) ⟨inn, fun a ea => ⟨inn, fun b eb c ec => br_f t0 (br_f t22 (br_f y40 (br_f (by decide) (br_f (by decide) (br_f (by decide) (br_f (by decide) (br_t (by decide) (br_t (by decide) ⟨inn, fun a' ea' => ⟨inn, fun b' eb' c' ec' => ⟨rfl, FIN ⟨6, by omega, rfl, fun z => absurd z (by omega), fun z => absurd z (by omega)⟩ _ _ _ _ _ _ ea eb ec ea' eb' ec'⟩⟩⟩))))))))⟩⟩)
  · exact gr_xv7 _ _ _ (br_f (by decide) ⟨inn, fun a ea => ⟨inn, fun b eb c ec => br_f t0 (br_f t22 (br_f y40 (br_f (by decide) (br_f (by decide) (br_f (by decide) (br_f (by decide) (br_t (by decide) (br_t (by decide) ⟨inn, fun a' ea' => ⟨inn, fun b' eb' c' ec' => ⟨rfl, FIN ⟨7, by omega, rfl, fun z => absurd z (by omega), fun z => absurd z (by omega)⟩ _ _ _ _ _ _ ea eb ec ea' eb' ec'⟩⟩⟩))))))))⟩⟩)
  · exact gr_xv8 _ _ _ (br_f (by decide) ⟨inn, fun a ea => ⟨inn, fun b eb c ec => br_f t0 (br_f t22 (br_f y40 (br_f (by decide) (br_f (by decide) (br_f (by decide) (br_f (by decide) (br_t (by decide) (br_t (by decide) ⟨inn, fun a' ea' => ⟨inn, fun b' eb' c' ec' => ⟨rfl, FIN ⟨8, by omega, rfl, fun z => absurd z (by omega), fun z => absurd z (by omega)⟩ _ _ _ _ _ _ ea eb ec ea' eb' ec'⟩⟩⟩))))))))⟩⟩)
  · exact gr_xv9 _ _ _ (br_f (by decide) ⟨inn, fun a ea => ⟨inn, fun b eb c ec => br_f t0 (br_f t22 (br_f y40 (br_f (by decide) (br_f (by decide) (br_f (by decide) (br_f (by decide) (br_t (by decide) (br_t (by decide) ⟨inn, fun a' ea' => ⟨inn, fun b' eb' c' ec' => ⟨rfl, FIN ⟨9, by omega, rfl, fun z => absurd z (by omega), fun z => absurd z (by omega)⟩ _ _ _ _ _ _ ea eb ec ea' eb' ec'⟩⟩⟩))))))))⟩⟩)
  · exact gr_xv10 _ _ _ (br_f (by decide) ⟨inn, fun a ea => ⟨inn, fun b eb c ec => br_f t0 (br_f t22 (br_f y40 (br_f (by decide) (br_f (by decide) (br_f (by decide) (br_f (by decide) (br_t (by decide) (br_t (by decide) ⟨inn, fun a' ea' => ⟨inn, fun b' eb' c' ec' => ⟨rfl, FIN ⟨10, by omega, rfl, fun z => absurd z (by omega), fun z => absurd z (by omega)⟩ _ _ _ _ _ _ ea eb ec ea' eb' ec'⟩⟩⟩))))))))⟩⟩)
  · exact gr_xv11 _ _ _ (br_f (by decide) ⟨inn, fun a ea => ⟨inn, fun b eb c ec => br_f t0 (br_f t22 (br_f y40 (br_f (by decide) (br_f (by decide) (br_f (by decide) (br_f (by decide) (br_t (by decide) (br_t (by decide) ⟨inn, fun a' ea' => ⟨inn, fun b' eb' c' ec' => ⟨rfl, FIN ⟨11, by omega, rfl, fun z => absurd z (by omega), fun z => absurd z (by omega)⟩ _ _ _ _ _ _ ea eb ec ea' eb' ec'⟩⟩⟩))))))))⟩⟩)
  · exact gr_xv12 _ _ _ (br_f (by decide) ⟨inn, fun a ea => ⟨inn, fun b eb c ec => br_f t0 (br_f t22 (br_f y40 (br_f (by decide) (br_f (by decide) (br_f (by decide) (br_f (by decide) (br_t (by decide) (br_t (by decide) ⟨inn, fun a' ea' => ⟨inn, fun b' eb' c' ec' => ⟨rfl, FIN ⟨12, by omega, rfl, fun z => absurd z (by omega), fun z => absurd z (by omega)⟩ _ _ _ _ _ _ ea eb ec ea' eb' ec'⟩⟩⟩))))))))⟩⟩)
  · exact gr_xv13 _ _ _ (br_f (by decide) ⟨inn, fun a ea => ⟨inn, fun b eb c ec => br_f t0 (br_f t22 (br_f y40 (br_f (by decide) (br_f (by decide) (br_f (by decide) (br_f (by decide) (br_t (by decide) (br_t (by decide) ⟨inn, fun a' ea' => ⟨inn, fun b' eb' c' ec' => ⟨rfl, FIN ⟨13, by omega, rfl, fun z => absurd z (by omega), fun z => absurd z (by omega)⟩ _ _ _ _ _ _ ea eb ec ea' eb' ec'⟩⟩⟩))))))))⟩⟩)
  · exact gr_xv14 _ _ _ (br_f (by decide) ⟨inn, fun a ea => ⟨inn, fun b eb c ec => br_f t0 (br_f t22 (br_f y40 (br_f (by decide) (br_f (by decide) (br_f (by decide) (br_f (by decide) (br_t (by decide) (br_t (by decide) ⟨inn, fun a' ea' => ⟨inn, fun b' eb' c' ec' => ⟨rfl, FIN ⟨14, by omega, rfl, fun z => absurd z (by omega), fun z => absurd z (by omega)⟩ _ _ _ _ _ _ ea eb ec ea' eb' ec'⟩⟩⟩))))))))⟩⟩)
  · exact gr_xv15 _ _ _ (br_f (by decide) ⟨inn, fun a ea => ⟨inn, fun b eb c ec => br_f t0 (br_f t22 (br_f y40 (br_f (by decide) (br_f (by decide) (br_f (by decide) (br_f (by decide) (br_t (by decide) (br_t (by decide) ⟨inn, fun a' ea' => ⟨inn, fun b' eb' c' ec' => ⟨rfl, FIN ⟨15, by omega, rfl, fun z => absurd z (by omega), fun z => absurd z (by omega)⟩ _ _ _ _ _ _ ea eb ec ea' eb' ec'⟩⟩⟩))))))))⟩⟩)
  · exact gr_xv16 _ _ _ (br_f (by decide) ⟨inn, fun a ea => ⟨inn, fun b eb c ec => br_f t0 (br_f t22 (br_f y40 (br_f (by decide) (br_f (by decide) (br_f (by decide) (br_f (by decide) (br_t (by decide) (br_t (by decide) ⟨inn, fun a' ea' => ⟨inn, fun b' eb' c' ec' => ⟨rfl, FIN ⟨16, by omega, rfl, fun z => absurd z (by omega), fun z => absurd z (by omega)⟩ _ _ _ _ _ _ ea eb ec ea' eb' ec'⟩⟩⟩))))))))⟩⟩)
  · exact gr_xv17 _ _ _ (br_f (by decide) ⟨inn, fun a ea => ⟨inn, fun b eb c ec => br_f t0 (br_f t22 (br_f y40 (br_f (by decide) (br_f (by decide) (br_f (by decide) (br_f (by decide) (br_t (by decide) (br_t (by decide) ⟨inn, fun a' ea' => ⟨inn, fun b' eb' c' ec' => ⟨rfl, FIN ⟨17, by omega, rfl, fun z => absurd z (by omega), fun z => absurd z (by omega)⟩ _ _ _ _ _ _ ea eb ec ea' eb' ec'⟩⟩⟩))))))))⟩⟩)
  · exact gr_xv18 _ _ _ (br_f (by decide) ⟨inn, fun a ea => ⟨inn, fun b eb c ec => br_f t0 (br_f t22 (br_f y40 (br_f (by decide) (br_f (by decide) (br_f (by decide) (br_f (by decide) (br_t (by decide) (br_t (by decide) ⟨inn, fun a' ea' => ⟨inn, fun b' eb' c' ec' => ⟨rfl, FIN ⟨18, by omega, rfl, fun z => absurd z (by omega), fun z => absurd z (by omega)⟩ _ _ _ _ _ _ ea eb ec ea' eb' ec'⟩⟩⟩))))))))⟩⟩)
  · exact gr_xv19 _ _ _ (br_f (by decide) ⟨inn, fun a ea => ⟨inn, fun b eb c ec => br_f t0 (br_f t22 (br_f y40 (br_f (by decide) (br_f (by decide) (br_f (by decide) (br_f (by decide) (br_t (by decide) (br_t (by decide) ⟨inn, fun a' ea' => ⟨inn, fun b' eb' c' ec' => ⟨rfl, FIN ⟨19, by omega, rfl, fun z => absurd z (by omega), fun z => absurd z (by omega)⟩ _ _ _ _ _ _ ea eb ec ea' eb' ec'⟩⟩⟩))))))))⟩⟩)
  · refine gr_xv20 _ _ _ (fun ⟨x, hx, ev⟩ => ?_) (fun h => ?_)
    · subst ev
      exact br_f (by decide) ⟨inn, fun a ea => ⟨inn, fun b eb c ec => br_f t0 (br_f t22 (br_f y40 (br_f (by decide) (br_f (by decide) (br_f (by decide) (br_f (by decide) (br_f (by decide) (br_f (by decide) (br_f (nI_pos (by omega)) (br_t (nI_le (b := 2) (by omega) (by decide)) ⟨inn, fun a' ea' => ⟨inn, fun b' eb' c' ec' => ⟨rfl, FIN ⟨20, by omega, rfl, fun z => absurd z (by omega), fun _ => ⟨x, hx, rfl⟩⟩ _ _ _ _ _ _ ea eb ec ea' eb' ec'⟩⟩⟩))))))))))⟩⟩
    · refine br_t rfl (br_f t0 (br_f t22 (br_f y40 (br_f (by decide) (br_f (by decide) (br_f (by decide) (br_f (by decide) (br_f (by decide) (br_f (by decide) ?_)))))))))
      rcases h with h | ⟨h, h'⟩
      · exact br_t h ⟨rfl, R⟩
      · obtain ⟨j, hj, hj2, rfl⟩ := gr_ge (b := 3) (by omega) h'
        exact br_f h (br_f (nI_ge (a := 2) hj hj2) ⟨rfl, R⟩)
  · refine gr_xv21 _ _ _ (fun ⟨x, hx, ev⟩ => ?_) (fun h => ?_)
    · subst ev
      exact br_f (by decide) ⟨inn, fun a ea => ⟨inn, fun b eb c ec => br_f t0 (br_f t22 (br_f y40 (br_f (by decide) (br_f (by decide) (br_f (by decide) (br_f (by decide) (br_f (by decide) (br_f (by decide) (br_f (nI_pos (by omega)) (br_t (nI_le (b := 2) (by omega) (by decide)) ⟨inn, fun a' ea' => ⟨inn, fun b' eb' c' ec' => ⟨rfl, FIN ⟨21, by omega, rfl, fun z => absurd z (by omega), fun _ => ⟨x, hx, rfl⟩⟩ _ _ _ _ _ _ ea eb ec ea' eb' ec'⟩⟩⟩))))))))))⟩⟩
    · refine br_t rfl (br_f t0 (br_f t22 (br_f y40 (br_f (by decide) (br_f (by decide) (br_f (by decide) (br_f (by decide) (br_f (by decide) (br_f (by decide) ?_)))))))))
      rcases h with h | ⟨h, h'⟩
      · exact br_t h ⟨rfl, R⟩
      · obtain ⟨j, hj, hj2, rfl⟩ := gr_ge (b := 3) (by omega) h'
        exact br_f h (br_f (nI_ge (a := 2) hj hj2) ⟨rfl, R⟩)
  · refine gr_xv22 _ _ _ (fun ⟨x, hx, ev⟩ => ?_) (fun h => ?_)
    · subst ev
      exact br_f (by decide) ⟨inn, fun a ea => ⟨inn, fun b eb c ec => br_f t0 (br_f t22 (br_f y40 (br_f (by decide) (br_f (by decide) (br_f (by decide) (br_f (by decide) (br_f (by decide) (br_f (by decide) (br_f (nI_pos (by omega)) (br_t (nI_le (b := 2) (by omega) (by decide)) ⟨inn, fun a' ea' => ⟨inn, fun b' eb' c' ec' => ⟨rfl, FIN ⟨22, by omega, rfl, fun z => absurd z (by omega), fun _ => ⟨x, hx, rfl⟩⟩ _ _ _ _ _ _ ea eb ec ea' eb' ec'⟩⟩⟩))))))))))⟩⟩
    · refine br_t rfl (br_f t0 (br_f t22 (br_f y40 (br_f (by decide) (br_f (by decide) (br_f (by decide) (br_f (by decide) (br_f (by decide) (br_f (by decide) ?_)))))))))
      rcases h with h | ⟨h, h'⟩
      · exact br_t h ⟨rfl, R⟩
      · obtain ⟨j, hj, hj2, rfl⟩ := gr_ge (b := 3) (by omega) h'
        exact br_f h (br_f (nI_ge (a := 2) hj hj2) ⟨rfl, R⟩)
theorem i_vc_wipe {k : Nat} {u : SX} {v : SY} (I : i_Rel k u v) (hk : k + 4 ≤ 2048) : wpX_wipe (fun r u' => wpY_wipe (fun r' v' => r' = r ∧ i_Rel (k + 4) u' v') v) u := by
  refine gr_el (P := fun u v => wpX_wipe (fun r u' => wpY_wipe (fun r' v' => r' = r ∧ i_Rel (k + 4) u' v') v) u) I ?_
  intro o n cp lc sc kc dp vc er ep uu nds sts sp lv ret out cls num lnk lsz lit fb tk tv rk rl ro ra rt rp oo co sk kd fr fn fi vs ll li lt prp opd rn op nm ay prt ylo yhi sN sP sX sK it vr hO hT hU
  exact ⟨rfl, gr_mk (n := 0) hO ⟨by omega, fun i h => absurd h (by omega)⟩ hU⟩
theorem i_vc_place {k : Nat} {u : SX} {v : SY} (I : i_Rel k u v) (hk : k + 4 ≤ 2048) : wpX_place (fun r => wpY_place (fun r' => r' = r ∧ i_Rel (k + 4) u v) v) u := by
  refine gr_el (P := fun u v => wpX_place (fun r => wpY_place (fun r' => r' = r ∧ i_Rel (k + 4) u v) v) u) I ?_
  intro o n cp lc sc kc dp vc er ep uu nds sts sp lv ret out cls num lnk lsz lit fb tk tv rk rl ro ra rt rp oo co sk kd fr fn fi vs ll li lt prp opd rn op nm ay prt ylo yhi sN sP sX sK it vr hO hT hU
  exact ⟨rfl, gr_mk hO hT hU⟩
theorem i_vc_result {k : Nat} {u : SX} {v : SY} (I : i_Rel k u v) (hk : k + 4 ≤ 2048) : wpX_result (fun r => wpY_result (fun r' => r' = r ∧ i_Rel (k + 4) u v) v) u := by
  refine gr_el (P := fun u v => wpX_result (fun r => wpY_result (fun r' => r' = r ∧ i_Rel (k + 4) u v) v) u) I ?_
  intro o n cp lc sc kc dp vc er ep uu nds sts sp lv ret out cls num lnk lsz lit fb tk tv rk rl ro ra rt rp oo co sk kd fr fn fi vs ll li lt prp opd rn op nm ay prt ylo yhi sN sP sX sK it vr hO hT hU
  exact ⟨rfl, gr_mk hO hT hU⟩
theorem i_vc_errorAt {k : Nat} {u : SX} {v : SY} (I : i_Rel k u v) (hk : k + 4 ≤ 2048) : wpX_errorAt (fun r => wpY_errorAt (fun r' => r' = r ∧ i_Rel (k + 4) u v) v) u := by
  refine gr_el (P := fun u v => wpX_errorAt (fun r => wpY_errorAt (fun r' => r' = r ∧ i_Rel (k + 4) u v) v) u) I ?_
  intro o n cp lc sc kc dp vc er ep uu nds sts sp lv ret out cls num lnk lsz lit fb tk tv rk rl ro ra rt rp oo co sk kd fr fn fi vs ll li lt prp opd rn op nm ay prt ylo yhi sN sP sX sK it vr hO hT hU
  exact ⟨rfl, gr_mk hO hT hU⟩
theorem i_vc_used {k : Nat} {u : SX} {v : SY} (I : i_Rel k u v) (hk : k + 4 ≤ 2048) : wpX_used (fun r => wpY_used (fun r' => r' = r ∧ i_Rel (k + 4) u v) v) u := by
  refine gr_el (P := fun u v => wpX_used (fun r => wpY_used (fun r' => r' = r ∧ i_Rel (k + 4) u v) v) u) I ?_
  intro o n cp lc sc kc dp vc er ep uu nds sts sp lv ret out cls num lnk lsz lit fb tk tv rk rl ro ra rt rp oo co sk kd fr fn fi vs ll li lt prp opd rn op nm ay prt ylo yhi sN sP sX sK it vr hO hT hU
  exact ⟨rfl, gr_mk hO hT hU⟩
end
section
section
variable {K : Int32 → SX → Prop} {oc tc cp lc sc kc er ep : Int32} {cls num lnk lsz lit fb tk tv rk rl ro ra rt rp oo co sk kd fr fn fi vs ll li lt : Nat → Int32} {d w g : Nat}
theorem ex_push {v : Int32} (hw : w < 200) (h : K 1 (oc, tc, cp, lc, sc, kc, nI d, nI (w + 1), er, ep, nI g, cls, num, lnk, lsz, lit, fb, tk, tv, rk, rl, ro, ra, rt, rp, oo, co, sk, kd, fr, fn, fi, upd vs w v, ll, li, lt)) : wpX_pushValue K (oc, tc, cp, lc, sc, kc, nI d, nI w, er, ep, nI g, cls, num, lnk, lsz, lit, fb, tk, tv, rk, rl, ro, ra, rt, rp, oo, co, sk, kd, fr, fn, fi, vs, ll, li, lt) v := by
  refine ⟨vp_in_nI hw (by decide), nm_r (by rw [nI_clamp (by omega)]) (nm_r (nI_1 w) h)⟩
theorem ex_pop (hw : w < 200) (h : K (vs w) (oc, tc, cp, lc, sc, kc, nI d, nI w, er, ep, nI g, cls, num, lnk, lsz, lit, fb, tk, tv, rk, rl, ro, ra, rt, rp, oo, co, sk, kd, fr, fn, fi, vs, ll, li, lt)) : wpX_popValue K (oc, tc, cp, lc, sc, kc, nI d, nI (w + 1), er, ep, nI g, cls, num, lnk, lsz, lit, fb, tk, tv, rk, rl, ro, ra, rt, rp, oo, co, sk, kd, fr, fn, fi, vs, ll, li, lt) := by
  refine nm_r (nI_pred w) ⟨vp_in_nI hw (by decide), ?_⟩
  rw [nI_clamp (by omega)]
  exact h
theorem ex_enter {K : SX → Prop} {r x : Int32} (hd : d < 5) (h : K (oc, tc, cp, lc, sc, kc, nI (d + 1), nI w, er, ep, nI g, cls, num, lnk, lsz, lit, fb, tk, tv, rk, rl, ro, ra, rt, rp, oo, co, sk, kd, upd fr d r, upd fn d 0, upd fi d x, vs, ll, li, lt)) : wpX_enterRule K (oc, tc, cp, lc, sc, kc, nI d, nI w, er, ep, nI g, cls, num, lnk, lsz, lit, fb, tk, tv, rk, rl, ro, ra, rt, rp, oo, co, sk, kd, fr, fn, fi, vs, ll, li, lt) r x := by
  have c : (nI d).toNatClampNeg = d := nI_clamp (by omega)
  have i : vp_in (nI d) 5 := vp_in_nI hd (by decide)
  exact ⟨i, nm_r (by rw [c]) ⟨i, nm_r (by rw [c]) ⟨i, nm_r (by rw [c]) (nm_r (nI_1 d) h)⟩⟩⟩
theorem ex_rd_nul {p : Int32} (hw : w < 200) (hv : vs w = -1) (h : K 2 (oc, tc, cp, lc, sc, kc, nI d, nI w, er, ep, nI g, cls, num, lnk, lsz, lit, fb, tk, tv, rk, rl, ro, ra, rt, rp, oo, co, sk, kd, fr, fn, fi, vs, ll, li, lt)) : wpX_readProperty K (oc, tc, cp, lc, sc, kc, nI d, nI (w + 1), er, ep, nI g, cls, num, lnk, lsz, lit, fb, tk, tv, rk, rl, ro, ra, rt, rp, oo, co, sk, kd, fr, fn, fi, vs, ll, li, lt) 1 p := by
  unfold wpX_readProperty; refine ex_pop hw ?_
  exact br_t hv (br_t rfl h)
theorem ex_rd_saf {p : Nat} (hw : w < 200) (hp : p < 6) (hv : vs w = -1) (h : K 1 (oc, tc, cp, lc, sc, kc, nI d, nI (w + 1), er, ep, nI g, cls, num, lnk, lsz, lit, fb, tk, tv, rk, rl, ro, ra, rt, rp, oo, co, sk, kd, fr, fn, fi, upd vs w (if p < 3 then 0 else -1), ll, li, lt)) : wpX_readProperty K (oc, tc, cp, lc, sc, kc, nI d, nI (w + 1), er, ep, nI g, cls, num, lnk, lsz, lit, fb, tk, tv, rk, rl, ro, ra, rt, rp, oo, co, sk, kd, fr, fn, fi, vs, ll, li, lt) 2 (nI p) := by
  unfold wpX_readProperty; refine ex_pop hw ?_
  refine br_t hv (br_f (by decide) ?_)
  by_cases h3 : p < 3
  · rw [if_pos h3] at h
    exact br_f (nI_ge (b := 3) h3 (by decide)) (ex_push hw h)
  · rw [if_neg h3] at h
    refine br_t (nI_le (a := 3) (by omega) (by omega)) ?_
    by_cases h4 : nI p = 3
    · exact br_t h4 (ex_push hw h)
    · exact br_f h4 (ex_push hw h)
theorem ex_rd_den {p i c : Nat} {t : Int32} (hw : w < 200) (hp : p < 6) (hi : i < 8) (hv : vs w = nI i) (hc : c < 3) (ec : cls i = nI c) (hf : ¬ fb (c * 6 + p) = 0) (h : K 3 (oc, tc, cp, lc, sc, kc, nI d, nI w, er, ep, nI g, cls, num, lnk, lsz, lit, fb, tk, tv, rk, rl, ro, ra, rt, rp, oo, co, sk, kd, fr, fn, fi, vs, ll, li, lt)) : wpX_readProperty K (oc, tc, cp, lc, sc, kc, nI d, nI (w + 1), er, ep, nI g, cls, num, lnk, lsz, lit, fb, tk, tv, rk, rl, ro, ra, rt, rp, oo, co, sk, kd, fr, fn, fi, vs, ll, li, lt) t (nI p) := by
  unfold wpX_readProperty; refine ex_pop hw ?_
  rw [hv]
  have ci : (nI i).toNatClampNeg = i := nI_clamp (by omega)
  have e : cls (nI i).toNatClampNeg * 6 + nI p = nI (c * 6 + p) := by rw [ci, ec]; exact gr_lin c 6 p rfl rfl
  refine br_f (gr_m1 (by omega)) ⟨vp_in_nI hi (by decide), by rw [e]; exact vp_in_nI (by omega) (by decide), br_f ?_ h⟩
  rw [e, nI_clamp (by omega)]; exact hf
theorem ex_rd_ok {p i c : Nat} {t : Int32} (hw : w < 200) (hp : p < 6) (hi : i < 8) (hv : vs w = nI i) (hc : c < 3) (ec : cls i = nI c) (hf : fb (c * 6 + p) = 0) (h : K 1 (oc, tc, cp, lc, sc, kc, nI d, nI (w + 1), er, ep, nI g, cls, num, lnk, lsz, lit, fb, tk, tv, rk, rl, ro, ra, rt, rp, oo, co, sk, kd, fr, fn, fi, upd vs w (if p < 3 then num (i * 3 + p) else if p = 3 then lnk i else nI (i * 2 + p - 4)), ll, li, lt)) : wpX_readProperty K (oc, tc, cp, lc, sc, kc, nI d, nI (w + 1), er, ep, nI g, cls, num, lnk, lsz, lit, fb, tk, tv, rk, rl, ro, ra, rt, rp, oo, co, sk, kd, fr, fn, fi, vs, ll, li, lt) t (nI p) := by
  unfold wpX_readProperty; refine ex_pop hw ?_
  rw [hv]
  have ci : (nI i).toNatClampNeg = i := nI_clamp (by omega)
  have e : cls (nI i).toNatClampNeg * 6 + nI p = nI (c * 6 + p) := by rw [ci, ec]; exact gr_lin c 6 p rfl rfl
  refine br_f (gr_m1 (by omega)) ⟨vp_in_nI hi (by decide), by rw [e]; exact vp_in_nI (by omega) (by decide), br_t (by rw [e, nI_clamp (by omega)]; exact hf) ?_⟩
  by_cases h3 : p < 3
  · rw [if_pos h3] at h
    have e3 : nI i * 3 + nI p = nI (i * 3 + p) := gr_lin i 3 p rfl rfl
    refine br_f (nI_ge (b := 3) h3 (by decide)) ⟨by rw [e3]; exact vp_in_nI (by omega) (by decide), ?_⟩
    rw [e3, nI_clamp (by omega)]
    exact ex_push hw h
  · rw [if_neg h3] at h
    refine br_t (nI_le (a := 3) (by omega) (by omega)) ?_
    by_cases h4 : p = 3
    · rw [if_pos h4] at h
      refine br_t (by rw [h4]; rfl) ⟨vp_in_nI hi (by decide), ?_⟩
      rw [ci]
      exact ex_push hw h
    · rw [if_neg h4] at h
      refine br_f (fun z => h4 ((nI_eq (b := 3) (by omega) (by decide)).1 z)) ?_
      show wX_readProperty_102 K (nI i * 2 + nI p - 4) oc tc cp lc sc kc (nI d) (nI w) er ep (nI g) cls num lnk lsz lit fb tk tv rk rl ro ra rt rp oo co sk kd fr fn fi vs ll li lt
      rw [gr_list i p (by omega)]
      exact ex_push hw h
theorem ex_cl_nul {r : Int32} (hw : w < 200) (hv : vs w = -1) (h : K 2 (oc, tc, cp, lc, sc, kc, nI d, nI w, er, ep, nI g, cls, num, lnk, lsz, lit, fb, tk, tv, rk, rl, ro, ra, rt, rp, oo, co, sk, kd, fr, fn, fi, vs, ll, li, lt)) : wpX_callRule K (oc, tc, cp, lc, sc, kc, nI d, nI (w + 1), er, ep, nI g, cls, num, lnk, lsz, lit, fb, tk, tv, rk, rl, ro, ra, rt, rp, oo, co, sk, kd, fr, fn, fi, vs, ll, li, lt) r := by
  unfold wpX_callRule; refine ex_pop hw ?_
  exact (br_t hv h)
theorem ex_cl_deep {r : Int32} {i : Nat} (hw : w < 200) (hi : i < 8) (hv : vs w = nI i) (hd : d = 5) (h : K 5 (oc, tc, cp, lc, sc, kc, nI d, nI w, er, ep, nI g, cls, num, lnk, lsz, lit, fb, tk, tv, rk, rl, ro, ra, rt, rp, oo, co, sk, kd, fr, fn, fi, vs, ll, li, lt)) : wpX_callRule K (oc, tc, cp, lc, sc, kc, nI d, nI (w + 1), er, ep, nI g, cls, num, lnk, lsz, lit, fb, tk, tv, rk, rl, ro, ra, rt, rp, oo, co, sk, kd, fr, fn, fi, vs, ll, li, lt) r := by
  unfold wpX_callRule; refine ex_pop hw ?_
  exact (br_f (by rw [hv]; exact gr_m1 (by omega)) (br_f (by rw [hd]; decide) h))
theorem ex_cl_stop {r : Int32} {i : Nat} (hw : w < 200) (hi : i < 8) (hv : vs w = nI i) (hd : d < 5) (hg : g = 40) (h : K 6 (oc, tc, cp, lc, sc, kc, nI d, nI w, er, ep, nI g, cls, num, lnk, lsz, lit, fb, tk, tv, rk, rl, ro, ra, rt, rp, oo, co, sk, kd, fr, fn, fi, vs, ll, li, lt)) : wpX_callRule K (oc, tc, cp, lc, sc, kc, nI d, nI (w + 1), er, ep, nI g, cls, num, lnk, lsz, lit, fb, tk, tv, rk, rl, ro, ra, rt, rp, oo, co, sk, kd, fr, fn, fi, vs, ll, li, lt) r := by
  unfold wpX_callRule; refine ex_pop hw ?_
  exact (br_f (by rw [hv]; exact gr_m1 (by omega)) (br_t (nI_lt (b := 5) hd (by decide)) (br_f (by rw [hg]; decide) h)))
theorem ex_cl_ok {r : Int32} {i : Nat} (hw : w < 200) (hi : i < 8) (hv : vs w = nI i) (hd : d < 5) (hg : g < 40) (h : K 1 (oc, tc, cp, lc, sc, kc, nI (d + 1), nI w, er, ep, nI (g + 1), cls, num, lnk, lsz, lit, fb, tk, tv, rk, rl, ro, ra, rt, rp, oo, co, sk, kd, upd fr d r, upd fn d 0, upd fi d (nI i), vs, ll, li, lt)) : wpX_callRule K (oc, tc, cp, lc, sc, kc, nI d, nI (w + 1), er, ep, nI g, cls, num, lnk, lsz, lit, fb, tk, tv, rk, rl, ro, ra, rt, rp, oo, co, sk, kd, fr, fn, fi, vs, ll, li, lt) r := by
  unfold wpX_callRule; refine ex_pop hw ?_
  refine (br_f (by rw [hv]; exact gr_m1 (by omega)) (br_t (nI_lt (b := 5) hd (by decide)) (br_t (nI_lt (b := 40) hg (by decide)) (nm_r (nI_1 g) ?_))))
  rw [hv]
  exact ex_enter hd h
theorem ex_jump {i : Nat} {z : Int32} (hi : i < 280) (hd : 1 ≤ d) (hd5 : d ≤ 5) (hz : ¬ z = 0) (h : K 1 (oc, tc, cp, lc, sc, kc, nI d, nI w, er, ep, nI g, cls, num, lnk, lsz, lit, fb, tk, tv, rk, rl, ro, ra, rt, rp, oo, co, sk, kd, fr, upd fn (d - 1) (rt i), fi, vs, ll, li, lt)) : wX_branch_102 K (nI i) z oc tc cp lc sc kc (nI d) (nI w) er ep (nI g) cls num lnk lsz lit fb tk tv rk rl ro ra rt rp oo co sk kd fr fn fi vs ll li lt := by
  obtain ⟨e, rfl⟩ : ∃ e, d = e + 1 := ⟨d - 1, by omega⟩
  refine br_f hz ⟨vp_in_nI hi (by decide), ?_, ?_⟩
  · rw [nI_pred]; exact vp_in_nI (by omega) (by decide)
  · refine nm_r ?_ h
    rw [nI_pred, nI_clamp (by omega), nI_clamp (by omega)]; rfl
theorem ex_br9 {i : Nat} (hi : i < 280) (ho : ro i = 9) (hd : 1 ≤ d) (hd5 : d ≤ 5) (h : K 1 (oc, tc, cp, lc, sc, kc, nI d, nI w, er, ep, nI g, cls, num, lnk, lsz, lit, fb, tk, tv, rk, rl, ro, ra, rt, rp, oo, co, sk, kd, fr, upd fn (d - 1) (rt i), fi, vs, ll, li, lt)) : wpX_branch K (oc, tc, cp, lc, sc, kc, nI d, nI w, er, ep, nI g, cls, num, lnk, lsz, lit, fb, tk, tv, rk, rl, ro, ra, rt, rp, oo, co, sk, kd, fr, fn, fi, vs, ll, li, lt) (nI i) :=
  ⟨vp_in_nI hi (by decide), nm_r (e' := 9) (by rw [nI_clamp (by omega)]; exact ho) (br_t rfl (br_t rfl (br_f (by decide) (br_t rfl (br_t rfl (ex_jump hi hd hd5 (by decide) h))))))⟩

theorem ex_ask0 {i : Nat} (hi : i < 280) (ho : ro i = 8) (hd : 1 ≤ d) (hd5 : d ≤ 5) (hw : w < 200) (hv : vs w = 0) (h : K 1 (oc, tc, cp, lc, sc, kc, nI d, nI w, er, ep, nI g, cls, num, lnk, lsz, lit, fb, tk, tv, rk, rl, ro, ra, rt, rp, oo, co, sk, kd, fr, upd fn (d - 1) (rt i), fi, vs, ll, li, lt)) : wpX_branch K (oc, tc, cp, lc, sc, kc, nI d, nI (w + 1), er, ep, nI g, cls, num, lnk, lsz, lit, fb, tk, tv, rk, rl, ro, ra, rt, rp, oo, co, sk, kd, fr, fn, fi, vs, ll, li, lt) (nI i) := by
  have c : vs (nI (w + 1) - 1).toNatClampNeg = vs w := by rw [nI_pred, nI_clamp (by omega)]
  exact ⟨vp_in_nI hi (by decide), nm_r (e' := 8) (by rw [nI_clamp (by omega)]; exact ho) (br_f (by decide) ⟨by rw [nI_pred]; exact vp_in_nI hw (by decide), br_t (by rw [c]; exact hv) (br_f (by decide) (br_f (by decide) (br_t rfl (br_t rfl (br_f (by decide) (nm_r (nI_pred w) (ex_jump hi hd hd5 (by decide) h)))))))⟩)⟩
theorem ex_ask1 {i : Nat} (hi : i < 280) (ho : ro i = 8) (hd : 1 ≤ d) (hd5 : d ≤ 5) (hw : w < 200) (hv : ¬ vs w = 0) (h : K 1 (oc, tc, cp, lc, sc, kc, nI d, nI w, er, ep, nI g, cls, num, lnk, lsz, lit, fb, tk, tv, rk, rl, ro, ra, rt, rp, oo, co, sk, kd, fr, fn, fi, vs, ll, li, lt)) : wpX_branch K (oc, tc, cp, lc, sc, kc, nI d, nI (w + 1), er, ep, nI g, cls, num, lnk, lsz, lit, fb, tk, tv, rk, rl, ro, ra, rt, rp, oo, co, sk, kd, fr, fn, fi, vs, ll, li, lt) (nI i) := by
  have c : vs (nI (w + 1) - 1).toNatClampNeg = vs w := by rw [nI_pred, nI_clamp (by omega)]
  exact ⟨vp_in_nI hi (by decide), nm_r (e' := 8) (by rw [nI_clamp (by omega)]; exact ho) (br_f (by decide) ⟨by rw [nI_pred]; exact vp_in_nI hw (by decide), br_f (by rw [c]; exact hv) (br_f (by decide) (br_f (by decide) (br_f (by decide) (br_t rfl (br_f (by decide) (nm_r (nI_pred w) (br_t rfl h)))))))⟩)⟩
theorem ex_or0 {i : Nat} (hi : i < 280) (ho : ro i = 10) (hd : 1 ≤ d) (hd5 : d ≤ 5) (hw : w < 200) (hv : vs w = 0) (h : K 1 (oc, tc, cp, lc, sc, kc, nI d, nI w, er, ep, nI g, cls, num, lnk, lsz, lit, fb, tk, tv, rk, rl, ro, ra, rt, rp, oo, co, sk, kd, fr, fn, fi, vs, ll, li, lt)) : wpX_branch K (oc, tc, cp, lc, sc, kc, nI d, nI (w + 1), er, ep, nI g, cls, num, lnk, lsz, lit, fb, tk, tv, rk, rl, ro, ra, rt, rp, oo, co, sk, kd, fr, fn, fi, vs, ll, li, lt) (nI i) := by
  have c : vs (nI (w + 1) - 1).toNatClampNeg = vs w := by rw [nI_pred, nI_clamp (by omega)]
  exact ⟨vp_in_nI hi (by decide), nm_r (e' := 10) (by rw [nI_clamp (by omega)]; exact ho) (br_f (by decide) ⟨by rw [nI_pred]; exact vp_in_nI hw (by decide), br_t (by rw [c]; exact hv) (br_f (by decide) (br_t rfl (br_t rfl (br_f (by decide) (br_f (by decide) (br_t rfl (br_f (by decide) (nm_r (nI_pred w) (br_t rfl h)))))))))⟩)⟩
theorem ex_or1 {i : Nat} (hi : i < 280) (ho : ro i = 10) (hd : 1 ≤ d) (hd5 : d ≤ 5) (hw : w < 200) (hv : ¬ vs w = 0) (h : K 1 (oc, tc, cp, lc, sc, kc, nI d, nI (w + 1), er, ep, nI g, cls, num, lnk, lsz, lit, fb, tk, tv, rk, rl, ro, ra, rt, rp, oo, co, sk, kd, fr, upd fn (d - 1) (rt i), fi, vs, ll, li, lt)) : wpX_branch K (oc, tc, cp, lc, sc, kc, nI d, nI (w + 1), er, ep, nI g, cls, num, lnk, lsz, lit, fb, tk, tv, rk, rl, ro, ra, rt, rp, oo, co, sk, kd, fr, fn, fi, vs, ll, li, lt) (nI i) := by
  have c : vs (nI (w + 1) - 1).toNatClampNeg = vs w := by rw [nI_pred, nI_clamp (by omega)]
  exact ⟨vp_in_nI hi (by decide), nm_r (e' := 10) (by rw [nI_clamp (by omega)]; exact ho) (br_f (by decide) ⟨by rw [nI_pred]; exact vp_in_nI hw (by decide), br_f (by rw [c]; exact hv) (br_f (by decide) (br_t rfl (br_f (by decide) (br_f (by decide) (br_f (by decide) (br_f (by decide) (br_t rfl (ex_jump hi hd hd5 (by decide) h))))))))⟩)⟩
theorem ex_and0 {i : Nat} (hi : i < 280) (ho : ro i = 11) (hd : 1 ≤ d) (hd5 : d ≤ 5) (hw : w < 200) (hv : vs w = 0) (h : K 1 (oc, tc, cp, lc, sc, kc, nI d, nI (w + 1), er, ep, nI g, cls, num, lnk, lsz, lit, fb, tk, tv, rk, rl, ro, ra, rt, rp, oo, co, sk, kd, fr, upd fn (d - 1) (rt i), fi, vs, ll, li, lt)) : wpX_branch K (oc, tc, cp, lc, sc, kc, nI d, nI (w + 1), er, ep, nI g, cls, num, lnk, lsz, lit, fb, tk, tv, rk, rl, ro, ra, rt, rp, oo, co, sk, kd, fr, fn, fi, vs, ll, li, lt) (nI i) := by
  have c : vs (nI (w + 1) - 1).toNatClampNeg = vs w := by rw [nI_pred, nI_clamp (by omega)]
  exact ⟨vp_in_nI hi (by decide), nm_r (e' := 11) (by rw [nI_clamp (by omega)]; exact ho) (br_f (by decide) ⟨by rw [nI_pred]; exact vp_in_nI hw (by decide), br_t (by rw [c]; exact hv) (br_f (by decide) (br_f (by decide) (br_t rfl (br_f (by decide) (br_f (by decide) (br_f (by decide) (br_t rfl (ex_jump hi hd hd5 (by decide) h))))))))⟩)⟩
theorem ex_and1 {i : Nat} (hi : i < 280) (ho : ro i = 11) (hd : 1 ≤ d) (hd5 : d ≤ 5) (hw : w < 200) (hv : ¬ vs w = 0) (h : K 1 (oc, tc, cp, lc, sc, kc, nI d, nI w, er, ep, nI g, cls, num, lnk, lsz, lit, fb, tk, tv, rk, rl, ro, ra, rt, rp, oo, co, sk, kd, fr, fn, fi, vs, ll, li, lt)) : wpX_branch K (oc, tc, cp, lc, sc, kc, nI d, nI (w + 1), er, ep, nI g, cls, num, lnk, lsz, lit, fb, tk, tv, rk, rl, ro, ra, rt, rp, oo, co, sk, kd, fr, fn, fi, vs, ll, li, lt) (nI i) := by
  have c : vs (nI (w + 1) - 1).toNatClampNeg = vs w := by rw [nI_pred, nI_clamp (by omega)]
  exact ⟨vp_in_nI hi (by decide), nm_r (e' := 11) (by rw [nI_clamp (by omega)]; exact ho) (br_f (by decide) ⟨by rw [nI_pred]; exact vp_in_nI hw (by decide), br_f (by rw [c]; exact hv) (br_f (by decide) (br_f (by decide) (br_f (by decide) (br_f (by decide) (br_f (by decide) (br_t rfl (br_f (by decide) (nm_r (nI_pred w) (br_t rfl h)))))))))⟩)⟩
end
end
section
def gr_bv (t : Nat) (l r : Int32) : Int32 := if t = 13 then (if l = r then 1 else 0) else if t = 14 then (if r ≤ l then 0 else 1) else if t = 15 then l + r else if t = 16 then l - r else if t = 17 then l * r else l / r
section
variable {K : Int32 → SX → Prop} {oc tc cp lc sc kc er ep : Int32} {cls num lnk lsz lit fb tk tv rk rl ro ra rt rp oo co sk kd fr fn fi vs ll li lt : Nat → Int32} {d w g : Nat}
theorem ex_nr_fin {i L : Nat} (hi : i < 280) (hL : L < 15) (hd : 1 ≤ d) (hd5 : d ≤ 5) (hw : w < 200) (h : K 1 (oc, tc, cp, lc, sc, kc, nI d, nI (w + 1), er, ep, nI g, cls, num, lnk, lsz, lit, fb, tk, tv, rk, rl, ro, ra, rt, rp, oo, co, sk, kd, fr, upd fn (d - 1) (rt i), fi, upd vs w (lt L), ll, li, lt)) : wX_nextRound_40 K (nI i) (nI L) oc tc cp lc sc kc (nI d) (nI w) er ep (nI g) cls num lnk lsz lit fb tk tv rk rl ro ra rt rp oo co sk kd fr fn fi vs ll li lt := by
  obtain ⟨e, rfl⟩ : ∃ e, d = e + 1 := ⟨d - 1, by omega⟩
  refine ⟨vp_in_nI hi (by decide), by rw [nI_pred]; exact vp_in_nI (by omega) (by decide), nm_r (e' := upd fn (e + 1 - 1) (rt i)) (by rw [nI_pred, nI_clamp (by omega), nI_clamp (by omega)]; rfl) ⟨vp_in_nI hL (by decide), ?_⟩⟩
  rw [nI_clamp (by omega)]
  exact ex_push hw h
theorem ex_nr_dec {i L : Nat} {z : Int32} (hL : L < 15) (hz : ¬ z = 0) (h : wX_nextRound_40 K (nI i) (nI L) oc tc cp lc sc kc (nI d) (nI w) er ep (nI g) cls num lnk lsz lit fb tk tv rk rl ro ra rt rp oo co sk kd fr fn fi vs ll li lt) : wpX_nextRound K (oc, tc, cp, lc, sc, kc, nI d, nI w, er, ep, nI g, cls, num, lnk, lsz, lit, fb, tk, tv, rk, rl, ro, ra, rt, rp, oo, co, sk, kd, fr, fn, fi, vs, ll, li, lt) (nI i) (nI L) z :=
  ⟨vp_in_nI hL (by decide), nm_e ⟨vp_in_nI hL (by decide), nm_e (br_f hz h)⟩⟩
theorem ex_nr_emp {i L : Nat} (hL : L < 15) (hl : ll L = -1) (h : wX_nextRound_40 K (nI i) (nI L) oc tc cp lc sc kc (nI d) (nI w) er ep (nI g) cls num lnk lsz lit fb tk tv rk rl ro ra rt rp oo co sk kd fr fn fi vs ll li lt) : wpX_nextRound K (oc, tc, cp, lc, sc, kc, nI d, nI w, er, ep, nI g, cls, num, lnk, lsz, lit, fb, tk, tv, rk, rl, ro, ra, rt, rp, oo, co, sk, kd, fr, fn, fi, vs, ll, li, lt) (nI i) (nI L) 0 :=
  ⟨vp_in_nI hL (by decide), nm_r (e' := -1) (by rw [nI_clamp (by omega)]; exact hl) ⟨vp_in_nI hL (by decide), nm_e (br_t rfl (br_t rfl h))⟩⟩
theorem ex_nr_out {i L l j z : Nat} (hL : L < 15) (hl : ll L = nI l) (hl16 : l < 16) (hj : li L + 1 = nI j) (hj2 : j < 2 ^ 31) (hz : lsz l = nI z) (hzj : z ≤ j) (h : wX_nextRound_40 K (nI i) (nI L) oc tc cp lc sc kc (nI d) (nI w) er ep (nI g) cls num lnk lsz lit fb tk tv rk rl ro ra rt rp oo co sk kd fr fn fi vs ll li lt) : wpX_nextRound K (oc, tc, cp, lc, sc, kc, nI d, nI w, er, ep, nI g, cls, num, lnk, lsz, lit, fb, tk, tv, rk, rl, ro, ra, rt, rp, oo, co, sk, kd, fr, fn, fi, vs, ll, li, lt) (nI i) (nI L) 0 :=
  ⟨vp_in_nI hL (by decide), nm_r (e' := nI l) (by rw [nI_clamp (by omega)]; exact hl) ⟨vp_in_nI hL (by decide), nm_r (e' := nI j) (by rw [nI_clamp (by omega)]; exact hj) (br_t rfl (br_f (gr_m1 (by omega)) ⟨vp_in_nI hl16 (by decide), br_f (by rw [nI_clamp (by omega), hz]; exact nI_nlt hzj hj2) h⟩))⟩⟩
theorem ex_nr_stop {i L l j z : Nat} (hL : L < 15) (hl : ll L = nI l) (hl16 : l < 16) (hj : li L + 1 = nI j) (hz : lsz l = nI z) (hzj : j < z) (hz4 : z ≤ 4) (hg : g = 40) (h : K 6 (oc, tc, cp, lc, sc, kc, nI d, nI w, er, ep, nI g, cls, num, lnk, lsz, lit, fb, tk, tv, rk, rl, ro, ra, rt, rp, oo, co, sk, kd, fr, fn, fi, vs, ll, li, lt)) : wpX_nextRound K (oc, tc, cp, lc, sc, kc, nI d, nI w, er, ep, nI g, cls, num, lnk, lsz, lit, fb, tk, tv, rk, rl, ro, ra, rt, rp, oo, co, sk, kd, fr, fn, fi, vs, ll, li, lt) (nI i) (nI L) 0 :=
  ⟨vp_in_nI hL (by decide), nm_r (e' := nI l) (by rw [nI_clamp (by omega)]; exact hl) ⟨vp_in_nI hL (by decide), nm_r (e' := nI j) (by rw [nI_clamp (by omega)]; exact hj) (br_t rfl (br_f (gr_m1 (by omega)) ⟨vp_in_nI hl16 (by decide), br_t (by rw [nI_clamp (by omega), hz]; exact nI_lt hzj (by omega)) (br_f (by rw [hg]; decide) h)⟩))⟩⟩
theorem ex_nr_go {q m L l j z : Nat} (hq : q < 6) (hm : m < 40) (hd : 1 ≤ d) (hd5 : d ≤ 5) (hL : L < 15) (hl : ll L = nI l) (hl16 : l < 16) (hj : li L + 1 = nI j) (hz : lsz l = nI z) (hzj : j < z) (hz4 : z ≤ 4) (hg : g < 40) (h : K 1 (oc, tc, cp, lc, sc, kc, nI d, nI w, er, ep, nI (g + 1), cls, num, lnk, lsz, lit, fb, tk, tv, rk, rl, ro, ra, rt, rp, oo, co, sk, kd, fr, upd fn (d - 1) (nI (m + 1)), fi, vs, ll, upd li L (nI j), lt)) : wpX_nextRound K (oc, tc, cp, lc, sc, kc, nI d, nI w, er, ep, nI g, cls, num, lnk, lsz, lit, fb, tk, tv, rk, rl, ro, ra, rt, rp, oo, co, sk, kd, fr, fn, fi, vs, ll, li, lt) (nI (q * 40 + m)) (nI L) 0 := by
  obtain ⟨e, rfl⟩ : ∃ e, d = e + 1 := ⟨d - 1, by omega⟩
  have rm : nI (q * 40 + m) - nI (q * 40 + m) / 40 * 40 = nI m := by
    rw [show (40 : Int32) = nI 40 from rfl, pk_rem (by omega) (by omega) (by omega)]
    exact congrArg nI (by omega)
  exact ⟨vp_in_nI hL (by decide), nm_r (e' := nI l) (by rw [nI_clamp (by omega)]; exact hl) ⟨vp_in_nI hL (by decide), nm_r (e' := nI j) (by rw [nI_clamp (by omega)]; exact hj) (br_t rfl (br_f (gr_m1 (by omega)) ⟨vp_in_nI hl16 (by decide), br_t (by rw [nI_clamp (by omega), hz]; exact nI_lt hzj (by omega)) (br_t (nI_lt (b := 40) hg (by decide)) (nm_r (nI_1 g) ⟨vp_in_nI hL (by decide), nm_r (e' := upd li L (nI j)) (by rw [nI_clamp (by omega)]) ⟨by decide, by rw [nI_pred]; exact vp_in_nI (by omega) (by decide), nm_r (e' := upd fn (e + 1 - 1) (nI (m + 1))) (by rw [rm, nI_1, nI_pred, nI_clamp (by omega)]; rfl) h⟩⟩))⟩))⟩⟩
theorem ex_loopOf {K : Int32 → Prop} {v : Nat} (hd : 1 ≤ d) (h : K (nI ((d - 1) * 3 + v))) : wpX_loopOf K (oc, tc, cp, lc, sc, kc, nI d, nI w, er, ep, nI g, cls, num, lnk, lsz, lit, fb, tk, tv, rk, rl, ro, ra, rt, rp, oo, co, sk, kd, fr, fn, fi, vs, ll, li, lt) (nI v) := by
  obtain ⟨e, rfl⟩ : ∃ e, d = e + 1 := ⟨d - 1, by omega⟩
  unfold wpX_loopOf
  dsimp only
  rw [nI_pred, show nI e * 3 + nI v = nI (e * 3 + v) from gr_lin e 3 v rfl rfl]
  exact h
theorem ex_start {i v t : Nat} (hi : i < 280) (hd : 1 ≤ d) (hd5 : d ≤ 5) (hv : v < 3) (hw : w < 200) (ea : ra i = nI v) (eo : ro i = nI t) (ht : t < 25) (h : wpX_nextRound K (oc, tc, cp, lc, sc, kc, nI d, nI w, er, ep, nI g, cls, num, lnk, lsz, lit, fb, tk, tv, rk, rl, ro, ra, rt, rp, oo, co, sk, kd, fr, fn, fi, vs, upd ll ((d - 1) * 3 + v) (vs w), upd li ((d - 1) * 3 + v) (-1), upd lt ((d - 1) * 3 + v) (if t = 21 then 1 else 0)) (nI i) (nI ((d - 1) * 3 + v)) 0) : wpX_startLoop K (oc, tc, cp, lc, sc, kc, nI d, nI (w + 1), er, ep, nI g, cls, num, lnk, lsz, lit, fb, tk, tv, rk, rl, ro, ra, rt, rp, oo, co, sk, kd, fr, fn, fi, vs, ll, li, lt) (nI i) := by
  have hL : (d - 1) * 3 + v < 15 := by omega
  have cl : (nI ((d - 1) * 3 + v)).toNatClampNeg = (d - 1) * 3 + v := nI_clamp (by omega)
  have ci : (nI i).toNatClampNeg = i := nI_clamp (by omega)
  refine ⟨vp_in_nI hi (by decide), ?_⟩
  rw [ci, ea]
  refine ex_loopOf hd ?_
  refine ex_pop hw ?_
  refine ⟨vp_in_nI hL (by decide), nm_r (by rw [cl]) ⟨vp_in_nI hL (by decide), nm_r (by rw [cl]) ⟨vp_in_nI hi (by decide), ?_⟩⟩⟩
  rw [eo]
  by_cases h21 : t = 21
  · rw [if_pos h21] at h
    exact br_t (by rw [h21]; rfl) ⟨vp_in_nI hL (by decide), nm_r (by rw [cl]) h⟩
  · rw [if_neg h21] at h
    exact br_f (fun z => h21 ((nI_eq (b := 21) (by omega) (by decide)).1 z)) ⟨vp_in_nI hL (by decide), nm_r (by rw [cl]) h⟩
/-- is the loop decided by this round's value -/
def gr_dec (t : Nat) (x : Int32) : Prop := (t = 20 ∧ ¬ x = 0) ∨ (t = 21 ∧ x = 0)
theorem ex_endr {i v t : Nat} (hi : i < 280) (hd : 1 ≤ d) (hd5 : d ≤ 5) (hv : v < 3) (hw : w < 200) (ea : ra i = nI v) (eo : ro i = nI t) (ht : t < 25) (h : ∀ z : Int32, (gr_dec t (vs w) → ¬ z = 0) → (¬ gr_dec t (vs w) → z = 0) → wpX_nextRound K (oc, tc, cp, lc, sc, kc, nI d, nI w, er, ep, nI g, cls, num, lnk, lsz, lit, fb, tk, tv, rk, rl, ro, ra, rt, rp, oo, co, sk, kd, fr, fn, fi, vs, ll, li, upd lt ((d - 1) * 3 + v) (if t = 22 then lt ((d - 1) * 3 + v) + vs w else vs w)) (nI i) (nI ((d - 1) * 3 + v)) z) : wpX_endRound K (oc, tc, cp, lc, sc, kc, nI d, nI (w + 1), er, ep, nI g, cls, num, lnk, lsz, lit, fb, tk, tv, rk, rl, ro, ra, rt, rp, oo, co, sk, kd, fr, fn, fi, vs, ll, li, lt) (nI i) := by
  have hL : (d - 1) * 3 + v < 15 := by omega
  have cl : (nI ((d - 1) * 3 + v)).toNatClampNeg = (d - 1) * 3 + v := nI_clamp (by omega)
  have ci : (nI i).toNatClampNeg = i := nI_clamp (by omega)
  refine ⟨vp_in_nI hi (by decide), ?_⟩
  rw [ci, ea]
  refine ex_loopOf hd ?_
  refine ex_pop hw ?_
  refine ⟨vp_in_nI hi (by decide), nm_r (e' := nI t) eo ?_⟩
  have e0 : ∀ b, b < 25 → t ≠ b → ¬ nI t = nI b := fun b hb z y => z ((nI_eq (by omega) (by omega)).1 y)
  have tail : ∀ lt' : Nat → Int32, lt' = upd lt ((d - 1) * 3 + v) (if t = 22 then lt ((d - 1) * 3 + v) + vs w else vs w) → ((nI t = 20 → ((vs w = 0 → (wX_endRound_60 K (nI i) (nI ((d - 1) * 3 + v)) (vs w) (nI t) oc tc cp lc sc kc (nI d) (nI w) er ep (nI g) cls num lnk lsz lit fb tk tv rk rl ro ra rt rp oo co sk kd fr fn fi vs ll li (lt'))) ∧ (¬ vs w = 0 → (wX_endRound_71 K (nI i) (nI ((d - 1) * 3 + v)) oc tc cp lc sc kc (nI d) (nI w) er ep (nI g) cls num lnk lsz lit fb tk tv rk rl ro ra rt rp oo co sk kd fr fn fi vs ll li (lt'))))) ∧ (¬ nI t = 20 → (wX_endRound_60 K (nI i) (nI ((d - 1) * 3 + v)) (vs w) (nI t) oc tc cp lc sc kc (nI d) (nI w) er ep (nI g) cls num lnk lsz lit fb tk tv rk rl ro ra rt rp oo co sk kd fr fn fi vs ll li (lt')))) := by
    intro lt' el
    subst el
    by_cases t20 : t = 20
    · refine br_t (by rw [t20]; rfl) ?_
      by_cases x0 : vs w = 0
      · refine br_t x0 (br_f (e0 21 (by decide) (by omega)) (h 0 (fun z => ?_) (fun _ => rfl)))
        rcases z with z | z
        · exact absurd x0 z.2
        · exact absurd z.1 (by omega)
      · exact br_f x0 (h 1 (fun _ => by decide) (fun z => absurd (Or.inl ⟨t20, x0⟩) z))
    · refine br_f (e0 20 (by decide) t20) ?_
      by_cases t21 : t = 21
      · refine br_t (by rw [t21]; rfl) ?_
        by_cases x0 : vs w = 0
        · exact br_t x0 (h 1 (fun _ => by decide) (fun z => absurd (Or.inr ⟨t21, x0⟩) z))
        · refine br_f x0 (h 0 (fun z => ?_) (fun _ => rfl))
          rcases z with z | z
          · exact absurd z.1 t20
          · exact absurd z.2 x0
      · refine br_f (e0 21 (by decide) t21) (h 0 (fun z => ?_) (fun _ => rfl))
        rcases z with z | z
        · exact absurd z.1 t20
        · exact absurd z.1 t21
  by_cases t22 : t = 22
  · refine br_t (by rw [t22]; rfl) ⟨vp_in_nI hL (by decide), vp_in_nI hL (by decide), fun a ea => tail a ?_⟩
    rw [ea, cl, if_pos t22]
  · refine br_f (e0 22 (by decide) t22) ⟨vp_in_nI hL (by decide), fun a ea => tail a ?_⟩
    rw [ea, cl, if_neg t22]

theorem ex_cmb13 (hw : w + 1 < 200) (h : K 1 (oc, tc, cp, lc, sc, kc, nI d, nI (w + 1), er, ep, nI g, cls, num, lnk, lsz, lit, fb, tk, tv, rk, rl, ro, ra, rt, rp, oo, co, sk, kd, fr, fn, fi, upd vs w (gr_bv 13 (vs w) (vs (w + 1))), ll, li, lt)) : wpX_combine K (oc, tc, cp, lc, sc, kc, nI d, nI (w + 2), er, ep, nI g, cls, num, lnk, lsz, lit, fb, tk, tv, rk, rl, ro, ra, rt, rp, oo, co, sk, kd, fr, fn, fi, vs, ll, li, lt) 13 := by
  unfold wpX_combine; refine ex_pop (w := w + 1) hw ?_
  refine ex_pop (w := w) (by omega) ?_
  refine br_f (by decide) (br_f (by decide) (br_t (by decide) ?_))
  by_cases z : vs w = vs (w + 1)
  · rw [show gr_bv 13 (vs w) (vs (w + 1)) = 1 from if_pos z] at h
    exact br_t z (ex_push (by omega) h)
  · rw [show gr_bv 13 (vs w) (vs (w + 1)) = 0 from if_neg z] at h
    exact br_f z (ex_push (by omega) h)
theorem ex_cmb14 (hw : w + 1 < 200) (h : K 1 (oc, tc, cp, lc, sc, kc, nI d, nI (w + 1), er, ep, nI g, cls, num, lnk, lsz, lit, fb, tk, tv, rk, rl, ro, ra, rt, rp, oo, co, sk, kd, fr, fn, fi, upd vs w (gr_bv 14 (vs w) (vs (w + 1))), ll, li, lt)) : wpX_combine K (oc, tc, cp, lc, sc, kc, nI d, nI (w + 2), er, ep, nI g, cls, num, lnk, lsz, lit, fb, tk, tv, rk, rl, ro, ra, rt, rp, oo, co, sk, kd, fr, fn, fi, vs, ll, li, lt) 14 := by
  unfold wpX_combine; refine ex_pop (w := w + 1) hw ?_
  refine ex_pop (w := w) (by omega) ?_
  refine br_f (by decide) (br_f (by decide) (br_f (by decide) (br_t (by decide) ?_)))
  by_cases z : vs (w + 1) ≤ vs w
  · rw [show gr_bv 14 (vs w) (vs (w + 1)) = 0 from if_pos z] at h
    exact br_t z (ex_push (by omega) h)
  · rw [show gr_bv 14 (vs w) (vs (w + 1)) = 1 from if_neg z] at h
    exact br_f z (ex_push (by omega) h)
theorem ex_cmb15 (hw : w + 1 < 200) (h : K 1 (oc, tc, cp, lc, sc, kc, nI d, nI (w + 1), er, ep, nI g, cls, num, lnk, lsz, lit, fb, tk, tv, rk, rl, ro, ra, rt, rp, oo, co, sk, kd, fr, fn, fi, upd vs w (gr_bv 15 (vs w) (vs (w + 1))), ll, li, lt)) : wpX_combine K (oc, tc, cp, lc, sc, kc, nI d, nI (w + 2), er, ep, nI g, cls, num, lnk, lsz, lit, fb, tk, tv, rk, rl, ro, ra, rt, rp, oo, co, sk, kd, fr, fn, fi, vs, ll, li, lt) 15 := by
  unfold wpX_combine; refine ex_pop (w := w + 1) hw ?_
  refine ex_pop (w := w) (by omega) ?_
  exact br_f (by decide) (br_f (by decide) (br_f (by decide) (br_f (by decide) (br_t (by decide) (ex_push (by omega) h)))))
theorem ex_cmb16 (hw : w + 1 < 200) (h : K 1 (oc, tc, cp, lc, sc, kc, nI d, nI (w + 1), er, ep, nI g, cls, num, lnk, lsz, lit, fb, tk, tv, rk, rl, ro, ra, rt, rp, oo, co, sk, kd, fr, fn, fi, upd vs w (gr_bv 16 (vs w) (vs (w + 1))), ll, li, lt)) : wpX_combine K (oc, tc, cp, lc, sc, kc, nI d, nI (w + 2), er, ep, nI g, cls, num, lnk, lsz, lit, fb, tk, tv, rk, rl, ro, ra, rt, rp, oo, co, sk, kd, fr, fn, fi, vs, ll, li, lt) 16 := by
  unfold wpX_combine; refine ex_pop (w := w + 1) hw ?_
  refine ex_pop (w := w) (by omega) ?_
  exact br_f (by decide) (br_f (by decide) (br_f (by decide) (br_f (by decide) (br_f (by decide) (br_t (by decide) (ex_push (by omega) h))))))
theorem ex_cmb17 (hw : w + 1 < 200) (h : K 1 (oc, tc, cp, lc, sc, kc, nI d, nI (w + 1), er, ep, nI g, cls, num, lnk, lsz, lit, fb, tk, tv, rk, rl, ro, ra, rt, rp, oo, co, sk, kd, fr, fn, fi, upd vs w (gr_bv 17 (vs w) (vs (w + 1))), ll, li, lt)) : wpX_combine K (oc, tc, cp, lc, sc, kc, nI d, nI (w + 2), er, ep, nI g, cls, num, lnk, lsz, lit, fb, tk, tv, rk, rl, ro, ra, rt, rp, oo, co, sk, kd, fr, fn, fi, vs, ll, li, lt) 17 := by
  unfold wpX_combine; refine ex_pop (w := w + 1) hw ?_
  refine ex_pop (w := w) (by omega) ?_
  exact br_f (by decide) (br_f (by decide) (br_f (by decide) (br_f (by decide) (br_f (by decide) (br_f (by decide) (br_t (by decide) (ex_push (by omega) h)))))))
theorem ex_cmb18 (hw : w + 1 < 200) (h0 : ¬ vs (w + 1) = 0) (h : K 1 (oc, tc, cp, lc, sc, kc, nI d, nI (w + 1), er, ep, nI g, cls, num, lnk, lsz, lit, fb, tk, tv, rk, rl, ro, ra, rt, rp, oo, co, sk, kd, fr, fn, fi, upd vs w (gr_bv 18 (vs w) (vs (w + 1))), ll, li, lt)) : wpX_combine K (oc, tc, cp, lc, sc, kc, nI d, nI (w + 2), er, ep, nI g, cls, num, lnk, lsz, lit, fb, tk, tv, rk, rl, ro, ra, rt, rp, oo, co, sk, kd, fr, fn, fi, vs, ll, li, lt) 18 := by
  unfold wpX_combine; refine ex_pop (w := w + 1) hw ?_
  refine ex_pop (w := w) (by omega) ?_
  exact br_f (by decide) (br_t (by decide) (br_f h0 ⟨h0, ex_push (by omega) h⟩))
theorem ex_cmb_div (hw : w + 1 < 200) (h0 : vs (w + 1) = 0) (h : K 4 (oc, tc, cp, lc, sc, kc, nI d, nI w, er, ep, nI g, cls, num, lnk, lsz, lit, fb, tk, tv, rk, rl, ro, ra, rt, rp, oo, co, sk, kd, fr, fn, fi, vs, ll, li, lt)) : wpX_combine K (oc, tc, cp, lc, sc, kc, nI d, nI (w + 2), er, ep, nI g, cls, num, lnk, lsz, lit, fb, tk, tv, rk, rl, ro, ra, rt, rp, oo, co, sk, kd, fr, fn, fi, vs, ll, li, lt) 18 := by
  unfold wpX_combine; refine ex_pop (w := w + 1) hw ?_
  refine ex_pop (w := w) (by omega) ?_
  exact br_f (by decide) (br_t (by decide) (br_t h0 h))
theorem ex_pf0 {i : Nat} (hi : i < 280) (ho : ro i = 0) (hw : w < 200) (h : K 1 (oc, tc, cp, lc, sc, kc, nI d, nI (w + 1), er, ep, nI g, cls, num, lnk, lsz, lit, fb, tk, tv, rk, rl, ro, ra, rt, rp, oo, co, sk, kd, fr, fn, fi, upd vs w (ra i), ll, li, lt)) : wpX_perform K (oc, tc, cp, lc, sc, kc, nI d, nI w, er, ep, nI g, cls, num, lnk, lsz, lit, fb, tk, tv, rk, rl, ro, ra, rt, rp, oo, co, sk, kd, fr, fn, fi, vs, ll, li, lt) (nI i) := by
  have ci : (nI i).toNatClampNeg = i := nI_clamp (by omega)
  refine ⟨vp_in_nI hi (by decide), nm_r (e' := 0) (by rw [ci]; exact ho) (br_f (by decide) (br_f (by decide) (br_t (by decide) (?_))))⟩
  rw [ci]
  exact ⟨vp_in_nI hi (by decide), ex_push hw h⟩
theorem ex_pf3 {i : Nat} (hi : i < 280) (ho : ro i = 3) (hd : 1 ≤ d) (hd5 : d ≤ 5) (hw : w < 200) (h : K 1 (oc, tc, cp, lc, sc, kc, nI d, nI (w + 1), er, ep, nI g, cls, num, lnk, lsz, lit, fb, tk, tv, rk, rl, ro, ra, rt, rp, oo, co, sk, kd, fr, fn, fi, upd vs w (fi (d - 1)), ll, li, lt)) : wpX_perform K (oc, tc, cp, lc, sc, kc, nI d, nI w, er, ep, nI g, cls, num, lnk, lsz, lit, fb, tk, tv, rk, rl, ro, ra, rt, rp, oo, co, sk, kd, fr, fn, fi, vs, ll, li, lt) (nI i) := by
  have ci : (nI i).toNatClampNeg = i := nI_clamp (by omega)
  refine ⟨vp_in_nI hi (by decide), nm_r (e' := 3) (by rw [ci]; exact ho) (br_f (by decide) (br_f (by decide) (br_f (by decide) (br_f (by decide) (br_f (by decide) (br_t (by decide) (?_)))))))⟩
  obtain ⟨e, rfl⟩ : ∃ e, d = e + 1 := ⟨d - 1, by omega⟩
  rw [nI_pred, nI_clamp (by omega)]
  exact ⟨vp_in_nI (by omega) (by decide), ex_push hw h⟩
theorem ex_pf19 {i : Nat} (hi : i < 280) (ho : ro i = 19) (hw : w < 200) (h : K 1 (oc, tc, cp, lc, sc, kc, nI d, nI (w + 1), er, ep, nI g, cls, num, lnk, lsz, lit, fb, tk, tv, rk, rl, ro, ra, rt, rp, oo, co, sk, kd, fr, fn, fi, upd vs w (-1), ll, li, lt)) : wpX_perform K (oc, tc, cp, lc, sc, kc, nI d, nI w, er, ep, nI g, cls, num, lnk, lsz, lit, fb, tk, tv, rk, rl, ro, ra, rt, rp, oo, co, sk, kd, fr, fn, fi, vs, ll, li, lt) (nI i) := by
  have ci : (nI i).toNatClampNeg = i := nI_clamp (by omega)
  refine ⟨vp_in_nI hi (by decide), nm_r (e' := 19) (by rw [ci]; exact ho) (br_f (by decide) (br_f (by decide) (br_f (by decide) (br_f (by decide) (br_f (by decide) (br_f (by decide) (br_f (by decide) (br_f (by decide) (br_f (by decide) (br_f (by decide) (br_f (by decide) (br_f (by decide) (br_f (by decide) (br_f (by decide) (br_f (by decide) (br_f (by decide) (br_f (by decide) (br_f (by decide) (br_f (by decide) (br_f (by decide) (br_f (by decide) (br_t (by decide) (?_)))))))))))))))))))))))⟩
  exact ex_push hw h
theorem ex_pf4 {i : Nat} (hi : i < 280) (ho : ro i = 4) {v l j : Nat} (hd : 1 ≤ d) (hd5 : d ≤ 5) (hw : w < 200) (hv : v < 3) (ea : ra i = nI v) (el : ll ((d - 1) * 3 + v) = nI l) (ej : li ((d - 1) * 3 + v) = nI j) (hlj : l * 4 + j < 64) (h : K 1 (oc, tc, cp, lc, sc, kc, nI d, nI (w + 1), er, ep, nI g, cls, num, lnk, lsz, lit, fb, tk, tv, rk, rl, ro, ra, rt, rp, oo, co, sk, kd, fr, fn, fi, upd vs w (lit (l * 4 + j)), ll, li, lt)) : wpX_perform K (oc, tc, cp, lc, sc, kc, nI d, nI w, er, ep, nI g, cls, num, lnk, lsz, lit, fb, tk, tv, rk, rl, ro, ra, rt, rp, oo, co, sk, kd, fr, fn, fi, vs, ll, li, lt) (nI i) := by
  have ci : (nI i).toNatClampNeg = i := nI_clamp (by omega)
  refine ⟨vp_in_nI hi (by decide), nm_r (e' := 4) (by rw [ci]; exact ho) (br_f (by decide) (br_f (by decide) (br_f (by decide) (br_f (by decide) (br_f (by decide) (br_f (by decide) (br_t (by decide) (?_))))))))⟩
  rw [ci, ea]
  refine ⟨vp_in_nI hi (by decide), ?_⟩
  unfold wpX_pushBound
  refine ex_loopOf hd ?_
  have cl : (nI ((d - 1) * 3 + v)).toNatClampNeg = (d - 1) * 3 + v := nI_clamp (by omega)
  have e4 : nI l * 4 + nI j = nI (l * 4 + j) := gr_lin l 4 j rfl rfl
  rw [cl, el, ej, e4, nI_clamp (n := l * 4 + j) (by omega)]
  exact ⟨vp_in_nI (by omega) (by decide), vp_in_nI (by omega) (by decide), vp_in_nI hlj (by decide), ex_push hw h⟩
theorem ex_pf1 {i : Nat} (hi : i < 280) (ho : ro i = 1)  (h : wpX_readProperty K (oc, tc, cp, lc, sc, kc, nI d, nI w, er, ep, nI g, cls, num, lnk, lsz, lit, fb, tk, tv, rk, rl, ro, ra, rt, rp, oo, co, sk, kd, fr, fn, fi, vs, ll, li, lt) 1 (ra i)) : wpX_perform K (oc, tc, cp, lc, sc, kc, nI d, nI w, er, ep, nI g, cls, num, lnk, lsz, lit, fb, tk, tv, rk, rl, ro, ra, rt, rp, oo, co, sk, kd, fr, fn, fi, vs, ll, li, lt) (nI i) := by
  have ci : (nI i).toNatClampNeg = i := nI_clamp (by omega)
  refine ⟨vp_in_nI hi (by decide), nm_r (e' := 1) (by rw [ci]; exact ho) (br_f (by decide) (br_f (by decide) (br_f (by decide) (br_t (by decide) (?_)))))⟩
  refine ⟨vp_in_nI hi (by decide), vp_in_nI hi (by decide), ?_⟩
  rw [ci, ho]
  exact h
theorem ex_pf2 {i : Nat} (hi : i < 280) (ho : ro i = 2)  (h : wpX_readProperty K (oc, tc, cp, lc, sc, kc, nI d, nI w, er, ep, nI g, cls, num, lnk, lsz, lit, fb, tk, tv, rk, rl, ro, ra, rt, rp, oo, co, sk, kd, fr, fn, fi, vs, ll, li, lt) 2 (ra i)) : wpX_perform K (oc, tc, cp, lc, sc, kc, nI d, nI w, er, ep, nI g, cls, num, lnk, lsz, lit, fb, tk, tv, rk, rl, ro, ra, rt, rp, oo, co, sk, kd, fr, fn, fi, vs, ll, li, lt) (nI i) := by
  have ci : (nI i).toNatClampNeg = i := nI_clamp (by omega)
  refine ⟨vp_in_nI hi (by decide), nm_r (e' := 2) (by rw [ci]; exact ho) (br_f (by decide) (br_f (by decide) (br_f (by decide) (br_f (by decide) (br_t (by decide) (?_))))))⟩
  refine ⟨vp_in_nI hi (by decide), vp_in_nI hi (by decide), ?_⟩
  rw [ci, ho]
  exact h
theorem ex_pf5 {i : Nat} (hi : i < 280) (ho : ro i = 5)  (h : wpX_callRule K (oc, tc, cp, lc, sc, kc, nI d, nI w, er, ep, nI g, cls, num, lnk, lsz, lit, fb, tk, tv, rk, rl, ro, ra, rt, rp, oo, co, sk, kd, fr, fn, fi, vs, ll, li, lt) (ra i)) : wpX_perform K (oc, tc, cp, lc, sc, kc, nI d, nI w, er, ep, nI g, cls, num, lnk, lsz, lit, fb, tk, tv, rk, rl, ro, ra, rt, rp, oo, co, sk, kd, fr, fn, fi, vs, ll, li, lt) (nI i) := by
  have ci : (nI i).toNatClampNeg = i := nI_clamp (by omega)
  refine ⟨vp_in_nI hi (by decide), nm_r (e' := 5) (by rw [ci]; exact ho) (br_f (by decide) (br_f (by decide) (br_f (by decide) (br_f (by decide) (br_f (by decide) (br_f (by decide) (br_f (by decide) (br_t (by decide) (?_)))))))))⟩
  rw [ci]
  exact ⟨vp_in_nI hi (by decide), h⟩
theorem ex_pf8 {i : Nat} (hi : i < 280) (ho : ro i = 8)  (h : wpX_branch K (oc, tc, cp, lc, sc, kc, nI d, nI w, er, ep, nI g, cls, num, lnk, lsz, lit, fb, tk, tv, rk, rl, ro, ra, rt, rp, oo, co, sk, kd, fr, fn, fi, vs, ll, li, lt) (nI i)) : wpX_perform K (oc, tc, cp, lc, sc, kc, nI d, nI w, er, ep, nI g, cls, num, lnk, lsz, lit, fb, tk, tv, rk, rl, ro, ra, rt, rp, oo, co, sk, kd, fr, fn, fi, vs, ll, li, lt) (nI i) := by
  have ci : (nI i).toNatClampNeg = i := nI_clamp (by omega)
  refine ⟨vp_in_nI hi (by decide), nm_r (e' := 8) (by rw [ci]; exact ho) (br_f (by decide) (br_f (by decide) (br_f (by decide) (br_f (by decide) (br_f (by decide) (br_f (by decide) (br_f (by decide) (br_f (by decide) (br_f (by decide) (br_f (by decide) (br_t (by decide) (?_))))))))))))⟩
  exact h
theorem ex_pf9 {i : Nat} (hi : i < 280) (ho : ro i = 9)  (h : wpX_branch K (oc, tc, cp, lc, sc, kc, nI d, nI w, er, ep, nI g, cls, num, lnk, lsz, lit, fb, tk, tv, rk, rl, ro, ra, rt, rp, oo, co, sk, kd, fr, fn, fi, vs, ll, li, lt) (nI i)) : wpX_perform K (oc, tc, cp, lc, sc, kc, nI d, nI w, er, ep, nI g, cls, num, lnk, lsz, lit, fb, tk, tv, rk, rl, ro, ra, rt, rp, oo, co, sk, kd, fr, fn, fi, vs, ll, li, lt) (nI i) := by
  have ci : (nI i).toNatClampNeg = i := nI_clamp (by omega)
  refine ⟨vp_in_nI hi (by decide), nm_r (e' := 9) (by rw [ci]; exact ho) (br_f (by decide) (br_f (by decide) (br_f (by decide) (br_f (by decide) (br_f (by decide) (br_f (by decide) (br_f (by decide) (br_f (by decide) (br_f (by decide) (br_f (by decide) (br_f (by decide) (br_t (by decide) (?_)))))))))))))⟩
  exact h
theorem ex_pf10 {i : Nat} (hi : i < 280) (ho : ro i = 10)  (h : wpX_branch K (oc, tc, cp, lc, sc, kc, nI d, nI w, er, ep, nI g, cls, num, lnk, lsz, lit, fb, tk, tv, rk, rl, ro, ra, rt, rp, oo, co, sk, kd, fr, fn, fi, vs, ll, li, lt) (nI i)) : wpX_perform K (oc, tc, cp, lc, sc, kc, nI d, nI w, er, ep, nI g, cls, num, lnk, lsz, lit, fb, tk, tv, rk, rl, ro, ra, rt, rp, oo, co, sk, kd, fr, fn, fi, vs, ll, li, lt) (nI i) := by
  have ci : (nI i).toNatClampNeg = i := nI_clamp (by omega)
  refine ⟨vp_in_nI hi (by decide), nm_r (e' := 10) (by rw [ci]; exact ho) (br_f (by decide) (br_f (by decide) (br_f (by decide) (br_f (by decide) (br_f (by decide) (br_f (by decide) (br_f (by decide) (br_f (by decide) (br_f (by decide) (br_f (by decide) (br_f (by decide) (br_f (by decide) (br_t (by decide) (?_))))))))))))))⟩
  exact h
theorem ex_pf11 {i : Nat} (hi : i < 280) (ho : ro i = 11)  (h : wpX_branch K (oc, tc, cp, lc, sc, kc, nI d, nI w, er, ep, nI g, cls, num, lnk, lsz, lit, fb, tk, tv, rk, rl, ro, ra, rt, rp, oo, co, sk, kd, fr, fn, fi, vs, ll, li, lt) (nI i)) : wpX_perform K (oc, tc, cp, lc, sc, kc, nI d, nI w, er, ep, nI g, cls, num, lnk, lsz, lit, fb, tk, tv, rk, rl, ro, ra, rt, rp, oo, co, sk, kd, fr, fn, fi, vs, ll, li, lt) (nI i) := by
  have ci : (nI i).toNatClampNeg = i := nI_clamp (by omega)
  refine ⟨vp_in_nI hi (by decide), nm_r (e' := 11) (by rw [ci]; exact ho) (br_f (by decide) (br_f (by decide) (br_f (by decide) (br_f (by decide) (br_f (by decide) (br_f (by decide) (br_f (by decide) (br_f (by decide) (br_f (by decide) (br_f (by decide) (br_f (by decide) (br_f (by decide) (br_f (by decide) (br_t (by decide) (?_)))))))))))))))⟩
  exact h
theorem ex_pf12 {i : Nat} (hi : i < 280) (ho : ro i = 12) (hw : w < 200) (h : K 1 (oc, tc, cp, lc, sc, kc, nI d, nI (w + 1), er, ep, nI g, cls, num, lnk, lsz, lit, fb, tk, tv, rk, rl, ro, ra, rt, rp, oo, co, sk, kd, fr, fn, fi, upd vs w (1 - vs w), ll, li, lt)) : wpX_perform K (oc, tc, cp, lc, sc, kc, nI d, nI (w + 1), er, ep, nI g, cls, num, lnk, lsz, lit, fb, tk, tv, rk, rl, ro, ra, rt, rp, oo, co, sk, kd, fr, fn, fi, vs, ll, li, lt) (nI i) := by
  have ci : (nI i).toNatClampNeg = i := nI_clamp (by omega)
  refine ⟨vp_in_nI hi (by decide), nm_r (e' := 12) (by rw [ci]; exact ho) (br_f (by decide) (br_f (by decide) (br_f (by decide) (br_f (by decide) (br_f (by decide) (br_f (by decide) (br_f (by decide) (br_f (by decide) (br_f (by decide) (br_f (by decide) (br_f (by decide) (br_f (by decide) (br_f (by decide) (br_f (by decide) (br_t (by decide) (?_))))))))))))))))⟩
  rw [nI_pred, nI_clamp (n := w) (by omega)]
  exact ⟨vp_in_nI hw (by decide), vp_in_nI hw (by decide), nm_e h⟩
theorem ex_pf23 {i : Nat} (hi : i < 280) (ho : ro i = 23) (hw : w < 200) (h : K 1 (oc, tc, cp, lc, sc, kc, nI d, nI (w + 1), er, ep, nI g, cls, num, lnk, lsz, lit, fb, tk, tv, rk, rl, ro, ra, rt, rp, oo, co, sk, kd, fr, fn, fi, upd vs w (-(vs w)), ll, li, lt)) : wpX_perform K (oc, tc, cp, lc, sc, kc, nI d, nI (w + 1), er, ep, nI g, cls, num, lnk, lsz, lit, fb, tk, tv, rk, rl, ro, ra, rt, rp, oo, co, sk, kd, fr, fn, fi, vs, ll, li, lt) (nI i) := by
  have ci : (nI i).toNatClampNeg = i := nI_clamp (by omega)
  refine ⟨vp_in_nI hi (by decide), nm_r (e' := 23) (by rw [ci]; exact ho) (br_f (by decide) (br_f (by decide) (br_f (by decide) (br_f (by decide) (br_f (by decide) (br_f (by decide) (br_f (by decide) (br_f (by decide) (br_f (by decide) (br_f (by decide) (br_f (by decide) (br_f (by decide) (br_f (by decide) (br_f (by decide) (br_f (by decide) (br_f (by decide) (br_f (by decide) (br_f (by decide) (br_f (by decide) (br_f (by decide) (br_f (by decide) (br_f (by decide) (br_f (by decide) (br_f (by decide) (br_f (by decide) (br_t (by decide) (?_)))))))))))))))))))))))))))⟩
  rw [nI_pred, nI_clamp (n := w) (by omega)]
  exact ⟨vp_in_nI hw (by decide), vp_in_nI hw (by decide), nm_e h⟩
theorem ex_pf20 {i : Nat} (hi : i < 280) (ho : ro i = 20)  (h : wpX_startLoop K (oc, tc, cp, lc, sc, kc, nI d, nI w, er, ep, nI g, cls, num, lnk, lsz, lit, fb, tk, tv, rk, rl, ro, ra, rt, rp, oo, co, sk, kd, fr, fn, fi, vs, ll, li, lt) (nI i)) : wpX_perform K (oc, tc, cp, lc, sc, kc, nI d, nI w, er, ep, nI g, cls, num, lnk, lsz, lit, fb, tk, tv, rk, rl, ro, ra, rt, rp, oo, co, sk, kd, fr, fn, fi, vs, ll, li, lt) (nI i) := by
  have ci : (nI i).toNatClampNeg = i := nI_clamp (by omega)
  refine ⟨vp_in_nI hi (by decide), nm_r (e' := 20) (by rw [ci]; exact ho) (br_f (by decide) (br_f (by decide) (br_f (by decide) (br_f (by decide) (br_f (by decide) (br_f (by decide) (br_f (by decide) (br_f (by decide) (br_f (by decide) (br_f (by decide) (br_f (by decide) (br_f (by decide) (br_f (by decide) (br_f (by decide) (br_f (by decide) (br_f (by decide) (br_f (by decide) (br_f (by decide) (br_f (by decide) (br_f (by decide) (br_f (by decide) (br_f (by decide) (br_t (by decide) (?_))))))))))))))))))))))))⟩
  exact h
theorem ex_pf21 {i : Nat} (hi : i < 280) (ho : ro i = 21)  (h : wpX_startLoop K (oc, tc, cp, lc, sc, kc, nI d, nI w, er, ep, nI g, cls, num, lnk, lsz, lit, fb, tk, tv, rk, rl, ro, ra, rt, rp, oo, co, sk, kd, fr, fn, fi, vs, ll, li, lt) (nI i)) : wpX_perform K (oc, tc, cp, lc, sc, kc, nI d, nI w, er, ep, nI g, cls, num, lnk, lsz, lit, fb, tk, tv, rk, rl, ro, ra, rt, rp, oo, co, sk, kd, fr, fn, fi, vs, ll, li, lt) (nI i) := by
  have ci : (nI i).toNatClampNeg = i := nI_clamp (by omega)
  refine ⟨vp_in_nI hi (by decide), nm_r (e' := 21) (by rw [ci]; exact ho) (br_f (by decide) (br_f (by decide) (br_f (by decide) (br_f (by decide) (br_f (by decide) (br_f (by decide) (br_f (by decide) (br_f (by decide) (br_f (by decide) (br_f (by decide) (br_f (by decide) (br_f (by decide) (br_f (by decide) (br_f (by decide) (br_f (by decide) (br_f (by decide) (br_f (by decide) (br_f (by decide) (br_f (by decide) (br_f (by decide) (br_f (by decide) (br_f (by decide) (br_f (by decide) (br_t (by decide) (?_)))))))))))))))))))))))))⟩
  exact h
theorem ex_pf22 {i : Nat} (hi : i < 280) (ho : ro i = 22)  (h : wpX_startLoop K (oc, tc, cp, lc, sc, kc, nI d, nI w, er, ep, nI g, cls, num, lnk, lsz, lit, fb, tk, tv, rk, rl, ro, ra, rt, rp, oo, co, sk, kd, fr, fn, fi, vs, ll, li, lt) (nI i)) : wpX_perform K (oc, tc, cp, lc, sc, kc, nI d, nI w, er, ep, nI g, cls, num, lnk, lsz, lit, fb, tk, tv, rk, rl, ro, ra, rt, rp, oo, co, sk, kd, fr, fn, fi, vs, ll, li, lt) (nI i) := by
  have ci : (nI i).toNatClampNeg = i := nI_clamp (by omega)
  refine ⟨vp_in_nI hi (by decide), nm_r (e' := 22) (by rw [ci]; exact ho) (br_f (by decide) (br_f (by decide) (br_f (by decide) (br_f (by decide) (br_f (by decide) (br_f (by decide) (br_f (by decide) (br_f (by decide) (br_f (by decide) (br_f (by decide) (br_f (by decide) (br_f (by decide) (br_f (by decide) (br_f (by decide) (br_f (by decide) (br_f (by decide) (br_f (by decide) (br_f (by decide) (br_f (by decide) (br_f (by decide) (br_f (by decide) (br_f (by decide) (br_f (by decide) (br_f (by decide) (br_t (by decide) (?_))))))))))))))))))))))))))⟩
  exact h
theorem ex_pf13 {i : Nat} (hi : i < 280) (ho : ro i = 13)  (h : wpX_combine K (oc, tc, cp, lc, sc, kc, nI d, nI w, er, ep, nI g, cls, num, lnk, lsz, lit, fb, tk, tv, rk, rl, ro, ra, rt, rp, oo, co, sk, kd, fr, fn, fi, vs, ll, li, lt) 13) : wpX_perform K (oc, tc, cp, lc, sc, kc, nI d, nI w, er, ep, nI g, cls, num, lnk, lsz, lit, fb, tk, tv, rk, rl, ro, ra, rt, rp, oo, co, sk, kd, fr, fn, fi, vs, ll, li, lt) (nI i) := by
  have ci : (nI i).toNatClampNeg = i := nI_clamp (by omega)
  refine ⟨vp_in_nI hi (by decide), nm_r (e' := 13) (by rw [ci]; exact ho) (br_f (by decide) (br_f (by decide) (br_f (by decide) (br_f (by decide) (br_f (by decide) (br_f (by decide) (br_f (by decide) (br_f (by decide) (br_f (by decide) (br_f (by decide) (br_f (by decide) (br_f (by decide) (br_f (by decide) (br_f (by decide) (br_f (by decide) (br_t (by decide) (?_)))))))))))))))))⟩
  refine ⟨vp_in_nI hi (by decide), ?_⟩
  rw [ci, ho]
  exact h
theorem ex_pf14 {i : Nat} (hi : i < 280) (ho : ro i = 14)  (h : wpX_combine K (oc, tc, cp, lc, sc, kc, nI d, nI w, er, ep, nI g, cls, num, lnk, lsz, lit, fb, tk, tv, rk, rl, ro, ra, rt, rp, oo, co, sk, kd, fr, fn, fi, vs, ll, li, lt) 14) : wpX_perform K (oc, tc, cp, lc, sc, kc, nI d, nI w, er, ep, nI g, cls, num, lnk, lsz, lit, fb, tk, tv, rk, rl, ro, ra, rt, rp, oo, co, sk, kd, fr, fn, fi, vs, ll, li, lt) (nI i) := by
  have ci : (nI i).toNatClampNeg = i := nI_clamp (by omega)
  refine ⟨vp_in_nI hi (by decide), nm_r (e' := 14) (by rw [ci]; exact ho) (br_f (by decide) (br_f (by decide) (br_f (by decide) (br_f (by decide) (br_f (by decide) (br_f (by decide) (br_f (by decide) (br_f (by decide) (br_f (by decide) (br_f (by decide) (br_f (by decide) (br_f (by decide) (br_f (by decide) (br_f (by decide) (br_f (by decide) (br_f (by decide) (br_t (by decide) (?_))))))))))))))))))⟩
  refine ⟨vp_in_nI hi (by decide), ?_⟩
  rw [ci, ho]
  exact h
theorem ex_pf15 {i : Nat} (hi : i < 280) (ho : ro i = 15)  (h : wpX_combine K (oc, tc, cp, lc, sc, kc, nI d, nI w, er, ep, nI g, cls, num, lnk, lsz, lit, fb, tk, tv, rk, rl, ro, ra, rt, rp, oo, co, sk, kd, fr, fn, fi, vs, ll, li, lt) 15) : wpX_perform K (oc, tc, cp, lc, sc, kc, nI d, nI w, er, ep, nI g, cls, num, lnk, lsz, lit, fb, tk, tv, rk, rl, ro, ra, rt, rp, oo, co, sk, kd, fr, fn, fi, vs, ll, li, lt) (nI i) := by
  have ci : (nI i).toNatClampNeg = i := nI_clamp (by omega)
  refine ⟨vp_in_nI hi (by decide), nm_r (e' := 15) (by rw [ci]; exact ho) (br_f (by decide) (br_f (by decide) (br_f (by decide) (br_f (by decide) (br_f (by decide) (br_f (by decide) (br_f (by decide) (br_f (by decide) (br_f (by decide) (br_f (by decide) (br_f (by decide) (br_f (by decide) (br_f (by decide) (br_f (by decide) (br_f (by decide) (br_f (by decide) (br_f (by decide) (br_t (by decide) (?_)))))))))))))))))))⟩
  refine ⟨vp_in_nI hi (by decide), ?_⟩
  rw [ci, ho]
  exact h
theorem ex_pf16 {i : Nat} (hi : i < 280) (ho : ro i = 16)  (h : wpX_combine K (oc, tc, cp, lc, sc, kc, nI d, nI w, er, ep, nI g, cls, num, lnk, lsz, lit, fb, tk, tv, rk, rl, ro, ra, rt, rp, oo, co, sk, kd, fr, fn, fi, vs, ll, li, lt) 16) : wpX_perform K (oc, tc, cp, lc, sc, kc, nI d, nI w, er, ep, nI g, cls, num, lnk, lsz, lit, fb, tk, tv, rk, rl, ro, ra, rt, rp, oo, co, sk, kd, fr, fn, fi, vs, ll, li, lt) (nI i) := by
  have ci : (nI i).toNatClampNeg = i := nI_clamp (by omega)
  refine ⟨vp_in_nI hi (by decide), nm_r (e' := 16) (by rw [ci]; exact ho) (br_f (by decide) (br_f (by decide) (br_f (by decide) (br_f (by decide) (br_f (by decide) (br_f (by decide) (br_f (by decide) (br_f (by decide) (br_f (by decide) (br_f (by decide) (br_f (by decide) (br_f (by decide) (br_f (by decide) (br_f (by decide) (br_f (by decide) (br_f (by decide) (br_f (by decide) (br_f (by decide) (br_t (by decide) (?_))))))))))))))))))))⟩
  refine ⟨vp_in_nI hi (by decide), ?_⟩
  rw [ci, ho]
  exact h
theorem ex_pf17 {i : Nat} (hi : i < 280) (ho : ro i = 17)  (h : wpX_combine K (oc, tc, cp, lc, sc, kc, nI d, nI w, er, ep, nI g, cls, num, lnk, lsz, lit, fb, tk, tv, rk, rl, ro, ra, rt, rp, oo, co, sk, kd, fr, fn, fi, vs, ll, li, lt) 17) : wpX_perform K (oc, tc, cp, lc, sc, kc, nI d, nI w, er, ep, nI g, cls, num, lnk, lsz, lit, fb, tk, tv, rk, rl, ro, ra, rt, rp, oo, co, sk, kd, fr, fn, fi, vs, ll, li, lt) (nI i) := by
  have ci : (nI i).toNatClampNeg = i := nI_clamp (by omega)
  refine ⟨vp_in_nI hi (by decide), nm_r (e' := 17) (by rw [ci]; exact ho) (br_f (by decide) (br_f (by decide) (br_f (by decide) (br_f (by decide) (br_f (by decide) (br_f (by decide) (br_f (by decide) (br_f (by decide) (br_f (by decide) (br_f (by decide) (br_f (by decide) (br_f (by decide) (br_f (by decide) (br_f (by decide) (br_f (by decide) (br_f (by decide) (br_f (by decide) (br_f (by decide) (br_f (by decide) (br_t (by decide) (?_)))))))))))))))))))))⟩
  refine ⟨vp_in_nI hi (by decide), ?_⟩
  rw [ci, ho]
  exact h
theorem ex_pf18 {i : Nat} (hi : i < 280) (ho : ro i = 18)  (h : wpX_combine K (oc, tc, cp, lc, sc, kc, nI d, nI w, er, ep, nI g, cls, num, lnk, lsz, lit, fb, tk, tv, rk, rl, ro, ra, rt, rp, oo, co, sk, kd, fr, fn, fi, vs, ll, li, lt) 18) : wpX_perform K (oc, tc, cp, lc, sc, kc, nI d, nI w, er, ep, nI g, cls, num, lnk, lsz, lit, fb, tk, tv, rk, rl, ro, ra, rt, rp, oo, co, sk, kd, fr, fn, fi, vs, ll, li, lt) (nI i) := by
  have ci : (nI i).toNatClampNeg = i := nI_clamp (by omega)
  refine ⟨vp_in_nI hi (by decide), nm_r (e' := 18) (by rw [ci]; exact ho) (br_f (by decide) (br_f (by decide) (br_f (by decide) (br_f (by decide) (br_f (by decide) (br_f (by decide) (br_f (by decide) (br_f (by decide) (br_f (by decide) (br_f (by decide) (br_f (by decide) (br_f (by decide) (br_f (by decide) (br_f (by decide) (br_f (by decide) (br_f (by decide) (br_f (by decide) (br_f (by decide) (br_f (by decide) (br_f (by decide) (br_t (by decide) (?_))))))))))))))))))))))⟩
  refine ⟨vp_in_nI hi (by decide), ?_⟩
  rw [ci, ho]
  exact h
theorem ex_pf24 {q c m : Nat} (hq : q < 6) (hc : c < 40) (hm : m < 40) (ho : ro (q * 40 + c) = 24) (ea : ra (q * 40 + c) = nI m) (h : wpX_endRound K (oc, tc, cp, lc, sc, kc, nI d, nI w, er, ep, nI g, cls, num, lnk, lsz, lit, fb, tk, tv, rk, rl, ro, ra, rt, rp, oo, co, sk, kd, fr, fn, fi, vs, ll, li, lt) (nI (q * 40 + m))) : wpX_perform K (oc, tc, cp, lc, sc, kc, nI d, nI w, er, ep, nI g, cls, num, lnk, lsz, lit, fb, tk, tv, rk, rl, ro, ra, rt, rp, oo, co, sk, kd, fr, fn, fi, vs, ll, li, lt) (nI (q * 40 + c)) := by
  have ci : (nI (q * 40 + c)).toNatClampNeg = q * 40 + c := nI_clamp (by omega)
  have ix : nI (q * 40 + c) - (nI (q * 40 + c) - nI (q * 40 + c) / 40 * 40) + nI m = nI (q * 40 + m) := by
    rw [show (40 : Int32) = nI 40 from rfl, pk_rem (by omega) (by omega) (by omega), pk_sub (Nat.mod_le _ _), nI_add]
    exact congrArg nI (by omega)
  refine ⟨vp_in_nI (by omega) (by decide), nm_r (e' := 24) (by rw [ci]; exact ho) (br_f (by decide) (br_f (by decide) (br_f (by decide) (br_f (by decide) (br_f (by decide) (br_f (by decide) (br_f (by decide) (br_f (by decide) (br_f (by decide) (br_f (by decide) (br_f (by decide) (br_f (by decide) (br_f (by decide) (br_f (by decide) (br_f (by decide) (br_f (by decide) (br_f (by decide) (br_f (by decide) (br_f (by decide) (br_f (by decide) (br_f (by decide) (br_f (by decide) (br_f (by decide) (br_f (by decide) (br_f (by decide) (br_f (by decide) (br_t (by decide) (?_))))))))))))))))))))))))))))⟩
  rw [ci, ea, ix]
  exact ⟨by decide, vp_in_nI (by omega) (by decide), h⟩
end
end
section
def ex_R (post : Int32 → SX → Prop) (oc tc cp lc sc kc er ep : Int32) (cls num lnk lsz lit fb tk tv rk rl ro ra rt rp oo co sk kd : Nat → Int32) (s d w g : Nat) (fr fn fi vs ll li lt : Nat → Int32) : Prop := ∃ n, wX_run_2 post n (nI s) oc tc cp lc sc kc (nI d) (nI w) er ep (nI g) cls num lnk lsz lit fb tk tv rk rl ro ra rt rp oo co sk kd fr fn fi vs ll li lt
/-- the run stands before instruction c of rule q, in frame l -/
def ex_at (rl fr fn : Nat → Int32) (s l q c len : Nat) : Prop := s < 1000000 ∧ l < 5 ∧ q < 6 ∧ fr l = nI q ∧ fn l = nI c ∧ rl q = nI len ∧ c < len ∧ len ≤ 40
section
variable {post : Int32 → SX → Prop} {oc tc cp lc sc kc er ep : Int32} {cls num lnk lsz lit fb tk tv rk rl ro ra rt rp oo co sk kd fr fn fi vs ll li lt : Nat → Int32} {s l w g q c len : Nat}
theorem ex_go {d' w' g' : Nat} {fr' fn' fi' vs' ll' li' lt' : Nat → Int32} (ha : ex_at rl fr fn s l q c len) (H : ∀ K : Int32 → SX → Prop, K 1 (oc, tc, cp, lc, sc, kc, nI d', nI w', er, ep, nI g', cls, num, lnk, lsz, lit, fb, tk, tv, rk, rl, ro, ra, rt, rp, oo, co, sk, kd, fr', fn', fi', vs', ll', li', lt') → wpX_perform K (oc, tc, cp, lc, sc, kc, nI (l + 1), nI w, er, ep, nI g, cls, num, lnk, lsz, lit, fb, tk, tv, rk, rl, ro, ra, rt, rp, oo, co, sk, kd, fr, upd fn l (nI (c + 1)), fi, vs, ll, li, lt) (nI (q * 40 + c))) (h : ex_R post oc tc cp lc sc kc er ep cls num lnk lsz lit fb tk tv rk rl ro ra rt rp oo co sk kd (s + 1) d' w' g' fr' fn' fi' vs' ll' li' lt') : ex_R post oc tc cp lc sc kc er ep cls num lnk lsz lit fb tk tv rk rl ro ra rt rp oo co sk kd s (l + 1) w g fr fn fi vs ll li lt := by
  obtain ⟨hs, hd5, hq, h1, h2, hl, hc, h40⟩ := ha
  obtain ⟨n, hn⟩ := h
  have ce : (nI l).toNatClampNeg = l := nI_clamp (by omega)
  have ie : vp_in (nI l) 5 := vp_in_nI (by omega) (by decide)
  refine ⟨n + 1, br_f (nI_ge (b := 1000000) hs (by decide)) (nm_r (nI_pred l) ⟨ie, nm_r (e' := nI q) (by rw [ce]; exact h1) ⟨ie, nm_r (e' := nI c) (by rw [ce]; exact h2) ⟨vp_in_nI (by omega) (by decide), br_f (by rw [nI_clamp (by omega), hl]; exact nI_ge hc (by omega)) ⟨ie, nm_r (e' := upd fn l (nI (c + 1))) (by rw [ce, nI_1]) ?_⟩⟩⟩⟩)⟩
  rw [show nI q * 40 + nI c = nI (q * 40 + c) from gr_lin q 40 c rfl rfl]
  refine H _ ?_
  exact br_t rfl (nm_r (nI_1 s) hn)
theorem ex_er {d' w' g' x : Nat} {fr' fn' fi' vs' ll' li' lt' : Nat → Int32} (ha : ex_at rl fr fn s l q c len) (hx : ¬ nI x = 1) (H : ∀ K : Int32 → SX → Prop, K (nI x) (oc, tc, cp, lc, sc, kc, nI d', nI w', er, ep, nI g', cls, num, lnk, lsz, lit, fb, tk, tv, rk, rl, ro, ra, rt, rp, oo, co, sk, kd, fr', fn', fi', vs', ll', li', lt') → wpX_perform K (oc, tc, cp, lc, sc, kc, nI (l + 1), nI w, er, ep, nI g, cls, num, lnk, lsz, lit, fb, tk, tv, rk, rl, ro, ra, rt, rp, oo, co, sk, kd, fr, upd fn l (nI (c + 1)), fi, vs, ll, li, lt) (nI (q * 40 + c))) (h : post (nI x) (oc, tc, cp, lc, sc, kc, nI d', nI w', er, ep, nI g', cls, num, lnk, lsz, lit, fb, tk, tv, rk, rl, ro, ra, rt, rp, oo, co, sk, kd, fr', fn', fi', vs', ll', li', lt')) : ex_R post oc tc cp lc sc kc er ep cls num lnk lsz lit fb tk tv rk rl ro ra rt rp oo co sk kd s (l + 1) w g fr fn fi vs ll li lt := by
  obtain ⟨hs, hd5, hq, h1, h2, hl, hc, h40⟩ := ha
  have ce : (nI l).toNatClampNeg = l := nI_clamp (by omega)
  have ie : vp_in (nI l) 5 := vp_in_nI (by omega) (by decide)
  refine ⟨1, br_f (nI_ge (b := 1000000) hs (by decide)) (nm_r (nI_pred l) ⟨ie, nm_r (e' := nI q) (by rw [ce]; exact h1) ⟨ie, nm_r (e' := nI c) (by rw [ce]; exact h2) ⟨vp_in_nI (by omega) (by decide), br_f (by rw [nI_clamp (by omega), hl]; exact nI_ge hc (by omega)) ⟨ie, nm_r (e' := upd fn l (nI (c + 1))) (by rw [ce, nI_1]) ?_⟩⟩⟩⟩)⟩
  rw [show nI q * 40 + nI c = nI (q * 40 + c) from gr_lin q 40 c rfl rfl]
  refine H _ ?_
  exact br_f hx h
theorem xr_ret {d : Nat} (hs : s < 1000000) (hd : 1 ≤ d) (hd5 : d + 1 ≤ 5) (hq : q < 6) (h1 : fr d = nI q) (hl : rl q = nI len) (h40 : len ≤ 40) (h2 : fn d = nI len) (h : ex_R post oc tc cp lc sc kc er ep cls num lnk lsz lit fb tk tv rk rl ro ra rt rp oo co sk kd (s + 1) d w g fr fn fi vs ll li lt) : ex_R post oc tc cp lc sc kc er ep cls num lnk lsz lit fb tk tv rk rl ro ra rt rp oo co sk kd s (d + 1) w g fr fn fi vs ll li lt := by
  obtain ⟨n, hn⟩ := h
  have ce : (nI d).toNatClampNeg = d := nI_clamp (by omega)
  have ie : vp_in (nI d) 5 := vp_in_nI (by omega) (by decide)
  exact ⟨n + 1, br_f (nI_ge (b := 1000000) hs (by decide)) (nm_r (nI_pred d) ⟨ie, nm_r (e' := nI q) (by rw [ce]; exact h1) ⟨ie, nm_r (e' := nI len) (by rw [ce]; exact h2) ⟨vp_in_nI (by omega) (by decide), br_t (by rw [nI_clamp (by omega), hl]; exact nI_le (Nat.le_refl _) (by omega)) (br_f (nI_ne0 hd (by omega)) (nm_r (nI_1 s) hn))⟩⟩⟩)⟩
theorem xr_end (hs : s < 1000000) (hq : q < 6) (h1 : fr 0 = nI q) (hl : rl q = nI len) (h40 : len ≤ 40) (h2 : fn 0 = nI len) (h : post 1 (oc, tc, cp, lc, sc, kc, nI 1, nI w, er, ep, nI g, cls, num, lnk, lsz, lit, fb, tk, tv, rk, rl, ro, ra, rt, rp, oo, co, sk, kd, fr, fn, fi, vs, ll, li, lt)) : ex_R post oc tc cp lc sc kc er ep cls num lnk lsz lit fb tk tv rk rl ro ra rt rp oo co sk kd s 1 w g fr fn fi vs ll li lt := by
  exact ⟨1, br_f (nI_ge (b := 1000000) hs (by decide)) (nm_r (nI_pred 0) ⟨vp_in_nI (by decide) (by decide), nm_r (e' := nI q) h1 ⟨vp_in_nI (by decide) (by decide), nm_r (e' := nI len) h2 ⟨vp_in_nI (by omega) (by decide), br_t (by rw [nI_clamp (by omega), hl]; exact nI_le (Nat.le_refl _) (by omega)) (br_t rfl h)⟩⟩⟩)⟩
theorem xr_num (ha : ex_at rl fr fn s l q c len) (ho : ro (q * 40 + c) = 0) (hw : w < 200) (h : ex_R post oc tc cp lc sc kc er ep cls num lnk lsz lit fb tk tv rk rl ro ra rt rp oo co sk kd (s + 1) (l + 1) (w + 1) g fr (upd fn l (nI (c + 1))) fi (upd vs w (ra (q * 40 + c))) ll li lt) : ex_R post oc tc cp lc sc kc er ep cls num lnk lsz lit fb tk tv rk rl ro ra rt rp oo co sk kd s (l + 1) w g fr fn fi vs ll li lt := by
  obtain ⟨hs, hd4, hq, h1, h2, hlq, hc, h40⟩ := id ha
  have hd : 1 ≤ l + 1 := by omega
  have hd5 : l + 1 ≤ 5 := by omega
  have hi : q * 40 + c < 280 := by omega
  exact ex_go ha (fun K k => ex_pf0 hi ho hw k) h
theorem xr_it (ha : ex_at rl fr fn s l q c len) (ho : ro (q * 40 + c) = 3) (hw : w < 200) (h : ex_R post oc tc cp lc sc kc er ep cls num lnk lsz lit fb tk tv rk rl ro ra rt rp oo co sk kd (s + 1) (l + 1) (w + 1) g fr (upd fn l (nI (c + 1))) fi (upd vs w (fi l)) ll li lt) : ex_R post oc tc cp lc sc kc er ep cls num lnk lsz lit fb tk tv rk rl ro ra rt rp oo co sk kd s (l + 1) w g fr fn fi vs ll li lt := by
  obtain ⟨hs, hd4, hq, h1, h2, hlq, hc, h40⟩ := id ha
  have hd : 1 ≤ l + 1 := by omega
  have hd5 : l + 1 ≤ 5 := by omega
  have hi : q * 40 + c < 280 := by omega
  exact ex_go ha (fun K k => ex_pf3 hi ho hd hd5 hw k) h
theorem xr_nil (ha : ex_at rl fr fn s l q c len) (ho : ro (q * 40 + c) = 19) (hw : w < 200) (h : ex_R post oc tc cp lc sc kc er ep cls num lnk lsz lit fb tk tv rk rl ro ra rt rp oo co sk kd (s + 1) (l + 1) (w + 1) g fr (upd fn l (nI (c + 1))) fi (upd vs w (-1)) ll li lt) : ex_R post oc tc cp lc sc kc er ep cls num lnk lsz lit fb tk tv rk rl ro ra rt rp oo co sk kd s (l + 1) w g fr fn fi vs ll li lt := by
  obtain ⟨hs, hd4, hq, h1, h2, hlq, hc, h40⟩ := id ha
  have hd : 1 ≤ l + 1 := by omega
  have hd5 : l + 1 ≤ 5 := by omega
  have hi : q * 40 + c < 280 := by omega
  exact ex_go ha (fun K k => ex_pf19 hi ho hw k) h
theorem xr_var (ha : ex_at rl fr fn s l q c len) (ho : ro (q * 40 + c) = 4) {v a j : Nat} (hw : w < 200) (hv : v < 3) (ea : ra (q * 40 + c) = nI v) (el : ll (l * 3 + v) = nI a) (ej : li (l * 3 + v) = nI j) (hlj : a * 4 + j < 64) (h : ex_R post oc tc cp lc sc kc er ep cls num lnk lsz lit fb tk tv rk rl ro ra rt rp oo co sk kd (s + 1) (l + 1) (w + 1) g fr (upd fn l (nI (c + 1))) fi (upd vs w (lit (a * 4 + j))) ll li lt) : ex_R post oc tc cp lc sc kc er ep cls num lnk lsz lit fb tk tv rk rl ro ra rt rp oo co sk kd s (l + 1) w g fr fn fi vs ll li lt := by
  obtain ⟨hs, hd4, hq, h1, h2, hlq, hc, h40⟩ := id ha
  have hd : 1 ≤ l + 1 := by omega
  have hd5 : l + 1 ≤ 5 := by omega
  have hi : q * 40 + c < 280 := by omega
  exact ex_go ha (fun K k => ex_pf4 hi ho hd hd5 hw hv ea el ej hlj k) h
theorem xr_rd_nul (ha : ex_at rl fr fn s l q c len) (ho : ro (q * 40 + c) = 1) (hw : w < 200) (hv : vs w = -1) (h : post 2 (oc, tc, cp, lc, sc, kc, nI (l + 1), nI w, er, ep, nI g, cls, num, lnk, lsz, lit, fb, tk, tv, rk, rl, ro, ra, rt, rp, oo, co, sk, kd, fr, upd fn l (nI (c + 1)), fi, vs, ll, li, lt)) : ex_R post oc tc cp lc sc kc er ep cls num lnk lsz lit fb tk tv rk rl ro ra rt rp oo co sk kd s (l + 1) (w + 1) g fr fn fi vs ll li lt := by
  obtain ⟨hs, hd4, hq, h1, h2, hlq, hc, h40⟩ := id ha
  have hd : 1 ≤ l + 1 := by omega
  have hd5 : l + 1 ≤ 5 := by omega
  have hi : q * 40 + c < 280 := by omega
  exact ex_er (x := 2) ha (by decide) (fun K k => ex_pf1 hi ho (ex_rd_nul hw hv k)) h
theorem xr_rd_saf (ha : ex_at rl fr fn s l q c len) (ho : ro (q * 40 + c) = 2) {p : Nat} (hw : w < 200) (hp : p < 6) (ea : ra (q * 40 + c) = nI p) (hv : vs w = -1) (h : ex_R post oc tc cp lc sc kc er ep cls num lnk lsz lit fb tk tv rk rl ro ra rt rp oo co sk kd (s + 1) (l + 1) (w + 1) g fr (upd fn l (nI (c + 1))) fi (upd vs w (if p < 3 then 0 else -1)) ll li lt) : ex_R post oc tc cp lc sc kc er ep cls num lnk lsz lit fb tk tv rk rl ro ra rt rp oo co sk kd s (l + 1) (w + 1) g fr fn fi vs ll li lt := by
  obtain ⟨hs, hd4, hq, h1, h2, hlq, hc, h40⟩ := id ha
  have hd : 1 ≤ l + 1 := by omega
  have hd5 : l + 1 ≤ 5 := by omega
  have hi : q * 40 + c < 280 := by omega
  exact ex_go ha (fun K k => ex_pf2 hi ho (by rw [ea]; exact ex_rd_saf hw hp hv k)) h
theorem xr_rd_den1 (ha : ex_at rl fr fn s l q c len) (ho : ro (q * 40 + c) = 1) {p i cc : Nat} (hw : w < 200) (hp : p < 6) (ea : ra (q * 40 + c) = nI p) (hi8 : i < 8) (hv : vs w = nI i) (hcc : cc < 3) (ec : cls i = nI cc) (hf : ¬ fb (cc * 6 + p) = 0) (h : post 3 (oc, tc, cp, lc, sc, kc, nI (l + 1), nI w, er, ep, nI g, cls, num, lnk, lsz, lit, fb, tk, tv, rk, rl, ro, ra, rt, rp, oo, co, sk, kd, fr, upd fn l (nI (c + 1)), fi, vs, ll, li, lt)) : ex_R post oc tc cp lc sc kc er ep cls num lnk lsz lit fb tk tv rk rl ro ra rt rp oo co sk kd s (l + 1) (w + 1) g fr fn fi vs ll li lt := by
  obtain ⟨hs, hd4, hq, h1, h2, hlq, hc, h40⟩ := id ha
  have hd : 1 ≤ l + 1 := by omega
  have hd5 : l + 1 ≤ 5 := by omega
  have hi : q * 40 + c < 280 := by omega
  exact ex_er (x := 3) ha (by decide) (fun K k => ex_pf1 hi ho (by rw [ea]; exact ex_rd_den hw hp hi8 hv hcc ec hf k)) h
theorem xr_rd_ok1 (ha : ex_at rl fr fn s l q c len) (ho : ro (q * 40 + c) = 1) {p i cc : Nat} (hw : w < 200) (hp : p < 6) (ea : ra (q * 40 + c) = nI p) (hi8 : i < 8) (hv : vs w = nI i) (hcc : cc < 3) (ec : cls i = nI cc) (hf : fb (cc * 6 + p) = 0) (h : ex_R post oc tc cp lc sc kc er ep cls num lnk lsz lit fb tk tv rk rl ro ra rt rp oo co sk kd (s + 1) (l + 1) (w + 1) g fr (upd fn l (nI (c + 1))) fi (upd vs w (if p < 3 then num (i * 3 + p) else if p = 3 then lnk i else nI (i * 2 + p - 4))) ll li lt) : ex_R post oc tc cp lc sc kc er ep cls num lnk lsz lit fb tk tv rk rl ro ra rt rp oo co sk kd s (l + 1) (w + 1) g fr fn fi vs ll li lt := by
  obtain ⟨hs, hd4, hq, h1, h2, hlq, hc, h40⟩ := id ha
  have hd : 1 ≤ l + 1 := by omega
  have hd5 : l + 1 ≤ 5 := by omega
  have hi : q * 40 + c < 280 := by omega
  exact ex_go ha (fun K k => ex_pf1 hi ho (by rw [ea]; exact ex_rd_ok hw hp hi8 hv hcc ec hf k)) h
theorem xr_rd_den2 (ha : ex_at rl fr fn s l q c len) (ho : ro (q * 40 + c) = 2) {p i cc : Nat} (hw : w < 200) (hp : p < 6) (ea : ra (q * 40 + c) = nI p) (hi8 : i < 8) (hv : vs w = nI i) (hcc : cc < 3) (ec : cls i = nI cc) (hf : ¬ fb (cc * 6 + p) = 0) (h : post 3 (oc, tc, cp, lc, sc, kc, nI (l + 1), nI w, er, ep, nI g, cls, num, lnk, lsz, lit, fb, tk, tv, rk, rl, ro, ra, rt, rp, oo, co, sk, kd, fr, upd fn l (nI (c + 1)), fi, vs, ll, li, lt)) : ex_R post oc tc cp lc sc kc er ep cls num lnk lsz lit fb tk tv rk rl ro ra rt rp oo co sk kd s (l + 1) (w + 1) g fr fn fi vs ll li lt := by
  obtain ⟨hs, hd4, hq, h1, h2, hlq, hc, h40⟩ := id ha
  have hd : 1 ≤ l + 1 := by omega
  have hd5 : l + 1 ≤ 5 := by omega
  have hi : q * 40 + c < 280 := by omega
  exact ex_er (x := 3) ha (by decide) (fun K k => ex_pf2 hi ho (by rw [ea]; exact ex_rd_den hw hp hi8 hv hcc ec hf k)) h
theorem xr_rd_ok2 (ha : ex_at rl fr fn s l q c len) (ho : ro (q * 40 + c) = 2) {p i cc : Nat} (hw : w < 200) (hp : p < 6) (ea : ra (q * 40 + c) = nI p) (hi8 : i < 8) (hv : vs w = nI i) (hcc : cc < 3) (ec : cls i = nI cc) (hf : fb (cc * 6 + p) = 0) (h : ex_R post oc tc cp lc sc kc er ep cls num lnk lsz lit fb tk tv rk rl ro ra rt rp oo co sk kd (s + 1) (l + 1) (w + 1) g fr (upd fn l (nI (c + 1))) fi (upd vs w (if p < 3 then num (i * 3 + p) else if p = 3 then lnk i else nI (i * 2 + p - 4))) ll li lt) : ex_R post oc tc cp lc sc kc er ep cls num lnk lsz lit fb tk tv rk rl ro ra rt rp oo co sk kd s (l + 1) (w + 1) g fr fn fi vs ll li lt := by
  obtain ⟨hs, hd4, hq, h1, h2, hlq, hc, h40⟩ := id ha
  have hd : 1 ≤ l + 1 := by omega
  have hd5 : l + 1 ≤ 5 := by omega
  have hi : q * 40 + c < 280 := by omega
  exact ex_go ha (fun K k => ex_pf2 hi ho (by rw [ea]; exact ex_rd_ok hw hp hi8 hv hcc ec hf k)) h
theorem xr_not (ha : ex_at rl fr fn s l q c len) (ho : ro (q * 40 + c) = 12) (hw : w < 200) (h : ex_R post oc tc cp lc sc kc er ep cls num lnk lsz lit fb tk tv rk rl ro ra rt rp oo co sk kd (s + 1) (l + 1) (w + 1) g fr (upd fn l (nI (c + 1))) fi (upd vs w (1 - vs w)) ll li lt) : ex_R post oc tc cp lc sc kc er ep cls num lnk lsz lit fb tk tv rk rl ro ra rt rp oo co sk kd s (l + 1) (w + 1) g fr fn fi vs ll li lt := by
  obtain ⟨hs, hd4, hq, h1, h2, hlq, hc, h40⟩ := id ha
  have hd : 1 ≤ l + 1 := by omega
  have hd5 : l + 1 ≤ 5 := by omega
  have hi : q * 40 + c < 280 := by omega
  exact ex_go ha (fun K k => ex_pf12 hi ho hw k) h
theorem xr_neg (ha : ex_at rl fr fn s l q c len) (ho : ro (q * 40 + c) = 23) (hw : w < 200) (h : ex_R post oc tc cp lc sc kc er ep cls num lnk lsz lit fb tk tv rk rl ro ra rt rp oo co sk kd (s + 1) (l + 1) (w + 1) g fr (upd fn l (nI (c + 1))) fi (upd vs w (-(vs w))) ll li lt) : ex_R post oc tc cp lc sc kc er ep cls num lnk lsz lit fb tk tv rk rl ro ra rt rp oo co sk kd s (l + 1) (w + 1) g fr fn fi vs ll li lt := by
  obtain ⟨hs, hd4, hq, h1, h2, hlq, hc, h40⟩ := id ha
  have hd : 1 ≤ l + 1 := by omega
  have hd5 : l + 1 ≤ 5 := by omega
  have hi : q * 40 + c < 280 := by omega
  exact ex_go ha (fun K k => ex_pf23 hi ho hw k) h
theorem xr_bin (ha : ex_at rl fr fn s l q c len) {t : Nat} (h13 : 13 ≤ t) (h18 : t ≤ 18) (ho : ro (q * 40 + c) = nI t) (hw : w + 1 < 200) (hz : ¬ (t = 18 ∧ vs (w + 1) = 0)) (h : ex_R post oc tc cp lc sc kc er ep cls num lnk lsz lit fb tk tv rk rl ro ra rt rp oo co sk kd (s + 1) (l + 1) (w + 1) g fr (upd fn l (nI (c + 1))) fi (upd vs w (gr_bv t (vs w) (vs (w + 1)))) ll li lt) : ex_R post oc tc cp lc sc kc er ep cls num lnk lsz lit fb tk tv rk rl ro ra rt rp oo co sk kd s (l + 1) (w + 2) g fr fn fi vs ll li lt := by
  obtain ⟨hs, hd4, hq, h1, h2, hlq, hc, h40⟩ := id ha
  have hd : 1 ≤ l + 1 := by omega
  have hd5 : l + 1 ≤ 5 := by omega
  have hi : q * 40 + c < 280 := by omega
  have ht : t = 13 ∨ t = 14 ∨ t = 15 ∨ t = 16 ∨ t = 17 ∨ t = 18 := by omega
  rcases ht with rfl | rfl | rfl | rfl | rfl | rfl
  · exact ex_go ha (fun K k => ex_pf13 hi ho (ex_cmb13 hw k)) h
  · exact ex_go ha (fun K k => ex_pf14 hi ho (ex_cmb14 hw k)) h
  · exact ex_go ha (fun K k => ex_pf15 hi ho (ex_cmb15 hw k)) h
  · exact ex_go ha (fun K k => ex_pf16 hi ho (ex_cmb16 hw k)) h
  · exact ex_go ha (fun K k => ex_pf17 hi ho (ex_cmb17 hw k)) h
  · exact ex_go ha (fun K k => ex_pf18 hi ho (ex_cmb18 hw (fun z => hz ⟨rfl, z⟩) k)) h
theorem xr_div (ha : ex_at rl fr fn s l q c len) (ho : ro (q * 40 + c) = 18) (hw : w + 1 < 200) (hv : vs (w + 1) = 0) (h : post 4 (oc, tc, cp, lc, sc, kc, nI (l + 1), nI w, er, ep, nI g, cls, num, lnk, lsz, lit, fb, tk, tv, rk, rl, ro, ra, rt, rp, oo, co, sk, kd, fr, upd fn l (nI (c + 1)), fi, vs, ll, li, lt)) : ex_R post oc tc cp lc sc kc er ep cls num lnk lsz lit fb tk tv rk rl ro ra rt rp oo co sk kd s (l + 1) (w + 2) g fr fn fi vs ll li lt := by
  obtain ⟨hs, hd4, hq, h1, h2, hlq, hc, h40⟩ := id ha
  have hd : 1 ≤ l + 1 := by omega
  have hd5 : l + 1 ≤ 5 := by omega
  have hi : q * 40 + c < 280 := by omega
  exact ex_er (x := 4) ha (by decide) (fun K k => ex_pf18 hi ho (ex_cmb_div hw hv k)) h
theorem xr_cl_nul (ha : ex_at rl fr fn s l q c len) (ho : ro (q * 40 + c) = 5) (hw : w < 200) (hv : vs w = -1) (h : post 2 (oc, tc, cp, lc, sc, kc, nI (l + 1), nI w, er, ep, nI g, cls, num, lnk, lsz, lit, fb, tk, tv, rk, rl, ro, ra, rt, rp, oo, co, sk, kd, fr, upd fn l (nI (c + 1)), fi, vs, ll, li, lt)) : ex_R post oc tc cp lc sc kc er ep cls num lnk lsz lit fb tk tv rk rl ro ra rt rp oo co sk kd s (l + 1) (w + 1) g fr fn fi vs ll li lt := by
  obtain ⟨hs, hd4, hq, h1, h2, hlq, hc, h40⟩ := id ha
  have hd : 1 ≤ l + 1 := by omega
  have hd5 : l + 1 ≤ 5 := by omega
  have hi : q * 40 + c < 280 := by omega
  exact ex_er (x := 2) ha (by decide) (fun K k => ex_pf5 hi ho (ex_cl_nul hw hv k)) h
theorem xr_cl_deep (ha : ex_at rl fr fn s l q c len) (ho : ro (q * 40 + c) = 5) {i : Nat} (hw : w < 200) (hi8 : i < 8) (hv : vs w = nI i) (hdd : l = 4) (h : post 5 (oc, tc, cp, lc, sc, kc, nI (l + 1), nI w, er, ep, nI g, cls, num, lnk, lsz, lit, fb, tk, tv, rk, rl, ro, ra, rt, rp, oo, co, sk, kd, fr, upd fn l (nI (c + 1)), fi, vs, ll, li, lt)) : ex_R post oc tc cp lc sc kc er ep cls num lnk lsz lit fb tk tv rk rl ro ra rt rp oo co sk kd s (l + 1) (w + 1) g fr fn fi vs ll li lt := by
  obtain ⟨hs, hd4, hq, h1, h2, hlq, hc, h40⟩ := id ha
  have hd : 1 ≤ l + 1 := by omega
  have hd5 : l + 1 ≤ 5 := by omega
  have hi : q * 40 + c < 280 := by omega
  exact ex_er (x := 5) ha (by decide) (fun K k => ex_pf5 hi ho (ex_cl_deep hw hi8 hv (by omega) k)) h
theorem xr_cl_stop (ha : ex_at rl fr fn s l q c len) (ho : ro (q * 40 + c) = 5) {i : Nat} (hw : w < 200) (hi8 : i < 8) (hv : vs w = nI i) (hdd : l < 4) (hg : g = 40) (h : post 6 (oc, tc, cp, lc, sc, kc, nI (l + 1), nI w, er, ep, nI g, cls, num, lnk, lsz, lit, fb, tk, tv, rk, rl, ro, ra, rt, rp, oo, co, sk, kd, fr, upd fn l (nI (c + 1)), fi, vs, ll, li, lt)) : ex_R post oc tc cp lc sc kc er ep cls num lnk lsz lit fb tk tv rk rl ro ra rt rp oo co sk kd s (l + 1) (w + 1) g fr fn fi vs ll li lt := by
  obtain ⟨hs, hd4, hq, h1, h2, hlq, hc, h40⟩ := id ha
  have hd : 1 ≤ l + 1 := by omega
  have hd5 : l + 1 ≤ 5 := by omega
  have hi : q * 40 + c < 280 := by omega
  exact ex_er (x := 6) ha (by decide) (fun K k => ex_pf5 hi ho (ex_cl_stop hw hi8 hv (by omega) hg k)) h
theorem xr_cl_ok (ha : ex_at rl fr fn s l q c len) (ho : ro (q * 40 + c) = 5) {i : Nat} (hw : w < 200) (hi8 : i < 8) (hv : vs w = nI i) (hdd : l < 4) (hg : g < 40) (h : ex_R post oc tc cp lc sc kc er ep cls num lnk lsz lit fb tk tv rk rl ro ra rt rp oo co sk kd (s + 1) (l + 2) w (g + 1) (upd fr (l + 1) (ra (q * 40 + c))) (upd (upd fn l (nI (c + 1))) (l + 1) 0) (upd fi (l + 1) (nI i)) vs ll li lt) : ex_R post oc tc cp lc sc kc er ep cls num lnk lsz lit fb tk tv rk rl ro ra rt rp oo co sk kd s (l + 1) (w + 1) g fr fn fi vs ll li lt := by
  obtain ⟨hs, hd4, hq, h1, h2, hlq, hc, h40⟩ := id ha
  have hd : 1 ≤ l + 1 := by omega
  have hd5 : l + 1 ≤ 5 := by omega
  have hi : q * 40 + c < 280 := by omega
  exact ex_go ha (fun K k => ex_pf5 hi ho (ex_cl_ok hw hi8 hv (by omega) hg k)) h
theorem xr_col (ha : ex_at rl fr fn s l q c len) (ho : ro (q * 40 + c) = 9) (h : ex_R post oc tc cp lc sc kc er ep cls num lnk lsz lit fb tk tv rk rl ro ra rt rp oo co sk kd (s + 1) (l + 1) w g fr (upd (upd fn l (nI (c + 1))) l (rt (q * 40 + c))) fi vs ll li lt) : ex_R post oc tc cp lc sc kc er ep cls num lnk lsz lit fb tk tv rk rl ro ra rt rp oo co sk kd s (l + 1) w g fr fn fi vs ll li lt := by
  obtain ⟨hs, hd4, hq, h1, h2, hlq, hc, h40⟩ := id ha
  have hd : 1 ≤ l + 1 := by omega
  have hd5 : l + 1 ≤ 5 := by omega
  have hi : q * 40 + c < 280 := by omega
  exact ex_go ha (fun K k => ex_pf9 hi ho (ex_br9 hi ho hd hd5 k)) h
theorem xr_ask0 (ha : ex_at rl fr fn s l q c len) (ho : ro (q * 40 + c) = 8) (hw : w < 200) (hv : vs w = 0) (h : ex_R post oc tc cp lc sc kc er ep cls num lnk lsz lit fb tk tv rk rl ro ra rt rp oo co sk kd (s + 1) (l + 1) w g fr (upd (upd fn l (nI (c + 1))) l (rt (q * 40 + c))) fi vs ll li lt) : ex_R post oc tc cp lc sc kc er ep cls num lnk lsz lit fb tk tv rk rl ro ra rt rp oo co sk kd s (l + 1) (w + 1) g fr fn fi vs ll li lt := by
  obtain ⟨hs, hd4, hq, h1, h2, hlq, hc, h40⟩ := id ha
  have hd : 1 ≤ l + 1 := by omega
  have hd5 : l + 1 ≤ 5 := by omega
  have hi : q * 40 + c < 280 := by omega
  exact ex_go ha (fun K k => ex_pf8 hi ho (ex_ask0 hi ho hd hd5 hw hv k)) h
theorem xr_ask1 (ha : ex_at rl fr fn s l q c len) (ho : ro (q * 40 + c) = 8) (hw : w < 200) (hv : ¬ vs w = 0) (h : ex_R post oc tc cp lc sc kc er ep cls num lnk lsz lit fb tk tv rk rl ro ra rt rp oo co sk kd (s + 1) (l + 1) w g fr (upd fn l (nI (c + 1))) fi vs ll li lt) : ex_R post oc tc cp lc sc kc er ep cls num lnk lsz lit fb tk tv rk rl ro ra rt rp oo co sk kd s (l + 1) (w + 1) g fr fn fi vs ll li lt := by
  obtain ⟨hs, hd4, hq, h1, h2, hlq, hc, h40⟩ := id ha
  have hd : 1 ≤ l + 1 := by omega
  have hd5 : l + 1 ≤ 5 := by omega
  have hi : q * 40 + c < 280 := by omega
  exact ex_go ha (fun K k => ex_pf8 hi ho (ex_ask1 hi ho hd hd5 hw hv k)) h
theorem xr_or0 (ha : ex_at rl fr fn s l q c len) (ho : ro (q * 40 + c) = 10) (hw : w < 200) (hv : vs w = 0) (h : ex_R post oc tc cp lc sc kc er ep cls num lnk lsz lit fb tk tv rk rl ro ra rt rp oo co sk kd (s + 1) (l + 1) w g fr (upd fn l (nI (c + 1))) fi vs ll li lt) : ex_R post oc tc cp lc sc kc er ep cls num lnk lsz lit fb tk tv rk rl ro ra rt rp oo co sk kd s (l + 1) (w + 1) g fr fn fi vs ll li lt := by
  obtain ⟨hs, hd4, hq, h1, h2, hlq, hc, h40⟩ := id ha
  have hd : 1 ≤ l + 1 := by omega
  have hd5 : l + 1 ≤ 5 := by omega
  have hi : q * 40 + c < 280 := by omega
  exact ex_go ha (fun K k => ex_pf10 hi ho (ex_or0 hi ho hd hd5 hw hv k)) h
theorem xr_or1 (ha : ex_at rl fr fn s l q c len) (ho : ro (q * 40 + c) = 10) (hw : w < 200) (hv : ¬ vs w = 0) (h : ex_R post oc tc cp lc sc kc er ep cls num lnk lsz lit fb tk tv rk rl ro ra rt rp oo co sk kd (s + 1) (l + 1) (w + 1) g fr (upd (upd fn l (nI (c + 1))) l (rt (q * 40 + c))) fi vs ll li lt) : ex_R post oc tc cp lc sc kc er ep cls num lnk lsz lit fb tk tv rk rl ro ra rt rp oo co sk kd s (l + 1) (w + 1) g fr fn fi vs ll li lt := by
  obtain ⟨hs, hd4, hq, h1, h2, hlq, hc, h40⟩ := id ha
  have hd : 1 ≤ l + 1 := by omega
  have hd5 : l + 1 ≤ 5 := by omega
  have hi : q * 40 + c < 280 := by omega
  exact ex_go ha (fun K k => ex_pf10 hi ho (ex_or1 hi ho hd hd5 hw hv k)) h
theorem xr_and0 (ha : ex_at rl fr fn s l q c len) (ho : ro (q * 40 + c) = 11) (hw : w < 200) (hv : vs w = 0) (h : ex_R post oc tc cp lc sc kc er ep cls num lnk lsz lit fb tk tv rk rl ro ra rt rp oo co sk kd (s + 1) (l + 1) (w + 1) g fr (upd (upd fn l (nI (c + 1))) l (rt (q * 40 + c))) fi vs ll li lt) : ex_R post oc tc cp lc sc kc er ep cls num lnk lsz lit fb tk tv rk rl ro ra rt rp oo co sk kd s (l + 1) (w + 1) g fr fn fi vs ll li lt := by
  obtain ⟨hs, hd4, hq, h1, h2, hlq, hc, h40⟩ := id ha
  have hd : 1 ≤ l + 1 := by omega
  have hd5 : l + 1 ≤ 5 := by omega
  have hi : q * 40 + c < 280 := by omega
  exact ex_go ha (fun K k => ex_pf11 hi ho (ex_and0 hi ho hd hd5 hw hv k)) h
theorem xr_and1 (ha : ex_at rl fr fn s l q c len) (ho : ro (q * 40 + c) = 11) (hw : w < 200) (hv : ¬ vs w = 0) (h : ex_R post oc tc cp lc sc kc er ep cls num lnk lsz lit fb tk tv rk rl ro ra rt rp oo co sk kd (s + 1) (l + 1) w g fr (upd fn l (nI (c + 1))) fi vs ll li lt) : ex_R post oc tc cp lc sc kc er ep cls num lnk lsz lit fb tk tv rk rl ro ra rt rp oo co sk kd s (l + 1) (w + 1) g fr fn fi vs ll li lt := by
  obtain ⟨hs, hd4, hq, h1, h2, hlq, hc, h40⟩ := id ha
  have hd : 1 ≤ l + 1 := by omega
  have hd5 : l + 1 ≤ 5 := by omega
  have hi : q * 40 + c < 280 := by omega
  exact ex_go ha (fun K k => ex_pf11 hi ho (ex_and1 hi ho hd hd5 hw hv k)) h
theorem xr_st_pf (hi : q * 40 + c < 280) {t : Nat} {K : Int32 → SX → Prop} (ht : t = 20 ∨ t = 21 ∨ t = 22) (ho : ro (q * 40 + c) = nI t) (h : wpX_startLoop K (oc, tc, cp, lc, sc, kc, nI (l + 1), nI w, er, ep, nI g, cls, num, lnk, lsz, lit, fb, tk, tv, rk, rl, ro, ra, rt, rp, oo, co, sk, kd, fr, fn, fi, vs, ll, li, lt) (nI (q * 40 + c))) : wpX_perform K (oc, tc, cp, lc, sc, kc, nI (l + 1), nI w, er, ep, nI g, cls, num, lnk, lsz, lit, fb, tk, tv, rk, rl, ro, ra, rt, rp, oo, co, sk, kd, fr, fn, fi, vs, ll, li, lt) (nI (q * 40 + c)) := by
  rcases ht with rfl | rfl | rfl
  · exact ex_pf20 hi ho h
  · exact ex_pf21 hi ho h
  · exact ex_pf22 hi ho h
theorem xr_st_end (ha : ex_at rl fr fn s l q c len) {t v : Nat} (ht : t = 20 ∨ t = 21 ∨ t = 22) (ho : ro (q * 40 + c) = nI t) (hw : w < 200) (hv : v < 3) (ea : ra (q * 40 + c) = nI v) (hl : vs w = -1 ∨ ∃ a, a < 16 ∧ vs w = nI a ∧ lsz a = 0) (h : ex_R post oc tc cp lc sc kc er ep cls num lnk lsz lit fb tk tv rk rl ro ra rt rp oo co sk kd (s + 1) (l + 1) (w + 1) g fr (upd (upd fn l (nI (c + 1))) l (rt (q * 40 + c))) fi (upd vs w (if t = 21 then 1 else 0)) (upd ll (l * 3 + v) (vs w)) (upd li (l * 3 + v) (-1)) (upd lt (l * 3 + v) (if t = 21 then 1 else 0))) : ex_R post oc tc cp lc sc kc er ep cls num lnk lsz lit fb tk tv rk rl ro ra rt rp oo co sk kd s (l + 1) (w + 1) g fr fn fi vs ll li lt := by
  obtain ⟨hs, hd4, hq, h1, h2, hlq, hc, h40⟩ := id ha
  have hd : 1 ≤ l + 1 := by omega
  have hd5 : l + 1 ≤ 5 := by omega
  have hi : q * 40 + c < 280 := by omega
  have hL : l * 3 + v < 15 := by omega
  have ht25 : t < 25 := by omega
  refine ex_go ha (fun K k => xr_st_pf hi ht ho (ex_start hi hd hd5 hv hw ea ho ht25 ?_)) h
  have k' : wX_nextRound_40 K (nI (q * 40 + c)) (nI (l * 3 + v)) oc tc cp lc sc kc (nI (l + 1)) (nI w) er ep (nI g) cls num lnk lsz lit fb tk tv rk rl ro ra rt rp oo co sk kd fr (upd fn l (nI (c + 1))) fi vs (upd ll (l * 3 + v) (vs w)) (upd li (l * 3 + v) (-1)) (upd lt (l * 3 + v) (if t = 21 then 1 else 0)) := by
    refine ex_nr_fin hi hL hd hd5 hw ?_
    rw [pk_us]
    exact k
  rcases hl with hl | ⟨a, hl16, hl, hz⟩
  · exact ex_nr_emp hL (pk_us.trans hl) k'
  · exact ex_nr_out (l := a) (j := 0) (z := 0) hL (pk_us.trans hl) hl16 (by rw [pk_us]; rfl) (by omega) hz (by omega) k' 
theorem xr_st_stop (ha : ex_at rl fr fn s l q c len) {t v : Nat} (ht : t = 20 ∨ t = 21 ∨ t = 22) (ho : ro (q * 40 + c) = nI t) (hw : w < 200) (hv : v < 3) (ea : ra (q * 40 + c) = nI v) {a z : Nat} (hl16 : a < 16) (hl : vs w = nI a) (hz : lsz a = nI z) (hz0 : 0 < z) (hz4 : z ≤ 4) (hg : g = 40) (h : post 6 (oc, tc, cp, lc, sc, kc, nI (l + 1), nI w, er, ep, nI g, cls, num, lnk, lsz, lit, fb, tk, tv, rk, rl, ro, ra, rt, rp, oo, co, sk, kd, fr, upd fn l (nI (c + 1)), fi, vs, upd ll (l * 3 + v) (vs w), upd li (l * 3 + v) (-1), upd lt (l * 3 + v) (if t = 21 then 1 else 0))) : ex_R post oc tc cp lc sc kc er ep cls num lnk lsz lit fb tk tv rk rl ro ra rt rp oo co sk kd s (l + 1) (w + 1) g fr fn fi vs ll li lt := by
  obtain ⟨hs, hd4, hq, h1, h2, hlq, hc, h40⟩ := id ha
  have hd : 1 ≤ l + 1 := by omega
  have hd5 : l + 1 ≤ 5 := by omega
  have hi : q * 40 + c < 280 := by omega
  have hL : l * 3 + v < 15 := by omega
  have ht25 : t < 25 := by omega
  exact ex_er (x := 6) ha (by decide) (fun K k => xr_st_pf hi ht ho (ex_start hi hd hd5 hv hw ea ho ht25 (ex_nr_stop (j := 0) hL (pk_us.trans hl) hl16 (by rw [pk_us]; rfl) hz hz0 hz4 hg k))) h
theorem xr_st_go (ha : ex_at rl fr fn s l q c len) {t v : Nat} (ht : t = 20 ∨ t = 21 ∨ t = 22) (ho : ro (q * 40 + c) = nI t) (hw : w < 200) (hv : v < 3) (ea : ra (q * 40 + c) = nI v) {a z : Nat} (hl16 : a < 16) (hl : vs w = nI a) (hz : lsz a = nI z) (hz0 : 0 < z) (hz4 : z ≤ 4) (hg : g < 40) (h : ex_R post oc tc cp lc sc kc er ep cls num lnk lsz lit fb tk tv rk rl ro ra rt rp oo co sk kd (s + 1) (l + 1) w (g + 1) fr (upd (upd fn l (nI (c + 1))) l (nI (c + 1))) fi vs (upd ll (l * 3 + v) (vs w)) (upd (upd li (l * 3 + v) (-1)) (l * 3 + v) (nI 0)) (upd lt (l * 3 + v) (if t = 21 then 1 else 0))) : ex_R post oc tc cp lc sc kc er ep cls num lnk lsz lit fb tk tv rk rl ro ra rt rp oo co sk kd s (l + 1) (w + 1) g fr fn fi vs ll li lt := by
  obtain ⟨hs, hd4, hq, h1, h2, hlq, hc, h40⟩ := id ha
  have hd : 1 ≤ l + 1 := by omega
  have hd5 : l + 1 ≤ 5 := by omega
  have hi : q * 40 + c < 280 := by omega
  have hL : l * 3 + v < 15 := by omega
  have ht25 : t < 25 := by omega
  exact ex_go ha (fun K k => xr_st_pf hi ht ho (ex_start hi hd hd5 hv hw ea ho ht25 (ex_nr_go (j := 0) hq (by omega) hd hd5 hL (pk_us.trans hl) hl16 (by rw [pk_us]; rfl) hz hz0 hz4 hg k))) h
theorem xr_nx_end (ha : ex_at rl fr fn s l q c len) {t v m : Nat} (ht : t = 20 ∨ t = 21 ∨ t = 22) (hm : m < 40) (ho : ro (q * 40 + c) = 24) (ea : ra (q * 40 + c) = nI m) (hom : ro (q * 40 + m) = nI t) (eam : ra (q * 40 + m) = nI v) (hw : w < 200) (hv : v < 3) (hl : gr_dec t (vs w) ∨ ∃ a j z, a < 16 ∧ ll (l * 3 + v) = nI a ∧ li (l * 3 + v) = nI j ∧ j < 2 ^ 30 ∧ lsz a = nI z ∧ z ≤ j + 1) (h : ex_R post oc tc cp lc sc kc er ep cls num lnk lsz lit fb tk tv rk rl ro ra rt rp oo co sk kd (s + 1) (l + 1) (w + 1) g fr (upd (upd fn l (nI (c + 1))) l (rt (q * 40 + m))) fi (upd vs w (if t = 22 then lt (l * 3 + v) + vs w else vs w)) ll li (upd lt (l * 3 + v) (if t = 22 then lt (l * 3 + v) + vs w else vs w))) : ex_R post oc tc cp lc sc kc er ep cls num lnk lsz lit fb tk tv rk rl ro ra rt rp oo co sk kd s (l + 1) (w + 1) g fr fn fi vs ll li lt := by
  obtain ⟨hs, hd4, hq, h1, h2, hlq, hc, h40⟩ := id ha
  have hd : 1 ≤ l + 1 := by omega
  have hd5 : l + 1 ≤ 5 := by omega
  have hi : q * 40 + c < 280 := by omega
  have hL : l * 3 + v < 15 := by omega
  have hc40 : c < 40 := by omega
  have ht25 : t < 25 := by omega
  have him : q * 40 + m < 280 := by omega
  refine ex_go ha (fun K k => ex_pf24 hq hc40 hm ho ea (ex_endr him hd hd5 hv hw eam hom ht25 (fun z z1 z0 => ?_))) h
  have k' : wX_nextRound_40 K (nI (q * 40 + m)) (nI (l * 3 + v)) oc tc cp lc sc kc (nI (l + 1)) (nI w) er ep (nI g) cls num lnk lsz lit fb tk tv rk rl ro ra rt rp oo co sk kd fr (upd fn l (nI (c + 1))) fi vs ll li (upd lt (l * 3 + v) (if t = 22 then lt (l * 3 + v) + vs w else vs w)) := by
    refine ex_nr_fin him hL hd hd5 hw ?_
    rw [pk_us]
    exact k
  by_cases hd2 : gr_dec t (vs w)
  · exact ex_nr_dec hL (z1 hd2) k'
  · obtain ⟨a, j, y, hl16, el, ej, hj, hz, hzj⟩ := hl.resolve_left hd2
    rw [z0 hd2]
    exact ex_nr_out (j := j + 1) hL el hl16 (by rw [Nat.add_sub_cancel, ej, nI_1]) (by omega) hz hzj k' 
theorem xr_nx_stop (ha : ex_at rl fr fn s l q c len) {t v m : Nat} (ht : t = 20 ∨ t = 21 ∨ t = 22) (hm : m < 40) (ho : ro (q * 40 + c) = 24) (ea : ra (q * 40 + c) = nI m) (hom : ro (q * 40 + m) = nI t) (eam : ra (q * 40 + m) = nI v) (hw : w < 200) (hv : v < 3) (hnd : ¬ gr_dec t (vs w)) {a j z : Nat} (hl16 : a < 16) (el : ll (l * 3 + v) = nI a) (ej : li (l * 3 + v) = nI j) (hz : lsz a = nI z) (hjz : j + 1 < z) (hz4 : z ≤ 4) (hg : g = 40) (h : post 6 (oc, tc, cp, lc, sc, kc, nI (l + 1), nI w, er, ep, nI g, cls, num, lnk, lsz, lit, fb, tk, tv, rk, rl, ro, ra, rt, rp, oo, co, sk, kd, fr, upd fn l (nI (c + 1)), fi, vs, ll, li, upd lt (l * 3 + v) (if t = 22 then lt (l * 3 + v) + vs w else vs w))) : ex_R post oc tc cp lc sc kc er ep cls num lnk lsz lit fb tk tv rk rl ro ra rt rp oo co sk kd s (l + 1) (w + 1) g fr fn fi vs ll li lt := by
  obtain ⟨hs, hd4, hq, h1, h2, hlq, hc, h40⟩ := id ha
  have hd : 1 ≤ l + 1 := by omega
  have hd5 : l + 1 ≤ 5 := by omega
  have hi : q * 40 + c < 280 := by omega
  have hL : l * 3 + v < 15 := by omega
  have hc40 : c < 40 := by omega
  have ht25 : t < 25 := by omega
  have him : q * 40 + m < 280 := by omega
  exact ex_er (x := 6) ha (by decide) (fun K k => ex_pf24 hq hc40 hm ho ea (ex_endr him hd hd5 hv hw eam hom ht25 (fun z z1 z0 => by rw [z0 hnd]; exact ex_nr_stop (j := j + 1) hL el hl16 (by rw [Nat.add_sub_cancel, ej, nI_1]) hz hjz hz4 hg k))) h
theorem xr_nx_go (ha : ex_at rl fr fn s l q c len) {t v m : Nat} (ht : t = 20 ∨ t = 21 ∨ t = 22) (hm : m < 40) (ho : ro (q * 40 + c) = 24) (ea : ra (q * 40 + c) = nI m) (hom : ro (q * 40 + m) = nI t) (eam : ra (q * 40 + m) = nI v) (hw : w < 200) (hv : v < 3) (hnd : ¬ gr_dec t (vs w)) {a j z : Nat} (hl16 : a < 16) (el : ll (l * 3 + v) = nI a) (ej : li (l * 3 + v) = nI j) (hz : lsz a = nI z) (hjz : j + 1 < z) (hz4 : z ≤ 4) (hg : g < 40) (h : ex_R post oc tc cp lc sc kc er ep cls num lnk lsz lit fb tk tv rk rl ro ra rt rp oo co sk kd (s + 1) (l + 1) w (g + 1) fr (upd (upd fn l (nI (c + 1))) l (nI (m + 1))) fi vs ll (upd li (l * 3 + v) (nI (j + 1))) (upd lt (l * 3 + v) (if t = 22 then lt (l * 3 + v) + vs w else vs w))) : ex_R post oc tc cp lc sc kc er ep cls num lnk lsz lit fb tk tv rk rl ro ra rt rp oo co sk kd s (l + 1) (w + 1) g fr fn fi vs ll li lt := by
  obtain ⟨hs, hd4, hq, h1, h2, hlq, hc, h40⟩ := id ha
  have hd : 1 ≤ l + 1 := by omega
  have hd5 : l + 1 ≤ 5 := by omega
  have hi : q * 40 + c < 280 := by omega
  have hL : l * 3 + v < 15 := by omega
  have hc40 : c < 40 := by omega
  have ht25 : t < 25 := by omega
  have him : q * 40 + m < 280 := by omega
  exact ex_go ha (fun K k => ex_pf24 hq hc40 hm ho ea (ex_endr him hd hd5 hv hw eam hom ht25 (fun z z1 z0 => by rw [z0 hnd]; exact ex_nr_go (j := j + 1) hq hm hd hd5 hL el hl16 (by rw [Nat.add_sub_cancel, ej, nI_1]) hz hjz hz4 hg k))) h
end
end
section
def ey_F (Z : (Int32 → SY → Prop) → Prop) (ob tks pl nds res : Int32) (cls prp lit lsz fb tk tv opd rk rn op nm ay prt ylo yhi : Nat → Int32) (s p l g : Nat) (ret out : Int32) (sN sP sX sK it vr : Nat → Int32) : Prop := ∀ post, (∃ n, wY_eval_75 post n (nI s) ob tks pl nds (1) res ((-1)) (nI g) (nI p) (nI l) ret out (cls) prp (lit) (lsz) (fb) (tk) (tv) opd (rk) rn op nm ay prt ylo yhi sN sP sX sK it vr) → Z post
def ey_E (Z : (Int32 → SY → Prop) → Prop) (ob tks pl nds res : Int32) (cls prp lit lsz fb tk tv opd rk rn op nm ay prt ylo yhi : Nat → Int32) (x : Nat) (e : Int32) (g : Nat) : Prop := ∀ post : Int32 → SY → Prop, (∀ (sp lv ret out : Int32) (sN sP sX sK it vr : Nat → Int32), post (nI x) (ob, tks, pl, nds, nI x, res, e, nI g, sp, lv, ret, out, cls, prp, lit, lsz, fb, tk, tv, opd, rk, rn, op, nm, ay, prt, ylo, yhi, sN, sP, sX, sK, it, vr)) → Z post
section
variable {K : SY → Prop} {ob tks pl nds res sts era ret out : Int32} {cls prp lit lsz fb tk tv opd rk rn op nm ay prt ylo yhi sN sP sX sK it vr : Nat → Int32} {p l g : Nat}
theorem ey_down {x : Int32} (hp : p < 220) (h : K (ob, tks, pl, nds, sts, res, era, nI g, nI (p + 1), nI l, ret, out, cls, prp, lit, lsz, fb, tk, tv, opd, rk, rn, op, nm, ay, prt, ylo, yhi, upd sN p x, upd sP p 0, sX, sK, it, vr)) : wpY_down K (ob, tks, pl, nds, sts, res, era, nI g, nI p, nI l, ret, out, cls, prp, lit, lsz, fb, tk, tv, opd, rk, rn, op, nm, ay, prt, ylo, yhi, sN, sP, sX, sK, it, vr) x := by
  have c : (nI p).toNatClampNeg = p := nI_clamp (by omega)
  exact ⟨vp_in_nI hp (by decide), nm_r (by rw [c]) ⟨vp_in_nI hp (by decide), nm_r (by rw [c]) (nm_r (nI_1 p) h)⟩⟩
theorem ey_give {x : Int32} (h : K (ob, tks, pl, nds, sts, res, era, nI g, nI p, nI l, x, out, cls, prp, lit, lsz, fb, tk, tv, opd, rk, rn, op, nm, ay, prt, ylo, yhi, sN, sP, sX, sK, it, vr)) : wpY_give K (ob, tks, pl, nds, sts, res, era, nI g, nI (p + 1), nI l, ret, out, cls, prp, lit, lsz, fb, tk, tv, opd, rk, rn, op, nm, ay, prt, ylo, yhi, sN, sP, sX, sK, it, vr) x := nm_r (nI_pred p) h
theorem ey_error {x : Int32} {k : Nat} (hl : l < 5) (hk : k < 280) (h : K (ob, tks, pl, nds, x, res, if l = 0 then ay k else out, nI g, nI (p + 1), nI l, ret, out, cls, prp, lit, lsz, fb, tk, tv, opd, rk, rn, op, nm, ay, prt, ylo, yhi, sN, sP, sX, sK, it, vr)) : wpY_error K (ob, tks, pl, nds, sts, res, era, nI g, nI (p + 1), nI l, ret, out, cls, prp, lit, lsz, fb, tk, tv, opd, rk, rn, op, nm, ay, prt, ylo, yhi, sN, sP, sX, sK, it, vr) x (nI k) := by
  by_cases z : l = 0
  · rw [if_pos z] at h
    exact br_t (by rw [z]; rfl) ⟨vp_in_nI hk (by decide), nm_r (by rw [nI_clamp (by omega)]) h⟩
  · rw [if_neg z] at h
    exact br_f (nI_ne0 (by omega) (by omega)) h
theorem ey_unit0 {K : Int32 → SY → Prop} {k : Nat} (hl : l < 5) (hk : k < 280) (hg : g = 40) (h : K 0 (ob, tks, pl, nds, 6, res, if l = 0 then ay k else out, nI g, nI (p + 1), nI l, ret, out, cls, prp, lit, lsz, fb, tk, tv, opd, rk, rn, op, nm, ay, prt, ylo, yhi, sN, sP, sX, sK, it, vr)) : wpY_unit K (ob, tks, pl, nds, sts, res, era, nI g, nI (p + 1), nI l, ret, out, cls, prp, lit, lsz, fb, tk, tv, opd, rk, rn, op, nm, ay, prt, ylo, yhi, sN, sP, sX, sK, it, vr) (nI k) := by
  refine br_t (by rw [hg]; rfl) (ey_error hl hk h)
theorem ey_unit1 {K : Int32 → SY → Prop} {k : Int32} (hg : g < 40) (h : K 1 (ob, tks, pl, nds, sts, res, era, nI (g + 1), nI (p + 1), nI l, ret, out, cls, prp, lit, lsz, fb, tk, tv, opd, rk, rn, op, nm, ay, prt, ylo, yhi, sN, sP, sX, sK, it, vr)) : wpY_unit K (ob, tks, pl, nds, sts, res, era, nI g, nI (p + 1), nI l, ret, out, cls, prp, lit, lsz, fb, tk, tv, opd, rk, rn, op, nm, ay, prt, ylo, yhi, sN, sP, sX, sK, it, vr) k :=
  br_f (fun z => absurd ((nI_eq (b := 40) (by omega) (by decide)).1 z) (by omega)) (nm_r (nI_1 g) h)
end
section
variable {Z : (Int32 → SY → Prop) → Prop} {ob tks pl nds res ret out : Int32} {cls prp lit lsz fb tk tv opd rk rn op nm ay prt ylo yhi sN sP sX sK it vr : Nat → Int32} {s p l g k ph : Nat}
/-- the frame on top stands at node k, phase ph -/
def ey_at (sN sP : Nat → Int32) (s p l k ph : Nat) : Prop := s < 20000 ∧ p < 220 ∧ l < 5 ∧ k < 280 ∧ sN p = nI k ∧ sP p = nI ph ∧ ph < 1000
theorem ey_go {p' l' g' : Nat} {ret' out' : Int32} {sN' sP' sX' sK' it' vr' : Nat → Int32} (ha : ey_at sN sP s p l k ph) (H : ∀ K : SY → Prop, K (ob, tks, pl, nds, 1, res, (-1), nI g', nI p', nI l', ret', out', cls, prp, lit, lsz, fb, tk, tv, opd, rk, rn, op, nm, ay, prt, ylo, yhi, sN', sP', sX', sK', it', vr') → wpY_step K (ob, tks, pl, nds, 1, res, (-1), nI g, nI (p + 1), nI l, ret, out, cls, prp, lit, lsz, fb, tk, tv, opd, rk, rn, op, nm, ay, prt, ylo, yhi, sN, sP, sX, sK, it, vr) (nI p)) (h : ey_F Z ob tks pl nds res cls prp lit lsz fb tk tv opd rk rn op nm ay prt ylo yhi s (p + 1) l g ret out sN sP sX sK it vr) : ey_F Z ob tks pl nds res cls prp lit lsz fb tk tv opd rk rn op nm ay prt ylo yhi (s + 1) p' l' g' ret' out' sN' sP' sX' sK' it' vr' := by
  intro post hn
  obtain ⟨n, hn⟩ := hn
  refine h post ⟨n + 1, br_f (nI_ge (b := 20000) ha.1 (by decide)) (br_f (nI_nle (by omega) (by have := ha.2.1; omega)) (br_t rfl ?_))⟩
  rw [nI_pred]
  exact H _ (nm_r (nI_1 s) hn)
theorem ey_ef {x : Nat} {e : Int32} {p' : Nat} {ret' out' : Int32} {sN' sP' sX' sK' it' vr' : Nat → Int32} (ha : ey_at sN sP s p l k ph) (hx : ¬ nI x = 1) (H : ∀ K : SY → Prop, K (ob, tks, pl, nds, nI x, res, e, nI g, nI p', nI l, ret', out', cls, prp, lit, lsz, fb, tk, tv, opd, rk, rn, op, nm, ay, prt, ylo, yhi, sN', sP', sX', sK', it', vr') → wpY_step K (ob, tks, pl, nds, 1, res, (-1), nI g, nI (p + 1), nI l, ret, out, cls, prp, lit, lsz, fb, tk, tv, opd, rk, rn, op, nm, ay, prt, ylo, yhi, sN, sP, sX, sK, it, vr) (nI p)) (h : ey_F Z ob tks pl nds res cls prp lit lsz fb tk tv opd rk rn op nm ay prt ylo yhi s (p + 1) l g ret out sN sP sX sK it vr) : ey_E Z ob tks pl nds res cls prp lit lsz fb tk tv opd rk rn op nm ay prt ylo yhi x e g := by
  intro post hp
  have hq : ∀ y, wY_eval_75 post 1 y ob tks pl nds (nI x) res (e) (nI g) (nI p') (nI l) (ret') (out') (cls) prp (lit) (lsz) (fb) (tk) (tv) opd (rk) rn op nm ay prt ylo yhi (sN') (sP') (sX') (sK') (it') (vr') := by
    intro y
    have hh := hp (nI p') (nI l) ret' out' sN' sP' sX' sK' it' vr'
    by_cases z1 : (20000 : Int32) ≤ y
    · exact br_t z1 (br_f hx hh)
    · refine br_f z1 ?_
      by_cases z2 : nI p' ≤ 0
      · exact br_t z2 (br_f hx hh)
      · exact br_f z2 (br_f hx (br_f hx hh))
  refine h post ⟨2, br_f (nI_ge (b := 20000) ha.1 (by decide)) (br_f (nI_nle (by omega) (by have := ha.2.1; omega)) (br_t rfl ?_))⟩
  rw [nI_pred]
  exact H _ (nm_e (hq _))
theorem yr_num (ha : ey_at sN sP s p l k ph) (ho : op k = 0)  (h : ey_F Z ob tks pl nds res cls prp lit lsz fb tk tv opd rk rn op nm ay prt ylo yhi s (p + 1) l g ret out sN sP sX sK it vr) : ey_F Z ob tks pl nds res cls prp lit lsz fb tk tv opd rk rn op nm ay prt ylo yhi (s + 1) p l g (nm k) out sN (upd sP p (nI (ph + 1))) sX sK it vr := by
  obtain ⟨hs, hp, hl, hk, eN, eP, hph1⟩ := id ha
  have cp : (nI p).toNatClampNeg = p := nI_clamp (by omega)
  have ck : (nI k).toNatClampNeg = k := nI_clamp (by omega)
  have ip : vp_in (nI p) 220 := vp_in_nI hp (by decide)
  have ik : vp_in (nI k) 280 := vp_in_nI hk (by decide)
  refine ey_go ha (fun K kk => ⟨ip, nm_r (e' := nI k) (by rw [cp]; exact eN) ⟨ik, nm_r (e' := 0) (by rw [ck]; exact ho) ⟨ip, nm_r (e' := nI ph) (by rw [cp]; exact eP) ⟨ip, ip, nm_r (e' := upd sP p (nI (ph + 1))) (by rw [cp, eP, nI_1]) (br_t rfl (?_))⟩⟩⟩⟩) h
  rw [ck]
  exact ⟨ik, ey_give kk⟩
theorem yr_it (ha : ey_at sN sP s p l k ph) (ho : op k = 3)  (h : ey_F Z ob tks pl nds res cls prp lit lsz fb tk tv opd rk rn op nm ay prt ylo yhi s (p + 1) l g ret out sN sP sX sK it vr) : ey_F Z ob tks pl nds res cls prp lit lsz fb tk tv opd rk rn op nm ay prt ylo yhi (s + 1) p l g (it l) out sN (upd sP p (nI (ph + 1))) sX sK it vr := by
  obtain ⟨hs, hp, hl, hk, eN, eP, hph1⟩ := id ha
  have cp : (nI p).toNatClampNeg = p := nI_clamp (by omega)
  have ck : (nI k).toNatClampNeg = k := nI_clamp (by omega)
  have ip : vp_in (nI p) 220 := vp_in_nI hp (by decide)
  have ik : vp_in (nI k) 280 := vp_in_nI hk (by decide)
  refine ey_go ha (fun K kk => ⟨ip, nm_r (e' := nI k) (by rw [cp]; exact eN) ⟨ik, nm_r (e' := 3) (by rw [ck]; exact ho) ⟨ip, nm_r (e' := nI ph) (by rw [cp]; exact eP) ⟨ip, ip, nm_r (e' := upd sP p (nI (ph + 1))) (by rw [cp, eP, nI_1]) (br_f (by decide) (br_t rfl (?_)))⟩⟩⟩⟩) h
  rw [nI_clamp (n := l) (by omega)]
  exact ⟨vp_in_nI hl (by decide), ey_give kk⟩
theorem yr_nil (ha : ey_at sN sP s p l k ph) (ho : op k = 19)  (h : ey_F Z ob tks pl nds res cls prp lit lsz fb tk tv opd rk rn op nm ay prt ylo yhi s (p + 1) l g ret out sN sP sX sK it vr) : ey_F Z ob tks pl nds res cls prp lit lsz fb tk tv opd rk rn op nm ay prt ylo yhi (s + 1) p l g (-1) out sN (upd sP p (nI (ph + 1))) sX sK it vr := by
  obtain ⟨hs, hp, hl, hk, eN, eP, hph1⟩ := id ha
  have cp : (nI p).toNatClampNeg = p := nI_clamp (by omega)
  have ck : (nI k).toNatClampNeg = k := nI_clamp (by omega)
  have ip : vp_in (nI p) 220 := vp_in_nI hp (by decide)
  have ik : vp_in (nI k) 280 := vp_in_nI hk (by decide)
  refine ey_go ha (fun K kk => ⟨ip, nm_r (e' := nI k) (by rw [cp]; exact eN) ⟨ik, nm_r (e' := 19) (by rw [ck]; exact ho) ⟨ip, nm_r (e' := nI ph) (by rw [cp]; exact eP) ⟨ip, ip, nm_r (e' := upd sP p (nI (ph + 1))) (by rw [cp, eP, nI_1]) (br_f (by decide) (br_f (by decide) (br_t rfl (?_))))⟩⟩⟩⟩) h
  exact ey_give kk
theorem yr_var (ha : ey_at sN sP s p l k ph) (ho : op k = 4) {v : Nat} (hv : v < 3) (en : nm k = nI v) (h : ey_F Z ob tks pl nds res cls prp lit lsz fb tk tv opd rk rn op nm ay prt ylo yhi s (p + 1) l g ret out sN sP sX sK it vr) : ey_F Z ob tks pl nds res cls prp lit lsz fb tk tv opd rk rn op nm ay prt ylo yhi (s + 1) p l g (vr (l * 3 + v)) out sN (upd sP p (nI (ph + 1))) sX sK it vr := by
  obtain ⟨hs, hp, hl, hk, eN, eP, hph1⟩ := id ha
  have cp : (nI p).toNatClampNeg = p := nI_clamp (by omega)
  have ck : (nI k).toNatClampNeg = k := nI_clamp (by omega)
  have ip : vp_in (nI p) 220 := vp_in_nI hp (by decide)
  have ik : vp_in (nI k) 280 := vp_in_nI hk (by decide)
  refine ey_go ha (fun K kk => ⟨ip, nm_r (e' := nI k) (by rw [cp]; exact eN) ⟨ik, nm_r (e' := 4) (by rw [ck]; exact ho) ⟨ip, nm_r (e' := nI ph) (by rw [cp]; exact eP) ⟨ip, ip, nm_r (e' := upd sP p (nI (ph + 1))) (by rw [cp, eP, nI_1]) (br_f (by decide) (br_f (by decide) (br_f (by decide) (br_t rfl (?_)))))⟩⟩⟩⟩) h
  rw [ck, en, show nI l * 3 + nI v = nI (l * 3 + v) from gr_lin l 3 v rfl rfl, nI_clamp (n := l * 3 + v) (by omega)]
  exact ⟨ik, vp_in_nI (by omega) (by decide), ey_give kk⟩
theorem yr_dn (ha : ey_at sN sP s p l k 0) {t : Nat} (ho : op k = nI t) (ht : t < 25) (h0 : t ≠ 0) (h3 : t ≠ 3) (h19 : t ≠ 19) (h4 : t ≠ 4) (hp1 : p + 1 < 220) (h : ey_F Z ob tks pl nds res cls prp lit lsz fb tk tv opd rk rn op nm ay prt ylo yhi s (p + 1) l g ret out sN sP sX sK it vr) : ey_F Z ob tks pl nds res cls prp lit lsz fb tk tv opd rk rn op nm ay prt ylo yhi (s + 1) (p + 2) l g ret out (upd sN (p + 1) (prt (k * 3))) (upd (upd sP p (nI 1)) (p + 1) 0) sX sK it vr := by
  obtain ⟨hs, hp, hl, hk, eN, eP, hph1⟩ := id ha
  have cp : (nI p).toNatClampNeg = p := nI_clamp (by omega)
  have ck : (nI k).toNatClampNeg = k := nI_clamp (by omega)
  have ip : vp_in (nI p) 220 := vp_in_nI hp (by decide)
  have ik : vp_in (nI k) 280 := vp_in_nI hk (by decide)
  have e0 : ∀ b, b < 25 → t ≠ b → ¬ nI t = nI b := fun b hb z y => z ((nI_eq (by omega) (by omega)).1 y)
  refine ey_go ha (fun K kk => ⟨ip, nm_r (e' := nI k) (by rw [cp]; exact eN) ⟨ik, nm_r (e' := nI t) (by rw [ck]; exact ho) ⟨ip, nm_r (e' := nI 0) (by rw [cp]; exact eP) ⟨ip, ip, nm_r (e' := upd sP p (nI 1)) (by rw [cp, eP, nI_1]) (br_f (e0 0 (by decide) h0) (br_f (e0 3 (by decide) h3) (br_f (e0 19 (by decide) h19) (br_f (e0 4 (by decide) h4) (br_t rfl ?_)))))⟩⟩⟩⟩) h
  rw [show nI k * 3 = nI (k * 3) from gr_mul k 3 rfl, nI_clamp (n := k * 3) (by omega)]
  exact ⟨vp_in_nI (by omega) (by decide), ey_down (p := p + 1) hp1 kk⟩
theorem yr_rd_nul (ha : ey_at sN sP s p l k ph) (ho : op k = 1) (hph : ¬ nI ph = 0) (hr : ret = -1) (h : ey_F Z ob tks pl nds res cls prp lit lsz fb tk tv opd rk rn op nm ay prt ylo yhi s (p + 1) l g ret out sN sP sX sK it vr) : ey_E Z ob tks pl nds res cls prp lit lsz fb tk tv opd rk rn op nm ay prt ylo yhi 2 (if l = 0 then ay k else out) g := by
  obtain ⟨hs, hp, hl, hk, eN, eP, hph1⟩ := id ha
  have cp : (nI p).toNatClampNeg = p := nI_clamp (by omega)
  have ck : (nI k).toNatClampNeg = k := nI_clamp (by omega)
  have ip : vp_in (nI p) 220 := vp_in_nI hp (by decide)
  have ik : vp_in (nI k) 280 := vp_in_nI hk (by decide)
  refine ey_ef (x := 2) (p' := p + 1) (ret' := ret) (out' := out) (sN' := sN) (sP' := upd sP p (nI (ph + 1))) (sX' := sX) (sK' := sK) (it' := it) (vr' := vr) ha (by decide) (fun K kk => ⟨ip, nm_r (e' := nI k) (by rw [cp]; exact eN) ⟨ik, nm_r (e' := 1) (by rw [ck]; exact ho) ⟨ip, nm_r (e' := nI ph) (by rw [cp]; exact eP) ⟨ip, ip, nm_r (e' := upd sP p (nI (ph + 1))) (by rw [cp, eP, nI_1]) (br_f (by decide) (br_f (by decide) (br_f (by decide) (br_f (by decide) (br_f hph (br_t rfl (?_)))))))⟩⟩⟩⟩) h
  refine ⟨ik, nm_e (br_f (by rw [hr]; decide) (br_t rfl (ey_error hl hk kk)))⟩
theorem yr_rd_saf (ha : ey_at sN sP s p l k ph) (ho : op k = 2) (hph : ¬ nI ph = 0) {q : Nat} (hq : q < 6) (en : nm k = nI q) (hr : ret = -1) (h : ey_F Z ob tks pl nds res cls prp lit lsz fb tk tv opd rk rn op nm ay prt ylo yhi s (p + 1) l g ret out sN sP sX sK it vr) : ey_F Z ob tks pl nds res cls prp lit lsz fb tk tv opd rk rn op nm ay prt ylo yhi (s + 1) p l g (if q < 3 then 0 else -1) out sN (upd sP p (nI (ph + 1))) sX sK it vr := by
  obtain ⟨hs, hp, hl, hk, eN, eP, hph1⟩ := id ha
  have cp : (nI p).toNatClampNeg = p := nI_clamp (by omega)
  have ck : (nI k).toNatClampNeg = k := nI_clamp (by omega)
  have ip : vp_in (nI p) 220 := vp_in_nI hp (by decide)
  have ik : vp_in (nI k) 280 := vp_in_nI hk (by decide)
  refine ey_go ha (fun K kk => ⟨ip, nm_r (e' := nI k) (by rw [cp]; exact eN) ⟨ik, nm_r (e' := 2) (by rw [ck]; exact ho) ⟨ip, nm_r (e' := nI ph) (by rw [cp]; exact eP) ⟨ip, ip, nm_r (e' := upd sP p (nI (ph + 1))) (by rw [cp, eP, nI_1]) (br_f (by decide) (br_f (by decide) (br_f (by decide) (br_f (by decide) (br_f hph (br_f (by decide) (br_t rfl (?_))))))))⟩⟩⟩⟩) h
  refine ⟨ik, nm_r (e' := nI q) (by rw [ck]; exact en) (br_f (by rw [hr]; decide) (br_f (by decide) (br_f (by rw [hr]; decide) ?_)))⟩
  by_cases h3 : q < 3
  · rw [if_pos h3] at kk
    exact br_f (nI_nlt (a := 2) (by omega) (by omega)) (ey_give kk)
  · rw [if_neg h3] at kk
    exact br_t (nI_lt (a := 2) (by omega) (by omega)) (ey_give kk)
theorem yr_rd_den1 (ha : ey_at sN sP s p l k ph) (ho : op k = 1) (hph : ¬ nI ph = 0) {q : Nat} (hq : q < 6) (en : nm k = nI q) {i cc : Nat} (hi8 : i < 8) (hr : ret = nI i) (hcc : cc < 3) (ec : cls i = nI cc) (hf : ¬ fb (cc * 6 + q) = 0) (h : ey_F Z ob tks pl nds res cls prp lit lsz fb tk tv opd rk rn op nm ay prt ylo yhi s (p + 1) l g ret out sN sP sX sK it vr) : ey_E Z ob tks pl nds res cls prp lit lsz fb tk tv opd rk rn op nm ay prt ylo yhi 3 (if l = 0 then ay k else out) g := by
  obtain ⟨hs, hp, hl, hk, eN, eP, hph1⟩ := id ha
  have cp : (nI p).toNatClampNeg = p := nI_clamp (by omega)
  have ck : (nI k).toNatClampNeg = k := nI_clamp (by omega)
  have ip : vp_in (nI p) 220 := vp_in_nI hp (by decide)
  have ik : vp_in (nI k) 280 := vp_in_nI hk (by decide)
  refine ey_ef (x := 3) (p' := p + 1) (ret' := ret) (out' := out) (sN' := sN) (sP' := upd sP p (nI (ph + 1))) (sX' := sX) (sK' := sK) (it' := it) (vr' := vr) ha (by decide) (fun K kk => ⟨ip, nm_r (e' := nI k) (by rw [cp]; exact eN) ⟨ik, nm_r (e' := 1) (by rw [ck]; exact ho) ⟨ip, nm_r (e' := nI ph) (by rw [cp]; exact eP) ⟨ip, ip, nm_r (e' := upd sP p (nI (ph + 1))) (by rw [cp, eP, nI_1]) (br_f (by decide) (br_f (by decide) (br_f (by decide) (br_f (by decide) (br_f hph (br_t rfl (?_)))))))⟩⟩⟩⟩) h
  have ci : (nI i).toNatClampNeg = i := nI_clamp (by omega)
  have e6 : cls (nI i).toNatClampNeg * 6 + nI q = nI (cc * 6 + q) := by rw [ci, ec]; exact gr_lin cc 6 q rfl rfl
  have r0 : 0 ≤ ret := by rw [hr]; exact nI_pos' (by omega)
  refine ⟨ik, nm_r (e' := nI q) (by rw [ck]; exact en) (br_t r0 (br_t r0 ?_))⟩
  rw [hr]
  rw [hr] at kk
  refine ⟨vp_in_nI hi8 (by decide), by rw [e6]; exact vp_in_nI (by omega) (by decide), br_f (by rw [e6, nI_clamp (by omega)]; exact hf) (ey_error hl hk kk)⟩
theorem yr_rd_ok1 (ha : ey_at sN sP s p l k ph) (ho : op k = 1) (hph : ¬ nI ph = 0) {q : Nat} (hq : q < 6) (en : nm k = nI q) {i cc : Nat} (hi8 : i < 8) (hr : ret = nI i) (hcc : cc < 3) (ec : cls i = nI cc) (hf : fb (cc * 6 + q) = 0) (h : ey_F Z ob tks pl nds res cls prp lit lsz fb tk tv opd rk rn op nm ay prt ylo yhi s (p + 1) l g ret out sN sP sX sK it vr) : ey_F Z ob tks pl nds res cls prp lit lsz fb tk tv opd rk rn op nm ay prt ylo yhi (s + 1) p l g (if q ≤ 3 then prp (i * 4 + q) else nI (i * 2 + q - 4)) out sN (upd sP p (nI (ph + 1))) sX sK it vr := by
  obtain ⟨hs, hp, hl, hk, eN, eP, hph1⟩ := id ha
  have cp : (nI p).toNatClampNeg = p := nI_clamp (by omega)
  have ck : (nI k).toNatClampNeg = k := nI_clamp (by omega)
  have ip : vp_in (nI p) 220 := vp_in_nI hp (by decide)
  have ik : vp_in (nI k) 280 := vp_in_nI hk (by decide)
  refine ey_go ha (fun K kk => ⟨ip, nm_r (e' := nI k) (by rw [cp]; exact eN) ⟨ik, nm_r (e' := 1) (by rw [ck]; exact ho) ⟨ip, nm_r (e' := nI ph) (by rw [cp]; exact eP) ⟨ip, ip, nm_r (e' := upd sP p (nI (ph + 1))) (by rw [cp, eP, nI_1]) (br_f (by decide) (br_f (by decide) (br_f (by decide) (br_f (by decide) (br_f hph (br_t rfl (?_)))))))⟩⟩⟩⟩) h
  have ci : (nI i).toNatClampNeg = i := nI_clamp (by omega)
  have e6 : cls (nI i).toNatClampNeg * 6 + nI q = nI (cc * 6 + q) := by rw [ci, ec]; exact gr_lin cc 6 q rfl rfl
  have r0 : 0 ≤ ret := by rw [hr]; exact nI_pos' (by omega)
  refine ⟨ik, nm_r (e' := nI q) (by rw [ck]; exact en) (br_t r0 (br_t r0 ?_))⟩
  rw [hr]
  refine ⟨vp_in_nI hi8 (by decide), by rw [e6]; exact vp_in_nI (by omega) (by decide), br_t (by rw [e6, nI_clamp (by omega)]; exact hf) ?_⟩
  by_cases h3 : q ≤ 3
  · rw [if_pos h3] at kk
    have e4 : nI i * 4 + nI q = nI (i * 4 + q) := gr_lin i 4 q rfl rfl
    refine br_f (nI_nlt (a := 3) (by omega) (by omega)) ⟨by rw [e4]; exact vp_in_nI (by omega) (by decide), ?_⟩
    rw [e4, nI_clamp (by omega)]
    exact ey_give kk
  · rw [if_neg h3] at kk
    refine br_t (nI_lt (a := 3) (by omega) (by omega)) ?_
    rw [gr_list i q (by omega)]
    exact ey_give kk
theorem yr_rd_den2 (ha : ey_at sN sP s p l k ph) (ho : op k = 2) (hph : ¬ nI ph = 0) {q : Nat} (hq : q < 6) (en : nm k = nI q) {i cc : Nat} (hi8 : i < 8) (hr : ret = nI i) (hcc : cc < 3) (ec : cls i = nI cc) (hf : ¬ fb (cc * 6 + q) = 0) (h : ey_F Z ob tks pl nds res cls prp lit lsz fb tk tv opd rk rn op nm ay prt ylo yhi s (p + 1) l g ret out sN sP sX sK it vr) : ey_E Z ob tks pl nds res cls prp lit lsz fb tk tv opd rk rn op nm ay prt ylo yhi 3 (if l = 0 then ay k else out) g := by
  obtain ⟨hs, hp, hl, hk, eN, eP, hph1⟩ := id ha
  have cp : (nI p).toNatClampNeg = p := nI_clamp (by omega)
  have ck : (nI k).toNatClampNeg = k := nI_clamp (by omega)
  have ip : vp_in (nI p) 220 := vp_in_nI hp (by decide)
  have ik : vp_in (nI k) 280 := vp_in_nI hk (by decide)
  refine ey_ef (x := 3) (p' := p + 1) (ret' := ret) (out' := out) (sN' := sN) (sP' := upd sP p (nI (ph + 1))) (sX' := sX) (sK' := sK) (it' := it) (vr' := vr) ha (by decide) (fun K kk => ⟨ip, nm_r (e' := nI k) (by rw [cp]; exact eN) ⟨ik, nm_r (e' := 2) (by rw [ck]; exact ho) ⟨ip, nm_r (e' := nI ph) (by rw [cp]; exact eP) ⟨ip, ip, nm_r (e' := upd sP p (nI (ph + 1))) (by rw [cp, eP, nI_1]) (br_f (by decide) (br_f (by decide) (br_f (by decide) (br_f (by decide) (br_f hph (br_f (by decide) (br_t rfl (?_))))))))⟩⟩⟩⟩) h
  have ci : (nI i).toNatClampNeg = i := nI_clamp (by omega)
  have e6 : cls (nI i).toNatClampNeg * 6 + nI q = nI (cc * 6 + q) := by rw [ci, ec]; exact gr_lin cc 6 q rfl rfl
  have r0 : 0 ≤ ret := by rw [hr]; exact nI_pos' (by omega)
  refine ⟨ik, nm_r (e' := nI q) (by rw [ck]; exact en) (br_t r0 (br_t r0 ?_))⟩
  rw [hr]
  rw [hr] at kk
  refine ⟨vp_in_nI hi8 (by decide), by rw [e6]; exact vp_in_nI (by omega) (by decide), br_f (by rw [e6, nI_clamp (by omega)]; exact hf) (ey_error hl hk kk)⟩
theorem yr_rd_ok2 (ha : ey_at sN sP s p l k ph) (ho : op k = 2) (hph : ¬ nI ph = 0) {q : Nat} (hq : q < 6) (en : nm k = nI q) {i cc : Nat} (hi8 : i < 8) (hr : ret = nI i) (hcc : cc < 3) (ec : cls i = nI cc) (hf : fb (cc * 6 + q) = 0) (h : ey_F Z ob tks pl nds res cls prp lit lsz fb tk tv opd rk rn op nm ay prt ylo yhi s (p + 1) l g ret out sN sP sX sK it vr) : ey_F Z ob tks pl nds res cls prp lit lsz fb tk tv opd rk rn op nm ay prt ylo yhi (s + 1) p l g (if q ≤ 3 then prp (i * 4 + q) else nI (i * 2 + q - 4)) out sN (upd sP p (nI (ph + 1))) sX sK it vr := by
  obtain ⟨hs, hp, hl, hk, eN, eP, hph1⟩ := id ha
  have cp : (nI p).toNatClampNeg = p := nI_clamp (by omega)
  have ck : (nI k).toNatClampNeg = k := nI_clamp (by omega)
  have ip : vp_in (nI p) 220 := vp_in_nI hp (by decide)
  have ik : vp_in (nI k) 280 := vp_in_nI hk (by decide)
  refine ey_go ha (fun K kk => ⟨ip, nm_r (e' := nI k) (by rw [cp]; exact eN) ⟨ik, nm_r (e' := 2) (by rw [ck]; exact ho) ⟨ip, nm_r (e' := nI ph) (by rw [cp]; exact eP) ⟨ip, ip, nm_r (e' := upd sP p (nI (ph + 1))) (by rw [cp, eP, nI_1]) (br_f (by decide) (br_f (by decide) (br_f (by decide) (br_f (by decide) (br_f hph (br_f (by decide) (br_t rfl (?_))))))))⟩⟩⟩⟩) h
  have ci : (nI i).toNatClampNeg = i := nI_clamp (by omega)
  have e6 : cls (nI i).toNatClampNeg * 6 + nI q = nI (cc * 6 + q) := by rw [ci, ec]; exact gr_lin cc 6 q rfl rfl
  have r0 : 0 ≤ ret := by rw [hr]; exact nI_pos' (by omega)
  refine ⟨ik, nm_r (e' := nI q) (by rw [ck]; exact en) (br_t r0 (br_t r0 ?_))⟩
  rw [hr]
  refine ⟨vp_in_nI hi8 (by decide), by rw [e6]; exact vp_in_nI (by omega) (by decide), br_t (by rw [e6, nI_clamp (by omega)]; exact hf) ?_⟩
  by_cases h3 : q ≤ 3
  · rw [if_pos h3] at kk
    have e4 : nI i * 4 + nI q = nI (i * 4 + q) := gr_lin i 4 q rfl rfl
    refine br_f (nI_nlt (a := 3) (by omega) (by omega)) ⟨by rw [e4]; exact vp_in_nI (by omega) (by decide), ?_⟩
    rw [e4, nI_clamp (by omega)]
    exact ey_give kk
  · rw [if_neg h3] at kk
    refine br_t (nI_lt (a := 3) (by omega) (by omega)) ?_
    rw [gr_list i q (by omega)]
    exact ey_give kk
theorem yr_neg (ha : ey_at sN sP s p l k ph) (ho : op k = 23) (hph : ¬ nI ph = 0)  (h : ey_F Z ob tks pl nds res cls prp lit lsz fb tk tv opd rk rn op nm ay prt ylo yhi s (p + 1) l g ret out sN sP sX sK it vr) : ey_F Z ob tks pl nds res cls prp lit lsz fb tk tv opd rk rn op nm ay prt ylo yhi (s + 1) p l g (-ret) out sN (upd sP p (nI (ph + 1))) sX sK it vr := by
  obtain ⟨hs, hp, hl, hk, eN, eP, hph1⟩ := id ha
  have cp : (nI p).toNatClampNeg = p := nI_clamp (by omega)
  have ck : (nI k).toNatClampNeg = k := nI_clamp (by omega)
  have ip : vp_in (nI p) 220 := vp_in_nI hp (by decide)
  have ik : vp_in (nI k) 280 := vp_in_nI hk (by decide)
  refine ey_go ha (fun K kk => ⟨ip, nm_r (e' := nI k) (by rw [cp]; exact eN) ⟨ik, nm_r (e' := 23) (by rw [ck]; exact ho) ⟨ip, nm_r (e' := nI ph) (by rw [cp]; exact eP) ⟨ip, ip, nm_r (e' := upd sP p (nI (ph + 1))) (by rw [cp, eP, nI_1]) (br_f (by decide) (br_f (by decide) (br_f (by decide) (br_f (by decide) (br_f hph (br_f (by decide) (br_f (by decide) (br_t rfl (?_)))))))))⟩⟩⟩⟩) h
  exact br_t rfl (ey_give kk)
theorem yr_not (ha : ey_at sN sP s p l k ph) (ho : op k = 12) (hph : ¬ nI ph = 0)  (h : ey_F Z ob tks pl nds res cls prp lit lsz fb tk tv opd rk rn op nm ay prt ylo yhi s (p + 1) l g ret out sN sP sX sK it vr) : ey_F Z ob tks pl nds res cls prp lit lsz fb tk tv opd rk rn op nm ay prt ylo yhi (s + 1) p l g (1 - ret) out sN (upd sP p (nI (ph + 1))) sX sK it vr := by
  obtain ⟨hs, hp, hl, hk, eN, eP, hph1⟩ := id ha
  have cp : (nI p).toNatClampNeg = p := nI_clamp (by omega)
  have ck : (nI k).toNatClampNeg = k := nI_clamp (by omega)
  have ip : vp_in (nI p) 220 := vp_in_nI hp (by decide)
  have ik : vp_in (nI k) 280 := vp_in_nI hk (by decide)
  refine ey_go ha (fun K kk => ⟨ip, nm_r (e' := nI k) (by rw [cp]; exact eN) ⟨ik, nm_r (e' := 12) (by rw [ck]; exact ho) ⟨ip, nm_r (e' := nI ph) (by rw [cp]; exact eP) ⟨ip, ip, nm_r (e' := upd sP p (nI (ph + 1))) (by rw [cp, eP, nI_1]) (br_f (by decide) (br_f (by decide) (br_f (by decide) (br_f (by decide) (br_f hph (br_f (by decide) (br_f (by decide) (br_f (by decide) (br_t rfl (?_))))))))))⟩⟩⟩⟩) h
  exact br_f (by decide) (ey_give kk)
theorem yr_cl_ret (ha : ey_at sN sP s p l k ph) (ho : op k = 5) (hphe : ph = 2) (hl1 : 1 ≤ l) (h : ey_F Z ob tks pl nds res cls prp lit lsz fb tk tv opd rk rn op nm ay prt ylo yhi s (p + 1) l g ret out sN sP sX sK it vr) : ey_F Z ob tks pl nds res cls prp lit lsz fb tk tv opd rk rn op nm ay prt ylo yhi (s + 1) p (l - 1) g ret out sN (upd sP p (nI (ph + 1))) sX sK it vr := by
  obtain ⟨hs, hp, hl, hk, eN, eP, hph1⟩ := id ha
  have cp : (nI p).toNatClampNeg = p := nI_clamp (by omega)
  have ck : (nI k).toNatClampNeg = k := nI_clamp (by omega)
  have ip : vp_in (nI p) 220 := vp_in_nI hp (by decide)
  have ik : vp_in (nI k) 280 := vp_in_nI hk (by decide)
  have hph : ¬ nI ph = 0 := by subst hphe; decide
  refine ey_go ha (fun K kk => ⟨ip, nm_r (e' := nI k) (by rw [cp]; exact eN) ⟨ik, nm_r (e' := 5) (by rw [ck]; exact ho) ⟨ip, nm_r (e' := nI ph) (by rw [cp]; exact eP) ⟨ip, ip, nm_r (e' := upd sP p (nI (ph + 1))) (by rw [cp, eP, nI_1]) (br_f (by decide) (br_f (by decide) (br_f (by decide) (br_f (by decide) (br_f hph (br_f (by decide) (br_f (by decide) (br_f (by decide) (br_f (by decide) (br_t rfl (?_)))))))))))⟩⟩⟩⟩) h
  obtain ⟨e, rfl⟩ : ∃ e, l = e + 1 := ⟨l - 1, by omega⟩
  exact br_t (by rw [hphe]; rfl) (nm_r (nI_pred e) (ey_give kk))
theorem yr_cl_nul (ha : ey_at sN sP s p l k ph) (ho : op k = 5) (hphe : ph = 1) (hr : ret = -1) (h : ey_F Z ob tks pl nds res cls prp lit lsz fb tk tv opd rk rn op nm ay prt ylo yhi s (p + 1) l g ret out sN sP sX sK it vr) : ey_E Z ob tks pl nds res cls prp lit lsz fb tk tv opd rk rn op nm ay prt ylo yhi 2 (if l = 0 then ay k else out) g := by
  obtain ⟨hs, hp, hl, hk, eN, eP, hph1⟩ := id ha
  have cp : (nI p).toNatClampNeg = p := nI_clamp (by omega)
  have ck : (nI k).toNatClampNeg = k := nI_clamp (by omega)
  have ip : vp_in (nI p) 220 := vp_in_nI hp (by decide)
  have ik : vp_in (nI k) 280 := vp_in_nI hk (by decide)
  have hph : ¬ nI ph = 0 := by subst hphe; decide
  refine ey_ef (x := 2) (p' := p + 1) (ret' := ret) (out' := out) (sN' := sN) (sP' := upd sP p (nI (ph + 1))) (sX' := sX) (sK' := sK) (it' := it) (vr' := vr) ha (by decide) (fun K kk => ⟨ip, nm_r (e' := nI k) (by rw [cp]; exact eN) ⟨ik, nm_r (e' := 5) (by rw [ck]; exact ho) ⟨ip, nm_r (e' := nI ph) (by rw [cp]; exact eP) ⟨ip, ip, nm_r (e' := upd sP p (nI (ph + 1))) (by rw [cp, eP, nI_1]) (br_f (by decide) (br_f (by decide) (br_f (by decide) (br_f (by decide) (br_f hph (br_f (by decide) (br_f (by decide) (br_f (by decide) (br_f (by decide) (br_t rfl (?_)))))))))))⟩⟩⟩⟩) h
  exact br_f (by rw [hphe]; decide) (br_f (by rw [hr]; decide) (ey_error hl hk kk))
theorem yr_cl_deep (ha : ey_at sN sP s p l k ph) (ho : op k = 5) (hphe : ph = 1) {i : Nat} (hi8 : i < 8) (hr : ret = nI i) (hl4 : l = 4) (h : ey_F Z ob tks pl nds res cls prp lit lsz fb tk tv opd rk rn op nm ay prt ylo yhi s (p + 1) l g ret out sN sP sX sK it vr) : ey_E Z ob tks pl nds res cls prp lit lsz fb tk tv opd rk rn op nm ay prt ylo yhi 5 (if l = 0 then ay k else out) g := by
  obtain ⟨hs, hp, hl, hk, eN, eP, hph1⟩ := id ha
  have cp : (nI p).toNatClampNeg = p := nI_clamp (by omega)
  have ck : (nI k).toNatClampNeg = k := nI_clamp (by omega)
  have ip : vp_in (nI p) 220 := vp_in_nI hp (by decide)
  have ik : vp_in (nI k) 280 := vp_in_nI hk (by decide)
  have hph : ¬ nI ph = 0 := by subst hphe; decide
  refine ey_ef (x := 5) (p' := p + 1) (ret' := ret) (out' := out) (sN' := sN) (sP' := upd sP p (nI (ph + 1))) (sX' := sX) (sK' := sK) (it' := it) (vr' := vr) ha (by decide) (fun K kk => ⟨ip, nm_r (e' := nI k) (by rw [cp]; exact eN) ⟨ik, nm_r (e' := 5) (by rw [ck]; exact ho) ⟨ip, nm_r (e' := nI ph) (by rw [cp]; exact eP) ⟨ip, ip, nm_r (e' := upd sP p (nI (ph + 1))) (by rw [cp, eP, nI_1]) (br_f (by decide) (br_f (by decide) (br_f (by decide) (br_f (by decide) (br_f hph (br_f (by decide) (br_f (by decide) (br_f (by decide) (br_f (by decide) (br_t rfl (?_)))))))))))⟩⟩⟩⟩) h
  exact br_f (by rw [hphe]; decide) (br_t (by rw [hr]; exact nI_pos' (by omega)) (br_t (by rw [hl4]; rfl) (ey_error hl hk kk)))
theorem yr_cl_stop (ha : ey_at sN sP s p l k ph) (ho : op k = 5) (hphe : ph = 1) {i : Nat} (hi8 : i < 8) (hr : ret = nI i) (hl4 : l < 4) (hg : g = 40) (h : ey_F Z ob tks pl nds res cls prp lit lsz fb tk tv opd rk rn op nm ay prt ylo yhi s (p + 1) l g ret out sN sP sX sK it vr) : ey_E Z ob tks pl nds res cls prp lit lsz fb tk tv opd rk rn op nm ay prt ylo yhi 6 (if l = 0 then ay k else out) g := by
  obtain ⟨hs, hp, hl, hk, eN, eP, hph1⟩ := id ha
  have cp : (nI p).toNatClampNeg = p := nI_clamp (by omega)
  have ck : (nI k).toNatClampNeg = k := nI_clamp (by omega)
  have ip : vp_in (nI p) 220 := vp_in_nI hp (by decide)
  have ik : vp_in (nI k) 280 := vp_in_nI hk (by decide)
  have hph : ¬ nI ph = 0 := by subst hphe; decide
  refine ey_ef (x := 6) (p' := p + 1) (ret' := ret) (out' := out) (sN' := sN) (sP' := upd sP p (nI (ph + 1))) (sX' := sX) (sK' := sK) (it' := it) (vr' := vr) ha (by decide) (fun K kk => ⟨ip, nm_r (e' := nI k) (by rw [cp]; exact eN) ⟨ik, nm_r (e' := 5) (by rw [ck]; exact ho) ⟨ip, nm_r (e' := nI ph) (by rw [cp]; exact eP) ⟨ip, ip, nm_r (e' := upd sP p (nI (ph + 1))) (by rw [cp, eP, nI_1]) (br_f (by decide) (br_f (by decide) (br_f (by decide) (br_f (by decide) (br_f hph (br_f (by decide) (br_f (by decide) (br_f (by decide) (br_f (by decide) (br_t rfl (?_)))))))))))⟩⟩⟩⟩) h
  refine br_f (by rw [hphe]; decide) (br_t (by rw [hr]; exact nI_pos' (by omega)) (br_f (fun z => absurd ((nI_eq (b := 4) (by omega) (by decide)).1 z) (by omega)) (ey_unit0 hl hk hg ?_)))
  exact br_t rfl kk
theorem yr_cl_ok (ha : ey_at sN sP s p l k ph) (ho : op k = 5) (hphe : ph = 1) {i : Nat} (hi8 : i < 8) (hr : ret = nI i) (hl4 : l < 4) (hg : g < 40) {r : Nat} (hr6 : r < 6) (en : nm k = nI r) (hp1 : p + 1 < 220) (h : ey_F Z ob tks pl nds res cls prp lit lsz fb tk tv opd rk rn op nm ay prt ylo yhi s (p + 1) l g ret out sN sP sX sK it vr) : ey_F Z ob tks pl nds res cls prp lit lsz fb tk tv opd rk rn op nm ay prt ylo yhi (s + 1) (p + 2) (l + 1) (g + 1) ret (if l = 0 then ay k else out) (upd sN (p + 1) (nI (r * 40))) (upd (upd sP p (nI (ph + 1))) (p + 1) 0) sX sK (upd it (l + 1) ret) vr := by
  obtain ⟨hs, hp, hl, hk, eN, eP, hph1⟩ := id ha
  have cp : (nI p).toNatClampNeg = p := nI_clamp (by omega)
  have ck : (nI k).toNatClampNeg = k := nI_clamp (by omega)
  have ip : vp_in (nI p) 220 := vp_in_nI hp (by decide)
  have ik : vp_in (nI k) 280 := vp_in_nI hk (by decide)
  have hph : ¬ nI ph = 0 := by subst hphe; decide
  refine ey_go ha (fun K kk => ⟨ip, nm_r (e' := nI k) (by rw [cp]; exact eN) ⟨ik, nm_r (e' := 5) (by rw [ck]; exact ho) ⟨ip, nm_r (e' := nI ph) (by rw [cp]; exact eP) ⟨ip, ip, nm_r (e' := upd sP p (nI (ph + 1))) (by rw [cp, eP, nI_1]) (br_f (by decide) (br_f (by decide) (br_f (by decide) (br_f (by decide) (br_f hph (br_f (by decide) (br_f (by decide) (br_f (by decide) (br_f (by decide) (br_t rfl (?_)))))))))))⟩⟩⟩⟩) h
  refine br_f (by rw [hphe]; decide) (br_t (by rw [hr]; exact nI_pos' (by omega)) (br_f (fun z => absurd ((nI_eq (b := 4) (by omega) (by decide)).1 z) (by omega)) (ey_unit1 hg ?_)))
  refine br_f (by decide) ?_
  have nx : ∀ out', K (ob, tks, pl, nds, 1, res, (-1), nI (g + 1), nI (p + 2), nI (l + 1), ret, out', cls, prp, lit, lsz, fb, tk, tv, opd, rk, rn, op, nm, ay, prt, ylo, yhi, upd sN (p + 1) (nI (r * 40)), upd (upd sP p (nI (ph + 1))) (p + 1) 0, sX, sK, upd it (l + 1) ret, vr) → wY_call_82 K (nI k) ob tks pl nds (1) res ((-1)) (nI (g + 1)) (nI (p + 1)) (nI l) ret (out') (cls) prp (lit) (lsz) (fb) (tk) (tv) opd (rk) rn op nm ay prt ylo yhi sN (upd sP p (nI (ph + 1))) sX sK it vr := by
    intro out' kk
    refine nm_r (nI_1 l) ⟨vp_in_nI (by omega) (by decide), nm_r (by rw [nI_clamp (by omega)]) ⟨ik, ?_⟩⟩
    rw [ck, en, show nI r * 40 = nI (r * 40) from gr_mul r 40 rfl]
    exact ey_down (p := p + 1) hp1 kk
  by_cases z : l = 0
  · rw [if_pos z] at kk
    exact br_t (by rw [z]; rfl) ⟨ik, nm_r (by rw [ck]) (nx _ kk)⟩
  · rw [if_neg z] at kk
    exact br_f (nI_ne0 (by omega) (by omega)) (nx _ kk)
end
end
section
section
variable {Z : (Int32 → SY → Prop) → Prop} {ob tks pl nds res ret out : Int32} {cls prp lit lsz fb tk tv opd rk rn op nm ay prt ylo yhi sN sP sX sK it vr : Nat → Int32} {s p l g k ph : Nat}
theorem yr_ch8 (ha : ey_at sN sP s p l k ph) (ho : op k = 8) (hphe : ph = 2)  (h : ey_F Z ob tks pl nds res cls prp lit lsz fb tk tv opd rk rn op nm ay prt ylo yhi s (p + 1) l g ret out sN sP sX sK it vr) : ey_F Z ob tks pl nds res cls prp lit lsz fb tk tv opd rk rn op nm ay prt ylo yhi (s + 1) p l g ret out sN (upd sP p (nI (ph + 1))) sX sK it vr := by
  obtain ⟨hs, hp, hl, hk, eN, eP, hph1⟩ := id ha
  have cp : (nI p).toNatClampNeg = p := nI_clamp (by omega)
  have ck : (nI k).toNatClampNeg = k := nI_clamp (by omega)
  have ip : vp_in (nI p) 220 := vp_in_nI hp (by decide)
  have ik : vp_in (nI k) 280 := vp_in_nI hk (by decide)
  have hph : ¬ nI ph = 0 := by subst hphe; decide
  refine ey_go ha (fun K kk => ⟨ip, nm_r (e' := nI k) (by rw [cp]; exact eN) ⟨ik, nm_r (e' := 8) (by rw [ck]; exact ho) ⟨ip, nm_r (e' := nI ph) (by rw [cp]; exact eP) ⟨ip, ip, nm_r (e' := upd sP p (nI (ph + 1))) (by rw [cp, eP, nI_1]) (br_f (by decide) (br_f (by decide) (br_f (by decide) (br_f (by decide) (br_f hph (br_f (by decide) (br_f (by decide) (br_f (by decide) (br_f (by decide) (br_f (by decide) (br_t (by decide) (br_t rfl (?_)))))))))))))⟩⟩⟩⟩) h
  exact br_t (by rw [hphe]; rfl) (ey_give kk)
theorem yr_ch10 (ha : ey_at sN sP s p l k ph) (ho : op k = 10) (hphe : ph = 2)  (h : ey_F Z ob tks pl nds res cls prp lit lsz fb tk tv opd rk rn op nm ay prt ylo yhi s (p + 1) l g ret out sN sP sX sK it vr) : ey_F Z ob tks pl nds res cls prp lit lsz fb tk tv opd rk rn op nm ay prt ylo yhi (s + 1) p l g ret out sN (upd sP p (nI (ph + 1))) sX sK it vr := by
  obtain ⟨hs, hp, hl, hk, eN, eP, hph1⟩ := id ha
  have cp : (nI p).toNatClampNeg = p := nI_clamp (by omega)
  have ck : (nI k).toNatClampNeg = k := nI_clamp (by omega)
  have ip : vp_in (nI p) 220 := vp_in_nI hp (by decide)
  have ik : vp_in (nI k) 280 := vp_in_nI hk (by decide)
  have hph : ¬ nI ph = 0 := by subst hphe; decide
  refine ey_go ha (fun K kk => ⟨ip, nm_r (e' := nI k) (by rw [cp]; exact eN) ⟨ik, nm_r (e' := 10) (by rw [ck]; exact ho) ⟨ip, nm_r (e' := nI ph) (by rw [cp]; exact eP) ⟨ip, ip, nm_r (e' := upd sP p (nI (ph + 1))) (by rw [cp, eP, nI_1]) (br_f (by decide) (br_f (by decide) (br_f (by decide) (br_f (by decide) (br_f hph (br_f (by decide) (br_f (by decide) (br_f (by decide) (br_f (by decide) (br_f (by decide) (br_t (by decide) (br_f (by decide) (br_f (by decide) (br_t rfl (?_)))))))))))))))⟩⟩⟩⟩) h
  exact br_t (by rw [hphe]; rfl) (ey_give kk)
theorem yr_ch11 (ha : ey_at sN sP s p l k ph) (ho : op k = 11) (hphe : ph = 2)  (h : ey_F Z ob tks pl nds res cls prp lit lsz fb tk tv opd rk rn op nm ay prt ylo yhi s (p + 1) l g ret out sN sP sX sK it vr) : ey_F Z ob tks pl nds res cls prp lit lsz fb tk tv opd rk rn op nm ay prt ylo yhi (s + 1) p l g ret out sN (upd sP p (nI (ph + 1))) sX sK it vr := by
  obtain ⟨hs, hp, hl, hk, eN, eP, hph1⟩ := id ha
  have cp : (nI p).toNatClampNeg = p := nI_clamp (by omega)
  have ck : (nI k).toNatClampNeg = k := nI_clamp (by omega)
  have ip : vp_in (nI p) 220 := vp_in_nI hp (by decide)
  have ik : vp_in (nI k) 280 := vp_in_nI hk (by decide)
  have hph : ¬ nI ph = 0 := by subst hphe; decide
  refine ey_go ha (fun K kk => ⟨ip, nm_r (e' := nI k) (by rw [cp]; exact eN) ⟨ik, nm_r (e' := 11) (by rw [ck]; exact ho) ⟨ip, nm_r (e' := nI ph) (by rw [cp]; exact eP) ⟨ip, ip, nm_r (e' := upd sP p (nI (ph + 1))) (by rw [cp, eP, nI_1]) (br_f (by decide) (br_f (by decide) (br_f (by decide) (br_f (by decide) (br_f hph (br_f (by decide) (br_f (by decide) (br_f (by decide) (br_f (by decide) (br_f (by decide) (br_t (by decide) (br_f (by decide) (br_t rfl (?_))))))))))))))⟩⟩⟩⟩) h
  exact br_t (by rw [hphe]; rfl) (ey_give kk)
theorem yr_if1 (ha : ey_at sN sP s p l k ph) (ho : op k = 8) (hphe : ph = 1) (hp1 : p + 1 < 220) (hr : ret = 1) (h : ey_F Z ob tks pl nds res cls prp lit lsz fb tk tv opd rk rn op nm ay prt ylo yhi s (p + 1) l g ret out sN sP sX sK it vr) : ey_F Z ob tks pl nds res cls prp lit lsz fb tk tv opd rk rn op nm ay prt ylo yhi (s + 1) (p + 2) l g ret out (upd sN (p + 1) (prt (k * 3 + 1))) (upd (upd sP p (nI (ph + 1))) (p + 1) 0) sX sK it vr := by
  obtain ⟨hs, hp, hl, hk, eN, eP, hph1⟩ := id ha
  have cp : (nI p).toNatClampNeg = p := nI_clamp (by omega)
  have ck : (nI k).toNatClampNeg = k := nI_clamp (by omega)
  have ip : vp_in (nI p) 220 := vp_in_nI hp (by decide)
  have ik : vp_in (nI k) 280 := vp_in_nI hk (by decide)
  have hph : ¬ nI ph = 0 := by subst hphe; decide
  refine ey_go ha (fun K kk => ⟨ip, nm_r (e' := nI k) (by rw [cp]; exact eN) ⟨ik, nm_r (e' := 8) (by rw [ck]; exact ho) ⟨ip, nm_r (e' := nI ph) (by rw [cp]; exact eP) ⟨ip, ip, nm_r (e' := upd sP p (nI (ph + 1))) (by rw [cp, eP, nI_1]) (br_f (by decide) (br_f (by decide) (br_f (by decide) (br_f (by decide) (br_f hph (br_f (by decide) (br_f (by decide) (br_f (by decide) (br_f (by decide) (br_f (by decide) (br_t (by decide) (br_t rfl (?_)))))))))))))⟩⟩⟩⟩) h
  refine br_f (by rw [hphe]; decide) (br_t rfl (br_t hr ?_))
  rw [show nI k * 3 + 1 = nI (k * 3 + 1) from gr_lin k 3 1 rfl rfl, nI_clamp (n := k * 3 + 1) (by omega)]
  exact ⟨vp_in_nI (by omega) (by decide), ey_down (p := p + 1) hp1 kk⟩
theorem yr_if0 (ha : ey_at sN sP s p l k ph) (ho : op k = 8) (hphe : ph = 1) (hp1 : p + 1 < 220) (hr : ¬ ret = 1) (h : ey_F Z ob tks pl nds res cls prp lit lsz fb tk tv opd rk rn op nm ay prt ylo yhi s (p + 1) l g ret out sN sP sX sK it vr) : ey_F Z ob tks pl nds res cls prp lit lsz fb tk tv opd rk rn op nm ay prt ylo yhi (s + 1) (p + 2) l g ret out (upd sN (p + 1) (prt (k * 3 + 2))) (upd (upd sP p (nI (ph + 1))) (p + 1) 0) sX sK it vr := by
  obtain ⟨hs, hp, hl, hk, eN, eP, hph1⟩ := id ha
  have cp : (nI p).toNatClampNeg = p := nI_clamp (by omega)
  have ck : (nI k).toNatClampNeg = k := nI_clamp (by omega)
  have ip : vp_in (nI p) 220 := vp_in_nI hp (by decide)
  have ik : vp_in (nI k) 280 := vp_in_nI hk (by decide)
  have hph : ¬ nI ph = 0 := by subst hphe; decide
  refine ey_go ha (fun K kk => ⟨ip, nm_r (e' := nI k) (by rw [cp]; exact eN) ⟨ik, nm_r (e' := 8) (by rw [ck]; exact ho) ⟨ip, nm_r (e' := nI ph) (by rw [cp]; exact eP) ⟨ip, ip, nm_r (e' := upd sP p (nI (ph + 1))) (by rw [cp, eP, nI_1]) (br_f (by decide) (br_f (by decide) (br_f (by decide) (br_f (by decide) (br_f hph (br_f (by decide) (br_f (by decide) (br_f (by decide) (br_f (by decide) (br_f (by decide) (br_t (by decide) (br_t rfl (?_)))))))))))))⟩⟩⟩⟩) h
  refine br_f (by rw [hphe]; decide) (br_t rfl (br_f hr ?_))
  rw [show nI k * 3 + 2 = nI (k * 3 + 2) from gr_lin k 3 2 rfl rfl, nI_clamp (n := k * 3 + 2) (by omega)]
  exact ⟨vp_in_nI (by omega) (by decide), ey_down (p := p + 1) hp1 kk⟩
theorem yr_and0 (ha : ey_at sN sP s p l k ph) (ho : op k = 11) (hphe : ph = 1) (hr : ret = 0) (h : ey_F Z ob tks pl nds res cls prp lit lsz fb tk tv opd rk rn op nm ay prt ylo yhi s (p + 1) l g ret out sN sP sX sK it vr) : ey_F Z ob tks pl nds res cls prp lit lsz fb tk tv opd rk rn op nm ay prt ylo yhi (s + 1) p l g ret out sN (upd sP p (nI (ph + 1))) sX sK it vr := by
  obtain ⟨hs, hp, hl, hk, eN, eP, hph1⟩ := id ha
  have cp : (nI p).toNatClampNeg = p := nI_clamp (by omega)
  have ck : (nI k).toNatClampNeg = k := nI_clamp (by omega)
  have ip : vp_in (nI p) 220 := vp_in_nI hp (by decide)
  have ik : vp_in (nI k) 280 := vp_in_nI hk (by decide)
  have hph : ¬ nI ph = 0 := by subst hphe; decide
  refine ey_go ha (fun K kk => ⟨ip, nm_r (e' := nI k) (by rw [cp]; exact eN) ⟨ik, nm_r (e' := 11) (by rw [ck]; exact ho) ⟨ip, nm_r (e' := nI ph) (by rw [cp]; exact eP) ⟨ip, ip, nm_r (e' := upd sP p (nI (ph + 1))) (by rw [cp, eP, nI_1]) (br_f (by decide) (br_f (by decide) (br_f (by decide) (br_f (by decide) (br_f hph (br_f (by decide) (br_f (by decide) (br_f (by decide) (br_f (by decide) (br_f (by decide) (br_t (by decide) (br_f (by decide) (br_t rfl (?_))))))))))))))⟩⟩⟩⟩) h
  exact br_f (by rw [hphe]; decide) (br_f (by decide) (br_t rfl (br_t hr (ey_give kk))))
theorem yr_and1 (ha : ey_at sN sP s p l k ph) (ho : op k = 11) (hphe : ph = 1) (hp1 : p + 1 < 220) (hr : ¬ ret = 0) (h : ey_F Z ob tks pl nds res cls prp lit lsz fb tk tv opd rk rn op nm ay prt ylo yhi s (p + 1) l g ret out sN sP sX sK it vr) : ey_F Z ob tks pl nds res cls prp lit lsz fb tk tv opd rk rn op nm ay prt ylo yhi (s + 1) (p + 2) l g ret out (upd sN (p + 1) (prt (k * 3 + 1))) (upd (upd sP p (nI (ph + 1))) (p + 1) 0) sX sK it vr := by
  obtain ⟨hs, hp, hl, hk, eN, eP, hph1⟩ := id ha
  have cp : (nI p).toNatClampNeg = p := nI_clamp (by omega)
  have ck : (nI k).toNatClampNeg = k := nI_clamp (by omega)
  have ip : vp_in (nI p) 220 := vp_in_nI hp (by decide)
  have ik : vp_in (nI k) 280 := vp_in_nI hk (by decide)
  have hph : ¬ nI ph = 0 := by subst hphe; decide
  refine ey_go ha (fun K kk => ⟨ip, nm_r (e' := nI k) (by rw [cp]; exact eN) ⟨ik, nm_r (e' := 11) (by rw [ck]; exact ho) ⟨ip, nm_r (e' := nI ph) (by rw [cp]; exact eP) ⟨ip, ip, nm_r (e' := upd sP p (nI (ph + 1))) (by rw [cp, eP, nI_1]) (br_f (by decide) (br_f (by decide) (br_f (by decide) (br_f (by decide) (br_f hph (br_f (by decide) (br_f (by decide) (br_f (by decide) (br_f (by decide) (br_f (by decide) (br_t (by decide) (br_f (by decide) (br_t rfl (?_))))))))))))))⟩⟩⟩⟩) h
  refine br_f (by rw [hphe]; decide) (br_f (by decide) (br_t rfl (br_f hr ?_)))
  rw [show nI k * 3 + 1 = nI (k * 3 + 1) from gr_lin k 3 1 rfl rfl, nI_clamp (n := k * 3 + 1) (by omega)]
  exact ⟨vp_in_nI (by omega) (by decide), ey_down (p := p + 1) hp1 kk⟩
theorem yr_or1 (ha : ey_at sN sP s p l k ph) (ho : op k = 10) (hphe : ph = 1) (hr : ret = 1) (h : ey_F Z ob tks pl nds res cls prp lit lsz fb tk tv opd rk rn op nm ay prt ylo yhi s (p + 1) l g ret out sN sP sX sK it vr) : ey_F Z ob tks pl nds res cls prp lit lsz fb tk tv opd rk rn op nm ay prt ylo yhi (s + 1) p l g ret out sN (upd sP p (nI (ph + 1))) sX sK it vr := by
  obtain ⟨hs, hp, hl, hk, eN, eP, hph1⟩ := id ha
  have cp : (nI p).toNatClampNeg = p := nI_clamp (by omega)
  have ck : (nI k).toNatClampNeg = k := nI_clamp (by omega)
  have ip : vp_in (nI p) 220 := vp_in_nI hp (by decide)
  have ik : vp_in (nI k) 280 := vp_in_nI hk (by decide)
  have hph : ¬ nI ph = 0 := by subst hphe; decide
  refine ey_go ha (fun K kk => ⟨ip, nm_r (e' := nI k) (by rw [cp]; exact eN) ⟨ik, nm_r (e' := 10) (by rw [ck]; exact ho) ⟨ip, nm_r (e' := nI ph) (by rw [cp]; exact eP) ⟨ip, ip, nm_r (e' := upd sP p (nI (ph + 1))) (by rw [cp, eP, nI_1]) (br_f (by decide) (br_f (by decide) (br_f (by decide) (br_f (by decide) (br_f hph (br_f (by decide) (br_f (by decide) (br_f (by decide) (br_f (by decide) (br_f (by decide) (br_t (by decide) (br_f (by decide) (br_f (by decide) (br_t rfl (?_)))))))))))))))⟩⟩⟩⟩) h
  exact br_f (by rw [hphe]; decide) (br_f (by decide) (br_f (by decide) (br_t hr (ey_give kk))))
theorem yr_or0 (ha : ey_at sN sP s p l k ph) (ho : op k = 10) (hphe : ph = 1) (hp1 : p + 1 < 220) (hr : ¬ ret = 1) (h : ey_F Z ob tks pl nds res cls prp lit lsz fb tk tv opd rk rn op nm ay prt ylo yhi s (p + 1) l g ret out sN sP sX sK it vr) : ey_F Z ob tks pl nds res cls prp lit lsz fb tk tv opd rk rn op nm ay prt ylo yhi (s + 1) (p + 2) l g ret out (upd sN (p + 1) (prt (k * 3 + 1))) (upd (upd sP p (nI (ph + 1))) (p + 1) 0) sX sK it vr := by
  obtain ⟨hs, hp, hl, hk, eN, eP, hph1⟩ := id ha
  have cp : (nI p).toNatClampNeg = p := nI_clamp (by omega)
  have ck : (nI k).toNatClampNeg = k := nI_clamp (by omega)
  have ip : vp_in (nI p) 220 := vp_in_nI hp (by decide)
  have ik : vp_in (nI k) 280 := vp_in_nI hk (by decide)
  have hph : ¬ nI ph = 0 := by subst hphe; decide
  refine ey_go ha (fun K kk => ⟨ip, nm_r (e' := nI k) (by rw [cp]; exact eN) ⟨ik, nm_r (e' := 10) (by rw [ck]; exact ho) ⟨ip, nm_r (e' := nI ph) (by rw [cp]; exact eP) ⟨ip, ip, nm_r (e' := upd sP p (nI (ph + 1))) (by rw [cp, eP, nI_1]) (br_f (by decide) (br_f (by decide) (br_f (by decide) (br_f (by decide) (br_f hph (br_f (by decide) (br_f (by decide) (br_f (by decide) (br_f (by decide) (br_f (by decide) (br_t (by decide) (br_f (by decide) (br_f (by decide) (br_t rfl (?_)))))))))))))))⟩⟩⟩⟩) h
  refine br_f (by rw [hphe]; decide) (br_f (by decide) (br_f (by decide) (br_f hr ?_)))
  rw [show nI k * 3 + 1 = nI (k * 3 + 1) from gr_lin k 3 1 rfl rfl, nI_clamp (n := k * 3 + 1) (by omega)]
  exact ⟨vp_in_nI (by omega) (by decide), ey_down (p := p + 1) hp1 kk⟩
theorem yr_bl13 (ha : ey_at sN sP s p l k ph) (ho : op k = 13) (hphe : ph = 1) (hp1 : p + 1 < 220) (h : ey_F Z ob tks pl nds res cls prp lit lsz fb tk tv opd rk rn op nm ay prt ylo yhi s (p + 1) l g ret out sN sP sX sK it vr) : ey_F Z ob tks pl nds res cls prp lit lsz fb tk tv opd rk rn op nm ay prt ylo yhi (s + 1) (p + 2) l g ret out (upd sN (p + 1) (prt (k * 3 + 1))) (upd (upd sP p (nI (ph + 1))) (p + 1) 0) (upd sX p ret) sK it vr := by
  obtain ⟨hs, hp, hl, hk, eN, eP, hph1⟩ := id ha
  have cp : (nI p).toNatClampNeg = p := nI_clamp (by omega)
  have ck : (nI k).toNatClampNeg = k := nI_clamp (by omega)
  have ip : vp_in (nI p) 220 := vp_in_nI hp (by decide)
  have ik : vp_in (nI k) 280 := vp_in_nI hk (by decide)
  have hph : ¬ nI ph = 0 := by subst hphe; decide
  refine ey_go ha (fun K kk => ⟨ip, nm_r (e' := nI k) (by rw [cp]; exact eN) ⟨ik, nm_r (e' := 13) (by rw [ck]; exact ho) ⟨ip, nm_r (e' := nI ph) (by rw [cp]; exact eP) ⟨ip, ip, nm_r (e' := upd sP p (nI (ph + 1))) (by rw [cp, eP, nI_1]) (br_f (by decide) (br_f (by decide) (br_f (by decide) (br_f (by decide) (br_f hph (br_f (by decide) (br_f (by decide) (br_f (by decide) (br_f (by decide) (br_f (by decide) (br_t (by decide) (br_f (by decide) (br_f (by decide) (br_f (by decide) (?_)))))))))))))))⟩⟩⟩⟩) h
  refine br_t (by rw [hphe]; rfl) ⟨ip, nm_r (by rw [cp]) ?_⟩
  rw [show nI k * 3 + 1 = nI (k * 3 + 1) from gr_lin k 3 1 rfl rfl, nI_clamp (n := k * 3 + 1) (by omega)]
  exact ⟨vp_in_nI (by omega) (by decide), ey_down (p := p + 1) hp1 kk⟩
theorem yr_br13 (ha : ey_at sN sP s p l k ph) (ho : op k = 13) (hphe : ph = 2)  (h : ey_F Z ob tks pl nds res cls prp lit lsz fb tk tv opd rk rn op nm ay prt ylo yhi s (p + 1) l g ret out sN sP sX sK it vr) : ey_F Z ob tks pl nds res cls prp lit lsz fb tk tv opd rk rn op nm ay prt ylo yhi (s + 1) p l g (gr_bv 13 (sX p) ret) out sN (upd sP p (nI (ph + 1))) sX sK it vr := by
  obtain ⟨hs, hp, hl, hk, eN, eP, hph1⟩ := id ha
  have cp : (nI p).toNatClampNeg = p := nI_clamp (by omega)
  have ck : (nI k).toNatClampNeg = k := nI_clamp (by omega)
  have ip : vp_in (nI p) 220 := vp_in_nI hp (by decide)
  have ik : vp_in (nI k) 280 := vp_in_nI hk (by decide)
  have hph : ¬ nI ph = 0 := by subst hphe; decide
  refine ey_go ha (fun K kk => ⟨ip, nm_r (e' := nI k) (by rw [cp]; exact eN) ⟨ik, nm_r (e' := 13) (by rw [ck]; exact ho) ⟨ip, nm_r (e' := nI ph) (by rw [cp]; exact eP) ⟨ip, ip, nm_r (e' := upd sP p (nI (ph + 1))) (by rw [cp, eP, nI_1]) (br_f (by decide) (br_f (by decide) (br_f (by decide) (br_f (by decide) (br_f hph (br_f (by decide) (br_f (by decide) (br_f (by decide) (br_f (by decide) (br_f (by decide) (br_t (by decide) (br_f (by decide) (br_f (by decide) (br_f (by decide) (?_)))))))))))))))⟩⟩⟩⟩) h
  refine br_f (by rw [hphe]; decide) ⟨ip, ?_⟩
  rw [cp]
  refine br_f (by decide) (br_f (by decide) (br_t (by decide) ?_))
  by_cases z : sX p = ret
  · rw [show gr_bv 13 (sX p) ret = 1 from if_pos z] at kk
    exact br_t z (ey_give kk)
  · rw [show gr_bv 13 (sX p) ret = 0 from if_neg z] at kk
    exact br_f z (ey_give kk)
theorem yr_bl14 (ha : ey_at sN sP s p l k ph) (ho : op k = 14) (hphe : ph = 1) (hp1 : p + 1 < 220) (h : ey_F Z ob tks pl nds res cls prp lit lsz fb tk tv opd rk rn op nm ay prt ylo yhi s (p + 1) l g ret out sN sP sX sK it vr) : ey_F Z ob tks pl nds res cls prp lit lsz fb tk tv opd rk rn op nm ay prt ylo yhi (s + 1) (p + 2) l g ret out (upd sN (p + 1) (prt (k * 3 + 1))) (upd (upd sP p (nI (ph + 1))) (p + 1) 0) (upd sX p ret) sK it vr := by
  obtain ⟨hs, hp, hl, hk, eN, eP, hph1⟩ := id ha
  have cp : (nI p).toNatClampNeg = p := nI_clamp (by omega)
  have ck : (nI k).toNatClampNeg = k := nI_clamp (by omega)
  have ip : vp_in (nI p) 220 := vp_in_nI hp (by decide)
  have ik : vp_in (nI k) 280 := vp_in_nI hk (by decide)
  have hph : ¬ nI ph = 0 := by subst hphe; decide
  refine ey_go ha (fun K kk => ⟨ip, nm_r (e' := nI k) (by rw [cp]; exact eN) ⟨ik, nm_r (e' := 14) (by rw [ck]; exact ho) ⟨ip, nm_r (e' := nI ph) (by rw [cp]; exact eP) ⟨ip, ip, nm_r (e' := upd sP p (nI (ph + 1))) (by rw [cp, eP, nI_1]) (br_f (by decide) (br_f (by decide) (br_f (by decide) (br_f (by decide) (br_f hph (br_f (by decide) (br_f (by decide) (br_f (by decide) (br_f (by decide) (br_f (by decide) (br_t (by decide) (br_f (by decide) (br_f (by decide) (br_f (by decide) (?_)))))))))))))))⟩⟩⟩⟩) h
  refine br_t (by rw [hphe]; rfl) ⟨ip, nm_r (by rw [cp]) ?_⟩
  rw [show nI k * 3 + 1 = nI (k * 3 + 1) from gr_lin k 3 1 rfl rfl, nI_clamp (n := k * 3 + 1) (by omega)]
  exact ⟨vp_in_nI (by omega) (by decide), ey_down (p := p + 1) hp1 kk⟩
theorem yr_br14 (ha : ey_at sN sP s p l k ph) (ho : op k = 14) (hphe : ph = 2)  (h : ey_F Z ob tks pl nds res cls prp lit lsz fb tk tv opd rk rn op nm ay prt ylo yhi s (p + 1) l g ret out sN sP sX sK it vr) : ey_F Z ob tks pl nds res cls prp lit lsz fb tk tv opd rk rn op nm ay prt ylo yhi (s + 1) p l g (gr_bv 14 (sX p) ret) out sN (upd sP p (nI (ph + 1))) sX sK it vr := by
  obtain ⟨hs, hp, hl, hk, eN, eP, hph1⟩ := id ha
  have cp : (nI p).toNatClampNeg = p := nI_clamp (by omega)
  have ck : (nI k).toNatClampNeg = k := nI_clamp (by omega)
  have ip : vp_in (nI p) 220 := vp_in_nI hp (by decide)
  have ik : vp_in (nI k) 280 := vp_in_nI hk (by decide)
  have hph : ¬ nI ph = 0 := by subst hphe; decide
  refine ey_go ha (fun K kk => ⟨ip, nm_r (e' := nI k) (by rw [cp]; exact eN) ⟨ik, nm_r (e' := 14) (by rw [ck]; exact ho) ⟨ip, nm_r (e' := nI ph) (by rw [cp]; exact eP) ⟨ip, ip, nm_r (e' := upd sP p (nI (ph + 1))) (by rw [cp, eP, nI_1]) (br_f (by decide) (br_f (by decide) (br_f (by decide) (br_f (by decide) (br_f hph (br_f (by decide) (br_f (by decide) (br_f (by decide) (br_f (by decide) (br_f (by decide) (br_t (by decide) (br_f (by decide) (br_f (by decide) (br_f (by decide) (?_)))))))))))))))⟩⟩⟩⟩) h
  refine br_f (by rw [hphe]; decide) ⟨ip, ?_⟩
  rw [cp]
  refine br_f (by decide) (br_f (by decide) (br_f (by decide) (br_t (by decide) ?_)))
  by_cases z : ret ≤ sX p
  · rw [show gr_bv 14 (sX p) ret = 0 from if_pos z] at kk
    exact br_t z (ey_give kk)
  · rw [show gr_bv 14 (sX p) ret = 1 from if_neg z] at kk
    exact br_f z (ey_give kk)
theorem yr_bl15 (ha : ey_at sN sP s p l k ph) (ho : op k = 15) (hphe : ph = 1) (hp1 : p + 1 < 220) (h : ey_F Z ob tks pl nds res cls prp lit lsz fb tk tv opd rk rn op nm ay prt ylo yhi s (p + 1) l g ret out sN sP sX sK it vr) : ey_F Z ob tks pl nds res cls prp lit lsz fb tk tv opd rk rn op nm ay prt ylo yhi (s + 1) (p + 2) l g ret out (upd sN (p + 1) (prt (k * 3 + 1))) (upd (upd sP p (nI (ph + 1))) (p + 1) 0) (upd sX p ret) sK it vr := by
  obtain ⟨hs, hp, hl, hk, eN, eP, hph1⟩ := id ha
  have cp : (nI p).toNatClampNeg = p := nI_clamp (by omega)
  have ck : (nI k).toNatClampNeg = k := nI_clamp (by omega)
  have ip : vp_in (nI p) 220 := vp_in_nI hp (by decide)
  have ik : vp_in (nI k) 280 := vp_in_nI hk (by decide)
  have hph : ¬ nI ph = 0 := by subst hphe; decide
  refine ey_go ha (fun K kk => ⟨ip, nm_r (e' := nI k) (by rw [cp]; exact eN) ⟨ik, nm_r (e' := 15) (by rw [ck]; exact ho) ⟨ip, nm_r (e' := nI ph) (by rw [cp]; exact eP) ⟨ip, ip, nm_r (e' := upd sP p (nI (ph + 1))) (by rw [cp, eP, nI_1]) (br_f (by decide) (br_f (by decide) (br_f (by decide) (br_f (by decide) (br_f hph (br_f (by decide) (br_f (by decide) (br_f (by decide) (br_f (by decide) (br_f (by decide) (br_t (by decide) (br_f (by decide) (br_f (by decide) (br_f (by decide) (?_)))))))))))))))⟩⟩⟩⟩) h
  refine br_t (by rw [hphe]; rfl) ⟨ip, nm_r (by rw [cp]) ?_⟩
  rw [show nI k * 3 + 1 = nI (k * 3 + 1) from gr_lin k 3 1 rfl rfl, nI_clamp (n := k * 3 + 1) (by omega)]
  exact ⟨vp_in_nI (by omega) (by decide), ey_down (p := p + 1) hp1 kk⟩
theorem yr_br15 (ha : ey_at sN sP s p l k ph) (ho : op k = 15) (hphe : ph = 2)  (h : ey_F Z ob tks pl nds res cls prp lit lsz fb tk tv opd rk rn op nm ay prt ylo yhi s (p + 1) l g ret out sN sP sX sK it vr) : ey_F Z ob tks pl nds res cls prp lit lsz fb tk tv opd rk rn op nm ay prt ylo yhi (s + 1) p l g (gr_bv 15 (sX p) ret) out sN (upd sP p (nI (ph + 1))) sX sK it vr := by
  obtain ⟨hs, hp, hl, hk, eN, eP, hph1⟩ := id ha
  have cp : (nI p).toNatClampNeg = p := nI_clamp (by omega)
  have ck : (nI k).toNatClampNeg = k := nI_clamp (by omega)
  have ip : vp_in (nI p) 220 := vp_in_nI hp (by decide)
  have ik : vp_in (nI k) 280 := vp_in_nI hk (by decide)
  have hph : ¬ nI ph = 0 := by subst hphe; decide
  refine ey_go ha (fun K kk => ⟨ip, nm_r (e' := nI k) (by rw [cp]; exact eN) ⟨ik, nm_r (e' := 15) (by rw [ck]; exact ho) ⟨ip, nm_r (e' := nI ph) (by rw [cp]; exact eP) ⟨ip, ip, nm_r (e' := upd sP p (nI (ph + 1))) (by rw [cp, eP, nI_1]) (br_f (by decide) (br_f (by decide) (br_f (by decide) (br_f (by decide) (br_f hph (br_f (by decide) (br_f (by decide) (br_f (by decide) (br_f (by decide) (br_f (by decide) (br_t (by decide) (br_f (by decide) (br_f (by decide) (br_f (by decide) (?_)))))))))))))))⟩⟩⟩⟩) h
  refine br_f (by rw [hphe]; decide) ⟨ip, ?_⟩
  rw [cp]
  exact br_f (by decide) (br_f (by decide) (br_f (by decide) (br_f (by decide) (br_t (by decide) (ey_give kk)))))
theorem yr_bl16 (ha : ey_at sN sP s p l k ph) (ho : op k = 16) (hphe : ph = 1) (hp1 : p + 1 < 220) (h : ey_F Z ob tks pl nds res cls prp lit lsz fb tk tv opd rk rn op nm ay prt ylo yhi s (p + 1) l g ret out sN sP sX sK it vr) : ey_F Z ob tks pl nds res cls prp lit lsz fb tk tv opd rk rn op nm ay prt ylo yhi (s + 1) (p + 2) l g ret out (upd sN (p + 1) (prt (k * 3 + 1))) (upd (upd sP p (nI (ph + 1))) (p + 1) 0) (upd sX p ret) sK it vr := by
  obtain ⟨hs, hp, hl, hk, eN, eP, hph1⟩ := id ha
  have cp : (nI p).toNatClampNeg = p := nI_clamp (by omega)
  have ck : (nI k).toNatClampNeg = k := nI_clamp (by omega)
  have ip : vp_in (nI p) 220 := vp_in_nI hp (by decide)
  have ik : vp_in (nI k) 280 := vp_in_nI hk (by decide)
  have hph : ¬ nI ph = 0 := by subst hphe; decide
  refine ey_go ha (fun K kk => ⟨ip, nm_r (e' := nI k) (by rw [cp]; exact eN) ⟨ik, nm_r (e' := 16) (by rw [ck]; exact ho) ⟨ip, nm_r (e' := nI ph) (by rw [cp]; exact eP) ⟨ip, ip, nm_r (e' := upd sP p (nI (ph + 1))) (by rw [cp, eP, nI_1]) (br_f (by decide) (br_f (by decide) (br_f (by decide) (br_f (by decide) (br_f hph (br_f (by decide) (br_f (by decide) (br_f (by decide) (br_f (by decide) (br_f (by decide) (br_t (by decide) (br_f (by decide) (br_f (by decide) (br_f (by decide) (?_)))))))))))))))⟩⟩⟩⟩) h
  refine br_t (by rw [hphe]; rfl) ⟨ip, nm_r (by rw [cp]) ?_⟩
  rw [show nI k * 3 + 1 = nI (k * 3 + 1) from gr_lin k 3 1 rfl rfl, nI_clamp (n := k * 3 + 1) (by omega)]
  exact ⟨vp_in_nI (by omega) (by decide), ey_down (p := p + 1) hp1 kk⟩
theorem yr_br16 (ha : ey_at sN sP s p l k ph) (ho : op k = 16) (hphe : ph = 2)  (h : ey_F Z ob tks pl nds res cls prp lit lsz fb tk tv opd rk rn op nm ay prt ylo yhi s (p + 1) l g ret out sN sP sX sK it vr) : ey_F Z ob tks pl nds res cls prp lit lsz fb tk tv opd rk rn op nm ay prt ylo yhi (s + 1) p l g (gr_bv 16 (sX p) ret) out sN (upd sP p (nI (ph + 1))) sX sK it vr := by
  obtain ⟨hs, hp, hl, hk, eN, eP, hph1⟩ := id ha
  have cp : (nI p).toNatClampNeg = p := nI_clamp (by omega)
  have ck : (nI k).toNatClampNeg = k := nI_clamp (by omega)
  have ip : vp_in (nI p) 220 := vp_in_nI hp (by decide)
  have ik : vp_in (nI k) 280 := vp_in_nI hk (by decide)
  have hph : ¬ nI ph = 0 := by subst hphe; decide
  refine ey_go ha (fun K kk => ⟨ip, nm_r (e' := nI k) (by rw [cp]; exact eN) ⟨ik, nm_r (e' := 16) (by rw [ck]; exact ho) ⟨ip, nm_r (e' := nI ph) (by rw [cp]; exact eP) ⟨ip, ip, nm_r (e' := upd sP p (nI (ph + 1))) (by rw [cp, eP, nI_1]) (br_f (by decide) (br_f (by decide) (br_f (by decide) (br_f (by decide) (br_f hph (br_f (by decide) (br_f (by decide) (br_f (by decide) (br_f (by decide) (br_f (by decide) (br_t (by decide) (br_f (by decide) (br_f (by decide) (br_f (by decide) (?_)))))))))))))))⟩⟩⟩⟩) h
  refine br_f (by rw [hphe]; decide) ⟨ip, ?_⟩
  rw [cp]
  exact br_f (by decide) (br_f (by decide) (br_f (by decide) (br_f (by decide) (br_f (by decide) (br_t (by decide) (ey_give kk))))))
theorem yr_bl17 (ha : ey_at sN sP s p l k ph) (ho : op k = 17) (hphe : ph = 1) (hp1 : p + 1 < 220) (h : ey_F Z ob tks pl nds res cls prp lit lsz fb tk tv opd rk rn op nm ay prt ylo yhi s (p + 1) l g ret out sN sP sX sK it vr) : ey_F Z ob tks pl nds res cls prp lit lsz fb tk tv opd rk rn op nm ay prt ylo yhi (s + 1) (p + 2) l g ret out (upd sN (p + 1) (prt (k * 3 + 1))) (upd (upd sP p (nI (ph + 1))) (p + 1) 0) (upd sX p ret) sK it vr := by
  obtain ⟨hs, hp, hl, hk, eN, eP, hph1⟩ := id ha
  have cp : (nI p).toNatClampNeg = p := nI_clamp (by omega)
  have ck : (nI k).toNatClampNeg = k := nI_clamp (by omega)
  have ip : vp_in (nI p) 220 := vp_in_nI hp (by decide)
  have ik : vp_in (nI k) 280 := vp_in_nI hk (by decide)
  have hph : ¬ nI ph = 0 := by subst hphe; decide
  refine ey_go ha (fun K kk => ⟨ip, nm_r (e' := nI k) (by rw [cp]; exact eN) ⟨ik, nm_r (e' := 17) (by rw [ck]; exact ho) ⟨ip, nm_r (e' := nI ph) (by rw [cp]; exact eP) ⟨ip, ip, nm_r (e' := upd sP p (nI (ph + 1))) (by rw [cp, eP, nI_1]) (br_f (by decide) (br_f (by decide) (br_f (by decide) (br_f (by decide) (br_f hph (br_f (by decide) (br_f (by decide) (br_f (by decide) (br_f (by decide) (br_f (by decide) (br_t (by decide) (br_f (by decide) (br_f (by decide) (br_f (by decide) (?_)))))))))))))))⟩⟩⟩⟩) h
  refine br_t (by rw [hphe]; rfl) ⟨ip, nm_r (by rw [cp]) ?_⟩
  rw [show nI k * 3 + 1 = nI (k * 3 + 1) from gr_lin k 3 1 rfl rfl, nI_clamp (n := k * 3 + 1) (by omega)]
  exact ⟨vp_in_nI (by omega) (by decide), ey_down (p := p + 1) hp1 kk⟩
theorem yr_br17 (ha : ey_at sN sP s p l k ph) (ho : op k = 17) (hphe : ph = 2)  (h : ey_F Z ob tks pl nds res cls prp lit lsz fb tk tv opd rk rn op nm ay prt ylo yhi s (p + 1) l g ret out sN sP sX sK it vr) : ey_F Z ob tks pl nds res cls prp lit lsz fb tk tv opd rk rn op nm ay prt ylo yhi (s + 1) p l g (gr_bv 17 (sX p) ret) out sN (upd sP p (nI (ph + 1))) sX sK it vr := by
  obtain ⟨hs, hp, hl, hk, eN, eP, hph1⟩ := id ha
  have cp : (nI p).toNatClampNeg = p := nI_clamp (by omega)
  have ck : (nI k).toNatClampNeg = k := nI_clamp (by omega)
  have ip : vp_in (nI p) 220 := vp_in_nI hp (by decide)
  have ik : vp_in (nI k) 280 := vp_in_nI hk (by decide)
  have hph : ¬ nI ph = 0 := by subst hphe; decide
  refine ey_go ha (fun K kk => ⟨ip, nm_r (e' := nI k) (by rw [cp]; exact eN) ⟨ik, nm_r (e' := 17) (by rw [ck]; exact ho) ⟨ip, nm_r (e' := nI ph) (by rw [cp]; exact eP) ⟨ip, ip, nm_r (e' := upd sP p (nI (ph + 1))) (by rw [cp, eP, nI_1]) (br_f (by decide) (br_f (by decide) (br_f (by decide) (br_f (by decide) (br_f hph (br_f (by decide) (br_f (by decide) (br_f (by decide) (br_f (by decide) (br_f (by decide) (br_t (by decide) (br_f (by decide) (br_f (by decide) (br_f (by decide) (?_)))))))))))))))⟩⟩⟩⟩) h
  refine br_f (by rw [hphe]; decide) ⟨ip, ?_⟩
  rw [cp]
  exact br_f (by decide) (br_f (by decide) (br_f (by decide) (br_f (by decide) (br_f (by decide) (br_f (by decide) (ey_give kk))))))
theorem yr_bl18 (ha : ey_at sN sP s p l k ph) (ho : op k = 18) (hphe : ph = 1) (hp1 : p + 1 < 220) (h : ey_F Z ob tks pl nds res cls prp lit lsz fb tk tv opd rk rn op nm ay prt ylo yhi s (p + 1) l g ret out sN sP sX sK it vr) : ey_F Z ob tks pl nds res cls prp lit lsz fb tk tv opd rk rn op nm ay prt ylo yhi (s + 1) (p + 2) l g ret out (upd sN (p + 1) (prt (k * 3 + 1))) (upd (upd sP p (nI (ph + 1))) (p + 1) 0) (upd sX p ret) sK it vr := by
  obtain ⟨hs, hp, hl, hk, eN, eP, hph1⟩ := id ha
  have cp : (nI p).toNatClampNeg = p := nI_clamp (by omega)
  have ck : (nI k).toNatClampNeg = k := nI_clamp (by omega)
  have ip : vp_in (nI p) 220 := vp_in_nI hp (by decide)
  have ik : vp_in (nI k) 280 := vp_in_nI hk (by decide)
  have hph : ¬ nI ph = 0 := by subst hphe; decide
  refine ey_go ha (fun K kk => ⟨ip, nm_r (e' := nI k) (by rw [cp]; exact eN) ⟨ik, nm_r (e' := 18) (by rw [ck]; exact ho) ⟨ip, nm_r (e' := nI ph) (by rw [cp]; exact eP) ⟨ip, ip, nm_r (e' := upd sP p (nI (ph + 1))) (by rw [cp, eP, nI_1]) (br_f (by decide) (br_f (by decide) (br_f (by decide) (br_f (by decide) (br_f hph (br_f (by decide) (br_f (by decide) (br_f (by decide) (br_f (by decide) (br_f (by decide) (br_t (by decide) (br_f (by decide) (br_f (by decide) (br_f (by decide) (?_)))))))))))))))⟩⟩⟩⟩) h
  refine br_t (by rw [hphe]; rfl) ⟨ip, nm_r (by rw [cp]) ?_⟩
  rw [show nI k * 3 + 1 = nI (k * 3 + 1) from gr_lin k 3 1 rfl rfl, nI_clamp (n := k * 3 + 1) (by omega)]
  exact ⟨vp_in_nI (by omega) (by decide), ey_down (p := p + 1) hp1 kk⟩
theorem yr_br18 (ha : ey_at sN sP s p l k ph) (ho : op k = 18) (hphe : ph = 2) (hz : ¬ ret = 0) (h : ey_F Z ob tks pl nds res cls prp lit lsz fb tk tv opd rk rn op nm ay prt ylo yhi s (p + 1) l g ret out sN sP sX sK it vr) : ey_F Z ob tks pl nds res cls prp lit lsz fb tk tv opd rk rn op nm ay prt ylo yhi (s + 1) p l g (gr_bv 18 (sX p) ret) out sN (upd sP p (nI (ph + 1))) sX sK it vr := by
  obtain ⟨hs, hp, hl, hk, eN, eP, hph1⟩ := id ha
  have cp : (nI p).toNatClampNeg = p := nI_clamp (by omega)
  have ck : (nI k).toNatClampNeg = k := nI_clamp (by omega)
  have ip : vp_in (nI p) 220 := vp_in_nI hp (by decide)
  have ik : vp_in (nI k) 280 := vp_in_nI hk (by decide)
  have hph : ¬ nI ph = 0 := by subst hphe; decide
  refine ey_go ha (fun K kk => ⟨ip, nm_r (e' := nI k) (by rw [cp]; exact eN) ⟨ik, nm_r (e' := 18) (by rw [ck]; exact ho) ⟨ip, nm_r (e' := nI ph) (by rw [cp]; exact eP) ⟨ip, ip, nm_r (e' := upd sP p (nI (ph + 1))) (by rw [cp, eP, nI_1]) (br_f (by decide) (br_f (by decide) (br_f (by decide) (br_f (by decide) (br_f hph (br_f (by decide) (br_f (by decide) (br_f (by decide) (br_f (by decide) (br_f (by decide) (br_t (by decide) (br_f (by decide) (br_f (by decide) (br_f (by decide) (?_)))))))))))))))⟩⟩⟩⟩) h
  refine br_f (by rw [hphe]; decide) ⟨ip, ?_⟩
  rw [cp]
  exact br_t (by decide) (br_f hz (br_t (by decide) ⟨hz, ey_give kk⟩))
theorem yr_div (ha : ey_at sN sP s p l k ph) (ho : op k = 18) (hphe : ph = 2) (hr : ret = 0) (h : ey_F Z ob tks pl nds res cls prp lit lsz fb tk tv opd rk rn op nm ay prt ylo yhi s (p + 1) l g ret out sN sP sX sK it vr) : ey_E Z ob tks pl nds res cls prp lit lsz fb tk tv opd rk rn op nm ay prt ylo yhi 4 (if l = 0 then ay k else out) g := by
  obtain ⟨hs, hp, hl, hk, eN, eP, hph1⟩ := id ha
  have cp : (nI p).toNatClampNeg = p := nI_clamp (by omega)
  have ck : (nI k).toNatClampNeg = k := nI_clamp (by omega)
  have ip : vp_in (nI p) 220 := vp_in_nI hp (by decide)
  have ik : vp_in (nI k) 280 := vp_in_nI hk (by decide)
  have hph : ¬ nI ph = 0 := by subst hphe; decide
  refine ey_ef (x := 4) (p' := p + 1) (ret' := ret) (out' := out) (sN' := sN) (sP' := upd sP p (nI (ph + 1))) (sX' := sX) (sK' := sK) (it' := it) (vr' := vr) ha (by decide) (fun K kk => ⟨ip, nm_r (e' := nI k) (by rw [cp]; exact eN) ⟨ik, nm_r (e' := 18) (by rw [ck]; exact ho) ⟨ip, nm_r (e' := nI ph) (by rw [cp]; exact eP) ⟨ip, ip, nm_r (e' := upd sP p (nI (ph + 1))) (by rw [cp, eP, nI_1]) (br_f (by decide) (br_f (by decide) (br_f (by decide) (br_f (by decide) (br_f hph (br_f (by decide) (br_f (by decide) (br_f (by decide) (br_f (by decide) (br_f (by decide) (br_t (by decide) (br_f (by decide) (br_f (by decide) (br_f (by decide) (?_)))))))))))))))⟩⟩⟩⟩) h
  refine br_f (by rw [hphe]; decide) ⟨ip, ?_⟩
  exact br_t (by decide) (br_t hr (ey_error hl hk kk))
theorem yr_bl {t : Nat} (h13 : 13 ≤ t) (h18 : t ≤ 18) (ha : ey_at sN sP s p l k ph) (ho : op k = nI t) (hphe : ph = 1) (hp1 : p + 1 < 220) (h : ey_F Z ob tks pl nds res cls prp lit lsz fb tk tv opd rk rn op nm ay prt ylo yhi s (p + 1) l g ret out sN sP sX sK it vr) : ey_F Z ob tks pl nds res cls prp lit lsz fb tk tv opd rk rn op nm ay prt ylo yhi (s + 1) (p + 2) l g ret out (upd sN (p + 1) (prt (k * 3 + 1))) (upd (upd sP p (nI (ph + 1))) (p + 1) 0) (upd sX p ret) sK it vr := by
  have ht : t = 13 ∨ t = 14 ∨ t = 15 ∨ t = 16 ∨ t = 17 ∨ t = 18 := by omega
  rcases ht with rfl | rfl | rfl | rfl | rfl | rfl
  · exact yr_bl13 ha ho hphe hp1 h
  · exact yr_bl14 ha ho hphe hp1 h
  · exact yr_bl15 ha ho hphe hp1 h
  · exact yr_bl16 ha ho hphe hp1 h
  · exact yr_bl17 ha ho hphe hp1 h
  · exact yr_bl18 ha ho hphe hp1 h
theorem yr_br {t : Nat} (h13 : 13 ≤ t) (h18 : t ≤ 18) (ha : ey_at sN sP s p l k ph) (ho : op k = nI t) (hphe : ph = 2) (hz : ¬ (t = 18 ∧ ret = 0)) (h : ey_F Z ob tks pl nds res cls prp lit lsz fb tk tv opd rk rn op nm ay prt ylo yhi s (p + 1) l g ret out sN sP sX sK it vr) : ey_F Z ob tks pl nds res cls prp lit lsz fb tk tv opd rk rn op nm ay prt ylo yhi (s + 1) p l g (gr_bv t (sX p) ret) out sN (upd sP p (nI (ph + 1))) sX sK it vr := by
  have ht : t = 13 ∨ t = 14 ∨ t = 15 ∨ t = 16 ∨ t = 17 ∨ t = 18 := by omega
  rcases ht with rfl | rfl | rfl | rfl | rfl | rfl
  · exact yr_br13 ha ho hphe h
  · exact yr_br14 ha ho hphe h
  · exact yr_br15 ha ho hphe h
  · exact yr_br16 ha ho hphe h
  · exact yr_br17 ha ho hphe h
  · exact yr_br18 ha ho hphe (fun z => hz ⟨rfl, z⟩) h
end
section
variable {K : SY → Prop} {ob tks pl nds res ret out : Int32} {cls prp lit lsz fb tk tv opd rk rn op nm ay prt ylo yhi sN sP sX sK it vr : Nat → Int32} {p l g k ph : Nat}
theorem ey_q146 (hp : p < 220) (h : K (ob, tks, pl, nds, 1, res, (-1), nI g, nI p, nI l, sK p, out, cls, prp, lit, lsz, fb, tk, tv, opd, rk, rn, op, nm, ay, prt, ylo, yhi, sN, sP, sX, sK, it, vr)) : wY_quantify_146 K (nI p) ob tks pl nds (1) res ((-1)) (nI g) (nI (p + 1)) (nI l) ret out (cls) prp (lit) (lsz) (fb) (tk) (tv) opd (rk) rn op nm ay prt ylo yhi sN sP sX sK it vr := by
  refine ⟨vp_in_nI hp (by decide), ?_⟩
  rw [nI_clamp (by omega)]
  exact ey_give h
theorem ey_q_neg (hp : p < 220) (hx : sX p = -1) (h : wY_quantify_146 K (nI p) ob tks pl nds (1) res ((-1)) (nI g) (nI (p + 1)) (nI l) ret out (cls) prp (lit) (lsz) (fb) (tk) (tv) opd (rk) rn op nm ay prt ylo yhi sN sP sX sK it vr) : wY_quantify_113 K (nI p) (nI k) (nI ph) 0 ob tks pl nds (1) res ((-1)) (nI g) (nI (p + 1)) (nI l) ret out (cls) prp (lit) (lsz) (fb) (tk) (tv) opd (rk) rn op nm ay prt ylo yhi sN sP sX sK it vr :=
  br_t rfl ⟨vp_in_nI hp (by decide), br_t (by rw [nI_clamp (by omega), hx]; decide) h⟩
theorem ey_q_out {a y : Nat} (hp : p < 220) (hph : 1 ≤ ph) (hph1 : ph < 1000) (ha : a < 16) (hx : sX p = nI a) (hy : lsz a = nI y) (hyp : y ≤ ph - 1) (h : wY_quantify_146 K (nI p) ob tks pl nds (1) res ((-1)) (nI g) (nI (p + 1)) (nI l) ret out (cls) prp (lit) (lsz) (fb) (tk) (tv) opd (rk) rn op nm ay prt ylo yhi sN sP sX sK it vr) : wY_quantify_113 K (nI p) (nI k) (nI ph) 0 ob tks pl nds (1) res ((-1)) (nI g) (nI (p + 1)) (nI l) ret out (cls) prp (lit) (lsz) (fb) (tk) (tv) opd (rk) rn op nm ay prt ylo yhi sN sP sX sK it vr := by
  obtain ⟨e, rfl⟩ : ∃ e, ph = e + 1 := ⟨ph - 1, by omega⟩
  have cx : sX (nI p).toNatClampNeg = nI a := by rw [nI_clamp (by omega)]; exact hx
  exact br_t rfl ⟨vp_in_nI hp (by decide), br_f (by rw [cx]; exact nI_pos (by omega)) ⟨vp_in_nI hp (by decide), by rw [cx]; exact vp_in_nI ha (by decide), br_f (by rw [cx, nI_clamp (by omega), hy, nI_pred]; exact nI_nlt (by omega) (by omega)) h⟩⟩
theorem ey_q_stop {a y : Nat} (hp : p < 220) (hl : l < 5) (hk : k < 280) (hph : 1 ≤ ph) (hph1 : ph < 1000) (ha : a < 16) (hx : sX p = nI a) (hy : lsz a = nI y) (hy4 : y ≤ 4) (hyp : ph - 1 < y) (hg : g = 40) (h : K (ob, tks, pl, nds, 6, res, if l = 0 then ay k else out, nI g, nI (p + 1), nI l, ret, out, cls, prp, lit, lsz, fb, tk, tv, opd, rk, rn, op, nm, ay, prt, ylo, yhi, sN, sP, sX, sK, it, vr)) : wY_quantify_113 K (nI p) (nI k) (nI ph) 0 ob tks pl nds (1) res ((-1)) (nI g) (nI (p + 1)) (nI l) ret out (cls) prp (lit) (lsz) (fb) (tk) (tv) opd (rk) rn op nm ay prt ylo yhi sN sP sX sK it vr := by
  obtain ⟨e, rfl⟩ : ∃ e, ph = e + 1 := ⟨ph - 1, by omega⟩
  have cx : sX (nI p).toNatClampNeg = nI a := by rw [nI_clamp (by omega)]; exact hx
  refine br_t rfl ⟨vp_in_nI hp (by decide), br_f (by rw [cx]; exact nI_pos (by omega)) ⟨vp_in_nI hp (by decide), by rw [cx]; exact vp_in_nI ha (by decide), br_t (by rw [cx, nI_clamp (by omega), hy, nI_pred]; exact nI_lt (by omega) (by omega)) (ey_unit0 hl hk hg ?_)⟩⟩
  exact br_t rfl h
theorem ey_q_go {a y v : Nat} (hp : p + 1 < 220) (hl : l < 5) (hk : k < 280) (hph : 1 ≤ ph) (hph1 : ph < 1000) (ha : a < 16) (hx : sX p = nI a) (hy : lsz a = nI y) (hy4 : y ≤ 4) (hyp : ph - 1 < y) (hg : g < 40) (hv : v < 3) (en : nm k = nI v) (h : K (ob, tks, pl, nds, 1, res, (-1), nI (g + 1), nI (p + 2), nI l, ret, out, cls, prp, lit, lsz, fb, tk, tv, opd, rk, rn, op, nm, ay, prt, ylo, yhi, upd sN (p + 1) (prt (k * 3 + 1)), upd sP (p + 1) 0, sX, sK, it, upd vr (l * 3 + v) (lit (a * 4 + (ph - 1))))) : wY_quantify_113 K (nI p) (nI k) (nI ph) 0 ob tks pl nds (1) res ((-1)) (nI g) (nI (p + 1)) (nI l) ret out (cls) prp (lit) (lsz) (fb) (tk) (tv) opd (rk) rn op nm ay prt ylo yhi sN sP sX sK it vr := by
  obtain ⟨e, rfl⟩ : ∃ e, ph = e + 1 := ⟨ph - 1, by omega⟩
  have cx : sX (nI p).toNatClampNeg = nI a := by rw [nI_clamp (by omega)]; exact hx
  refine br_t rfl ⟨vp_in_nI (by omega) (by decide), br_f (by rw [cx]; exact nI_pos (by omega)) ⟨vp_in_nI (by omega) (by decide), by rw [cx]; exact vp_in_nI ha (by decide), br_t (by rw [cx, nI_clamp (by omega), hy, nI_pred]; exact nI_lt (by omega) (by omega)) (ey_unit1 hg ?_)⟩⟩
  refine br_f (by decide) ⟨vp_in_nI hk (by decide), vp_in_nI (by omega) (by decide), ?_⟩
  rw [cx, nI_clamp (n := k) (by omega), en, show nI a * 4 + nI (e + 1) = nI (a * 4 + e + 1) from gr_lin a 4 (e + 1) rfl rfl, nI_pred, show nI l * 3 + nI v = nI (l * 3 + v) from gr_lin l 3 v rfl rfl, nI_clamp (n := l * 3 + v) (by omega), nI_clamp (n := a * 4 + e) (by omega), show nI k * 3 + 1 = nI (k * 3 + 1) from gr_lin k 3 1 rfl rfl, nI_clamp (n := k * 3 + 1) (by omega)]
  exact ⟨vp_in_nI (by omega) (by decide), vp_in_nI (by omega) (by decide), nm_e ⟨vp_in_nI (by omega) (by decide), ey_down (p := p + 1) hp h⟩⟩
/-- decided, as the reference asks -/
def ey_dec (t : Nat) (x : Int32) : Prop := (t = 20 ∧ x = 1) ∨ (t = 21 ∧ x = 0)
theorem ey_qa20 (hp : p < 220) (hk : k < 280) (ho : op k = 20) (h : wY_quantify_113 K (nI p) (nI k) (nI 1) 0 ob tks pl nds (1) res ((-1)) (nI g) (nI (p + 1)) (nI l) ret out (cls) prp (lit) (lsz) (fb) (tk) (tv) opd (rk) rn op nm ay prt ylo yhi sN sP (upd sX p ret) (upd sK p 0) it vr) : wpY_quantify K (ob, tks, pl, nds, 1, res, (-1), nI g, nI (p + 1), nI l, ret, out, cls, prp, lit, lsz, fb, tk, tv, opd, rk, rn, op, nm, ay, prt, ylo, yhi, sN, sP, sX, sK, it, vr) (nI p) (nI k) (nI 1) := by
  have cp : (nI p).toNatClampNeg = p := nI_clamp (by omega)
  have ip : vp_in (nI p) 220 := vp_in_nI hp (by decide)
  exact ⟨vp_in_nI hk (by decide), nm_r (e' := 20) (by rw [nI_clamp (by omega)]; exact ho) (br_t rfl ⟨ip, nm_r (by rw [cp]) (br_f (by decide) ⟨ip, nm_r (by rw [cp]) (br_t (by decide) h)⟩)⟩)⟩
theorem ey_qb20 (hp : p < 220) (hk : k < 280) (hph : 2 ≤ ph) (hph1 : ph < 1000) (ho : op k = 20) (h1 : ey_dec 20 ret → wY_quantify_113 K (nI p) (nI k) (nI ph) 1 ob tks pl nds (1) res ((-1)) (nI g) (nI (p + 1)) (nI l) ret out (cls) prp (lit) (lsz) (fb) (tk) (tv) opd (rk) rn op nm ay prt ylo yhi sN sP sX (upd sK p (ret)) it vr) (h0 : ¬ ey_dec 20 ret → wY_quantify_113 K (nI p) (nI k) (nI ph) 0 ob tks pl nds (1) res ((-1)) (nI g) (nI (p + 1)) (nI l) ret out (cls) prp (lit) (lsz) (fb) (tk) (tv) opd (rk) rn op nm ay prt ylo yhi sN sP sX (upd sK p (ret)) it vr) : wpY_quantify K (ob, tks, pl, nds, 1, res, (-1), nI g, nI (p + 1), nI l, ret, out, cls, prp, lit, lsz, fb, tk, tv, opd, rk, rn, op, nm, ay, prt, ylo, yhi, sN, sP, sX, sK, it, vr) (nI p) (nI k) (nI ph) := by
  have cp : (nI p).toNatClampNeg = p := nI_clamp (by omega)
  have ip : vp_in (nI p) 220 := vp_in_nI hp (by decide)
  refine ⟨vp_in_nI hk (by decide), nm_r (e' := 20) (by rw [nI_clamp (by omega)]; exact ho) (br_f (fun z => absurd ((nI_eq (b := 1) (by omega) (by decide)).1 z) (by omega)) ?_)⟩
  refine br_f (by decide) ⟨ip, nm_r (by rw [cp]) (br_f (nI_ge (a := 1) (by omega) (by omega)) (br_f (by decide) (br_t rfl ?_)))⟩
  by_cases z : ret = 1
  · exact br_t z (h1 (Or.inl ⟨rfl, z⟩))
  · refine br_f z (h0 (fun y => ?_))
    rcases y with y | y
    · exact z y.2
    · exact absurd y.1 (by decide)
theorem ey_qa21 (hp : p < 220) (hk : k < 280) (ho : op k = 21) (h : wY_quantify_113 K (nI p) (nI k) (nI 1) 0 ob tks pl nds (1) res ((-1)) (nI g) (nI (p + 1)) (nI l) ret out (cls) prp (lit) (lsz) (fb) (tk) (tv) opd (rk) rn op nm ay prt ylo yhi sN sP (upd sX p ret) (upd sK p 1) it vr) : wpY_quantify K (ob, tks, pl, nds, 1, res, (-1), nI g, nI (p + 1), nI l, ret, out, cls, prp, lit, lsz, fb, tk, tv, opd, rk, rn, op, nm, ay, prt, ylo, yhi, sN, sP, sX, sK, it, vr) (nI p) (nI k) (nI 1) := by
  have cp : (nI p).toNatClampNeg = p := nI_clamp (by omega)
  have ip : vp_in (nI p) 220 := vp_in_nI hp (by decide)
  exact ⟨vp_in_nI hk (by decide), nm_r (e' := 21) (by rw [nI_clamp (by omega)]; exact ho) (br_t rfl ⟨ip, nm_r (by rw [cp]) (br_t rfl ⟨ip, nm_r (by rw [cp]) (br_t (by decide) h)⟩)⟩)⟩
theorem ey_qb21 (hp : p < 220) (hk : k < 280) (hph : 2 ≤ ph) (hph1 : ph < 1000) (ho : op k = 21) (h1 : ey_dec 21 ret → wY_quantify_113 K (nI p) (nI k) (nI ph) 1 ob tks pl nds (1) res ((-1)) (nI g) (nI (p + 1)) (nI l) ret out (cls) prp (lit) (lsz) (fb) (tk) (tv) opd (rk) rn op nm ay prt ylo yhi sN sP sX (upd sK p (ret)) it vr) (h0 : ¬ ey_dec 21 ret → wY_quantify_113 K (nI p) (nI k) (nI ph) 0 ob tks pl nds (1) res ((-1)) (nI g) (nI (p + 1)) (nI l) ret out (cls) prp (lit) (lsz) (fb) (tk) (tv) opd (rk) rn op nm ay prt ylo yhi sN sP sX (upd sK p (ret)) it vr) : wpY_quantify K (ob, tks, pl, nds, 1, res, (-1), nI g, nI (p + 1), nI l, ret, out, cls, prp, lit, lsz, fb, tk, tv, opd, rk, rn, op, nm, ay, prt, ylo, yhi, sN, sP, sX, sK, it, vr) (nI p) (nI k) (nI ph) := by
  have cp : (nI p).toNatClampNeg = p := nI_clamp (by omega)
  have ip : vp_in (nI p) 220 := vp_in_nI hp (by decide)
  refine ⟨vp_in_nI hk (by decide), nm_r (e' := 21) (by rw [nI_clamp (by omega)]; exact ho) (br_f (fun z => absurd ((nI_eq (b := 1) (by omega) (by decide)).1 z) (by omega)) ?_)⟩
  refine br_f (by decide) ⟨ip, nm_r (by rw [cp]) (br_f (nI_ge (a := 1) (by omega) (by omega)) (br_f (by decide) (br_f (by decide) ?_)))⟩
  by_cases z : ret = 0
  · exact br_t z (h1 (Or.inr ⟨rfl, z⟩))
  · refine br_f z (h0 (fun y => ?_))
    rcases y with y | y
    · exact absurd y.1 (by decide)
    · exact z y.2
theorem ey_qa22 (hp : p < 220) (hk : k < 280) (ho : op k = 22) (h : wY_quantify_113 K (nI p) (nI k) (nI 1) 0 ob tks pl nds (1) res ((-1)) (nI g) (nI (p + 1)) (nI l) ret out (cls) prp (lit) (lsz) (fb) (tk) (tv) opd (rk) rn op nm ay prt ylo yhi sN sP (upd sX p ret) (upd sK p 0) it vr) : wpY_quantify K (ob, tks, pl, nds, 1, res, (-1), nI g, nI (p + 1), nI l, ret, out, cls, prp, lit, lsz, fb, tk, tv, opd, rk, rn, op, nm, ay, prt, ylo, yhi, sN, sP, sX, sK, it, vr) (nI p) (nI k) (nI 1) := by
  have cp : (nI p).toNatClampNeg = p := nI_clamp (by omega)
  have ip : vp_in (nI p) 220 := vp_in_nI hp (by decide)
  exact ⟨vp_in_nI hk (by decide), nm_r (e' := 22) (by rw [nI_clamp (by omega)]; exact ho) (br_t rfl ⟨ip, nm_r (by rw [cp]) (br_f (by decide) ⟨ip, nm_r (by rw [cp]) (br_t (by decide) h)⟩)⟩)⟩
theorem ey_qb22 (hp : p < 220) (hk : k < 280) (hph : 2 ≤ ph) (hph1 : ph < 1000) (ho : op k = 22) (h1 : ey_dec 22 ret → wY_quantify_113 K (nI p) (nI k) (nI ph) 1 ob tks pl nds (1) res ((-1)) (nI g) (nI (p + 1)) (nI l) ret out (cls) prp (lit) (lsz) (fb) (tk) (tv) opd (rk) rn op nm ay prt ylo yhi sN sP sX (upd sK p (sK p + ret)) it vr) (h0 : ¬ ey_dec 22 ret → wY_quantify_113 K (nI p) (nI k) (nI ph) 0 ob tks pl nds (1) res ((-1)) (nI g) (nI (p + 1)) (nI l) ret out (cls) prp (lit) (lsz) (fb) (tk) (tv) opd (rk) rn op nm ay prt ylo yhi sN sP sX (upd sK p (sK p + ret)) it vr) : wpY_quantify K (ob, tks, pl, nds, 1, res, (-1), nI g, nI (p + 1), nI l, ret, out, cls, prp, lit, lsz, fb, tk, tv, opd, rk, rn, op, nm, ay, prt, ylo, yhi, sN, sP, sX, sK, it, vr) (nI p) (nI k) (nI ph) := by
  have cp : (nI p).toNatClampNeg = p := nI_clamp (by omega)
  have ip : vp_in (nI p) 220 := vp_in_nI hp (by decide)
  refine ⟨vp_in_nI hk (by decide), nm_r (e' := 22) (by rw [nI_clamp (by omega)]; exact ho) (br_f (fun z => absurd ((nI_eq (b := 1) (by omega) (by decide)).1 z) (by omega)) ?_)⟩
  exact br_t rfl ⟨ip, ip, nm_r (by rw [cp]) (br_f (nI_ge (a := 1) (by omega) (by omega)) (br_t rfl (h0 (fun z => by rcases z with z | z <;> exact absurd z.1 (by decide)))))⟩
end
section
variable {Z : (Int32 → SY → Prop) → Prop} {ob tks pl nds res ret out : Int32} {cls prp lit lsz fb tk tv opd rk rn op nm ay prt ylo yhi sN sP sX sK it vr : Nat → Int32} {s p l g k ph : Nat}
theorem yr_qa_end20 (ha : ey_at sN sP s p l k ph) (ho : op k = 20) (hphe : ph = 1) (hr : ret = -1 ∨ ∃ a, a < 16 ∧ ret = nI a ∧ lsz a = 0) (h : ey_F Z ob tks pl nds res cls prp lit lsz fb tk tv opd rk rn op nm ay prt ylo yhi s (p + 1) l g ret out sN sP sX sK it vr) : ey_F Z ob tks pl nds res cls prp lit lsz fb tk tv opd rk rn op nm ay prt ylo yhi (s + 1) p l g 0 out sN (upd sP p (nI (ph + 1))) (upd sX p ret) (upd sK p 0) it vr := by
  obtain ⟨hs, hp, hl, hk, eN, eP, hph1⟩ := id ha
  have cp : (nI p).toNatClampNeg = p := nI_clamp (by omega)
  have ck : (nI k).toNatClampNeg = k := nI_clamp (by omega)
  have ip : vp_in (nI p) 220 := vp_in_nI hp (by decide)
  have ik : vp_in (nI k) 280 := vp_in_nI hk (by decide)
  have hph : ¬ nI ph = 0 := by subst hphe; decide
  refine ey_go ha (fun K kk => ⟨ip, nm_r (e' := nI k) (by rw [cp]; exact eN) ⟨ik, nm_r (e' := 20) (by rw [ck]; exact ho) ⟨ip, nm_r (e' := nI ph) (by rw [cp]; exact eP) ⟨ip, ip, nm_r (e' := upd sP p (nI (ph + 1))) (by rw [cp, eP, nI_1]) (br_f (by decide) (br_f (by decide) (br_f (by decide) (br_f (by decide) (br_f hph (br_f (by decide) (br_f (by decide) (br_f (by decide) (br_f (by decide) (br_f (by decide) (br_f (by decide) (?_))))))))))))⟩⟩⟩⟩) h
  subst hphe
  refine ey_qa20 hp hk ho ?_
  have kk' := ey_q146 (K := K) (ret := ret) (sX := upd sX p ret) (sK := upd sK p 0) hp (by rw [pk_us]; exact kk)
  rcases hr with hr | ⟨a, ha16, hr, hz⟩
  · exact ey_q_neg hp (pk_us.trans hr) kk'
  · exact ey_q_out (y := 0) hp (by omega) (by omega) ha16 (pk_us.trans hr) hz (by omega) kk'
theorem yr_qa_stop20 (ha : ey_at sN sP s p l k ph) (ho : op k = 20) (hphe : ph = 1) {a y : Nat} (ha16 : a < 16) (hr : ret = nI a) (hy : lsz a = nI y) (hy4 : y ≤ 4) (hy0 : 0 < y) (hg : g = 40) (h : ey_F Z ob tks pl nds res cls prp lit lsz fb tk tv opd rk rn op nm ay prt ylo yhi s (p + 1) l g ret out sN sP sX sK it vr) : ey_E Z ob tks pl nds res cls prp lit lsz fb tk tv opd rk rn op nm ay prt ylo yhi 6 (if l = 0 then ay k else out) g := by
  obtain ⟨hs, hp, hl, hk, eN, eP, hph1⟩ := id ha
  have cp : (nI p).toNatClampNeg = p := nI_clamp (by omega)
  have ck : (nI k).toNatClampNeg = k := nI_clamp (by omega)
  have ip : vp_in (nI p) 220 := vp_in_nI hp (by decide)
  have ik : vp_in (nI k) 280 := vp_in_nI hk (by decide)
  have hph : ¬ nI ph = 0 := by subst hphe; decide
  refine ey_ef (x := 6) (p' := p + 1) (ret' := ret) (out' := out) (sN' := sN) (sP' := upd sP p (nI (ph + 1))) (sX' := upd sX p ret) (sK' := upd sK p 0) (it' := it) (vr' := vr) ha (by decide) (fun K kk => ⟨ip, nm_r (e' := nI k) (by rw [cp]; exact eN) ⟨ik, nm_r (e' := 20) (by rw [ck]; exact ho) ⟨ip, nm_r (e' := nI ph) (by rw [cp]; exact eP) ⟨ip, ip, nm_r (e' := upd sP p (nI (ph + 1))) (by rw [cp, eP, nI_1]) (br_f (by decide) (br_f (by decide) (br_f (by decide) (br_f (by decide) (br_f hph (br_f (by decide) (br_f (by decide) (br_f (by decide) (br_f (by decide) (br_f (by decide) (br_f (by decide) (?_))))))))))))⟩⟩⟩⟩) h
  subst hphe
  exact ey_qa20 hp hk ho (ey_q_stop hp hl hk (by omega) (by omega) ha16 (pk_us.trans hr) hy hy4 (by omega) hg kk)
theorem yr_qa_go20 (ha : ey_at sN sP s p l k ph) (ho : op k = 20) (hphe : ph = 1) {a y : Nat} (ha16 : a < 16) (hr : ret = nI a) (hy : lsz a = nI y) (hy4 : y ≤ 4) (hy0 : 0 < y) (hg : g < 40) {v : Nat} (hv : v < 3) (en : nm k = nI v) (hp1 : p + 1 < 220) (h : ey_F Z ob tks pl nds res cls prp lit lsz fb tk tv opd rk rn op nm ay prt ylo yhi s (p + 1) l g ret out sN sP sX sK it vr) : ey_F Z ob tks pl nds res cls prp lit lsz fb tk tv opd rk rn op nm ay prt ylo yhi (s + 1) (p + 2) l (g + 1) ret out (upd sN (p + 1) (prt (k * 3 + 1))) (upd (upd sP p (nI (ph + 1))) (p + 1) 0) (upd sX p ret) (upd sK p 0) it (upd vr (l * 3 + v) (lit (a * 4))) := by
  obtain ⟨hs, hp, hl, hk, eN, eP, hph1⟩ := id ha
  have cp : (nI p).toNatClampNeg = p := nI_clamp (by omega)
  have ck : (nI k).toNatClampNeg = k := nI_clamp (by omega)
  have ip : vp_in (nI p) 220 := vp_in_nI hp (by decide)
  have ik : vp_in (nI k) 280 := vp_in_nI hk (by decide)
  have hph : ¬ nI ph = 0 := by subst hphe; decide
  refine ey_go ha (fun K kk => ⟨ip, nm_r (e' := nI k) (by rw [cp]; exact eN) ⟨ik, nm_r (e' := 20) (by rw [ck]; exact ho) ⟨ip, nm_r (e' := nI ph) (by rw [cp]; exact eP) ⟨ip, ip, nm_r (e' := upd sP p (nI (ph + 1))) (by rw [cp, eP, nI_1]) (br_f (by decide) (br_f (by decide) (br_f (by decide) (br_f (by decide) (br_f hph (br_f (by decide) (br_f (by decide) (br_f (by decide) (br_f (by decide) (br_f (by decide) (br_f (by decide) (?_))))))))))))⟩⟩⟩⟩) h
  subst hphe
  exact ey_qa20 hp hk ho (ey_q_go (ph := 1) hp1 hl hk (by omega) (by omega) ha16 (pk_us.trans hr) hy hy4 (by omega) hg hv en kk)
theorem yr_qb_end20 (ha : ey_at sN sP s p l k ph) (ho : op k = 20) (hph2 : 2 ≤ ph) (hr : ey_dec 20 ret ∨ ∃ a y, a < 16 ∧ sX p = nI a ∧ lsz a = nI y ∧ y ≤ ph - 1) (h : ey_F Z ob tks pl nds res cls prp lit lsz fb tk tv opd rk rn op nm ay prt ylo yhi s (p + 1) l g ret out sN sP sX sK it vr) : ey_F Z ob tks pl nds res cls prp lit lsz fb tk tv opd rk rn op nm ay prt ylo yhi (s + 1) p l g ret out sN (upd sP p (nI (ph + 1))) sX (upd sK p (ret)) it vr := by
  obtain ⟨hs, hp, hl, hk, eN, eP, hph1⟩ := id ha
  have hph : ¬ nI ph = 0 := nI_ne0 (by omega) (by omega)
  have cp : (nI p).toNatClampNeg = p := nI_clamp (by omega)
  have ck : (nI k).toNatClampNeg = k := nI_clamp (by omega)
  have ip : vp_in (nI p) 220 := vp_in_nI hp (by decide)
  have ik : vp_in (nI k) 280 := vp_in_nI hk (by decide)
  refine ey_go ha (fun K kk => ⟨ip, nm_r (e' := nI k) (by rw [cp]; exact eN) ⟨ik, nm_r (e' := 20) (by rw [ck]; exact ho) ⟨ip, nm_r (e' := nI ph) (by rw [cp]; exact eP) ⟨ip, ip, nm_r (e' := upd sP p (nI (ph + 1))) (by rw [cp, eP, nI_1]) (br_f (by decide) (br_f (by decide) (br_f (by decide) (br_f (by decide) (br_f hph (br_f (by decide) (br_f (by decide) (br_f (by decide) (br_f (by decide) (br_f (by decide) (br_f (by decide) (?_))))))))))))⟩⟩⟩⟩) h
  have kk' := ey_q146 (K := K) (ret := ret) (sK := upd sK p (ret)) hp (by rw [pk_us]; exact kk)
  refine ey_qb20 hp hk hph2 hph1 ho (fun _ => br_f (by decide) kk') (fun nd => ?_)
  obtain ⟨a, y, ha16, hx, hy, hyp⟩ := hr.resolve_left nd
  exact ey_q_out hp (by omega) hph1 ha16 hx hy hyp kk'
theorem yr_qb_stop20 (ha : ey_at sN sP s p l k ph) (ho : op k = 20) (hph2 : 2 ≤ ph) (hnd : ¬ ey_dec 20 ret) {a y : Nat} (ha16 : a < 16) (hx : sX p = nI a) (hy : lsz a = nI y) (hy4 : y ≤ 4) (hyp : ph - 1 < y) (hg : g = 40) (h : ey_F Z ob tks pl nds res cls prp lit lsz fb tk tv opd rk rn op nm ay prt ylo yhi s (p + 1) l g ret out sN sP sX sK it vr) : ey_E Z ob tks pl nds res cls prp lit lsz fb tk tv opd rk rn op nm ay prt ylo yhi 6 (if l = 0 then ay k else out) g := by
  obtain ⟨hs, hp, hl, hk, eN, eP, hph1⟩ := id ha
  have hph : ¬ nI ph = 0 := nI_ne0 (by omega) (by omega)
  have cp : (nI p).toNatClampNeg = p := nI_clamp (by omega)
  have ck : (nI k).toNatClampNeg = k := nI_clamp (by omega)
  have ip : vp_in (nI p) 220 := vp_in_nI hp (by decide)
  have ik : vp_in (nI k) 280 := vp_in_nI hk (by decide)
  refine ey_ef (x := 6) (p' := p + 1) (ret' := ret) (out' := out) (sN' := sN) (sP' := upd sP p (nI (ph + 1))) (sX' := sX) (sK' := upd sK p (ret)) (it' := it) (vr' := vr) ha (by decide) (fun K kk => ⟨ip, nm_r (e' := nI k) (by rw [cp]; exact eN) ⟨ik, nm_r (e' := 20) (by rw [ck]; exact ho) ⟨ip, nm_r (e' := nI ph) (by rw [cp]; exact eP) ⟨ip, ip, nm_r (e' := upd sP p (nI (ph + 1))) (by rw [cp, eP, nI_1]) (br_f (by decide) (br_f (by decide) (br_f (by decide) (br_f (by decide) (br_f hph (br_f (by decide) (br_f (by decide) (br_f (by decide) (br_f (by decide) (br_f (by decide) (br_f (by decide) (?_))))))))))))⟩⟩⟩⟩) h
  exact ey_qb20 hp hk hph2 hph1 ho (fun z => absurd z hnd) (fun _ => ey_q_stop hp hl hk (by omega) hph1 ha16 hx hy hy4 hyp hg kk)
theorem yr_qb_go20 (ha : ey_at sN sP s p l k ph) (ho : op k = 20) (hph2 : 2 ≤ ph) (hnd : ¬ ey_dec 20 ret) {a y : Nat} (ha16 : a < 16) (hx : sX p = nI a) (hy : lsz a = nI y) (hy4 : y ≤ 4) (hyp : ph - 1 < y) (hg : g < 40) {v : Nat} (hv : v < 3) (en : nm k = nI v) (hp1 : p + 1 < 220) (h : ey_F Z ob tks pl nds res cls prp lit lsz fb tk tv opd rk rn op nm ay prt ylo yhi s (p + 1) l g ret out sN sP sX sK it vr) : ey_F Z ob tks pl nds res cls prp lit lsz fb tk tv opd rk rn op nm ay prt ylo yhi (s + 1) (p + 2) l (g + 1) ret out (upd sN (p + 1) (prt (k * 3 + 1))) (upd (upd sP p (nI (ph + 1))) (p + 1) 0) sX (upd sK p (ret)) it (upd vr (l * 3 + v) (lit (a * 4 + (ph - 1)))) := by
  obtain ⟨hs, hp, hl, hk, eN, eP, hph1⟩ := id ha
  have hph : ¬ nI ph = 0 := nI_ne0 (by omega) (by omega)
  have cp : (nI p).toNatClampNeg = p := nI_clamp (by omega)
  have ck : (nI k).toNatClampNeg = k := nI_clamp (by omega)
  have ip : vp_in (nI p) 220 := vp_in_nI hp (by decide)
  have ik : vp_in (nI k) 280 := vp_in_nI hk (by decide)
  refine ey_go ha (fun K kk => ⟨ip, nm_r (e' := nI k) (by rw [cp]; exact eN) ⟨ik, nm_r (e' := 20) (by rw [ck]; exact ho) ⟨ip, nm_r (e' := nI ph) (by rw [cp]; exact eP) ⟨ip, ip, nm_r (e' := upd sP p (nI (ph + 1))) (by rw [cp, eP, nI_1]) (br_f (by decide) (br_f (by decide) (br_f (by decide) (br_f (by decide) (br_f hph (br_f (by decide) (br_f (by decide) (br_f (by decide) (br_f (by decide) (br_f (by decide) (br_f (by decide) (?_))))))))))))⟩⟩⟩⟩) h
  exact ey_qb20 hp hk hph2 hph1 ho (fun z => absurd z hnd) (fun _ => ey_q_go hp1 hl hk (by omega) hph1 ha16 hx hy hy4 hyp hg hv en kk)
theorem yr_qa_end21 (ha : ey_at sN sP s p l k ph) (ho : op k = 21) (hphe : ph = 1) (hr : ret = -1 ∨ ∃ a, a < 16 ∧ ret = nI a ∧ lsz a = 0) (h : ey_F Z ob tks pl nds res cls prp lit lsz fb tk tv opd rk rn op nm ay prt ylo yhi s (p + 1) l g ret out sN sP sX sK it vr) : ey_F Z ob tks pl nds res cls prp lit lsz fb tk tv opd rk rn op nm ay prt ylo yhi (s + 1) p l g 1 out sN (upd sP p (nI (ph + 1))) (upd sX p ret) (upd sK p 1) it vr := by
  obtain ⟨hs, hp, hl, hk, eN, eP, hph1⟩ := id ha
  have cp : (nI p).toNatClampNeg = p := nI_clamp (by omega)
  have ck : (nI k).toNatClampNeg = k := nI_clamp (by omega)
  have ip : vp_in (nI p) 220 := vp_in_nI hp (by decide)
  have ik : vp_in (nI k) 280 := vp_in_nI hk (by decide)
  have hph : ¬ nI ph = 0 := by subst hphe; decide
  refine ey_go ha (fun K kk => ⟨ip, nm_r (e' := nI k) (by rw [cp]; exact eN) ⟨ik, nm_r (e' := 21) (by rw [ck]; exact ho) ⟨ip, nm_r (e' := nI ph) (by rw [cp]; exact eP) ⟨ip, ip, nm_r (e' := upd sP p (nI (ph + 1))) (by rw [cp, eP, nI_1]) (br_f (by decide) (br_f (by decide) (br_f (by decide) (br_f (by decide) (br_f hph (br_f (by decide) (br_f (by decide) (br_f (by decide) (br_f (by decide) (br_f (by decide) (br_f (by decide) (?_))))))))))))⟩⟩⟩⟩) h
  subst hphe
  refine ey_qa21 hp hk ho ?_
  have kk' := ey_q146 (K := K) (ret := ret) (sX := upd sX p ret) (sK := upd sK p 1) hp (by rw [pk_us]; exact kk)
  rcases hr with hr | ⟨a, ha16, hr, hz⟩
  · exact ey_q_neg hp (pk_us.trans hr) kk'
  · exact ey_q_out (y := 0) hp (by omega) (by omega) ha16 (pk_us.trans hr) hz (by omega) kk'
theorem yr_qa_stop21 (ha : ey_at sN sP s p l k ph) (ho : op k = 21) (hphe : ph = 1) {a y : Nat} (ha16 : a < 16) (hr : ret = nI a) (hy : lsz a = nI y) (hy4 : y ≤ 4) (hy0 : 0 < y) (hg : g = 40) (h : ey_F Z ob tks pl nds res cls prp lit lsz fb tk tv opd rk rn op nm ay prt ylo yhi s (p + 1) l g ret out sN sP sX sK it vr) : ey_E Z ob tks pl nds res cls prp lit lsz fb tk tv opd rk rn op nm ay prt ylo yhi 6 (if l = 0 then ay k else out) g := by
  obtain ⟨hs, hp, hl, hk, eN, eP, hph1⟩ := id ha
  have cp : (nI p).toNatClampNeg = p := nI_clamp (by omega)
  have ck : (nI k).toNatClampNeg = k := nI_clamp (by omega)
  have ip : vp_in (nI p) 220 := vp_in_nI hp (by decide)
  have ik : vp_in (nI k) 280 := vp_in_nI hk (by decide)
  have hph : ¬ nI ph = 0 := by subst hphe; decide
  refine ey_ef (x := 6) (p' := p + 1) (ret' := ret) (out' := out) (sN' := sN) (sP' := upd sP p (nI (ph + 1))) (sX' := upd sX p ret) (sK' := upd sK p 1) (it' := it) (vr' := vr) ha (by decide) (fun K kk => ⟨ip, nm_r (e' := nI k) (by rw [cp]; exact eN) ⟨ik, nm_r (e' := 21) (by rw [ck]; exact ho) ⟨ip, nm_r (e' := nI ph) (by rw [cp]; exact eP) ⟨ip, ip, nm_r (e' := upd sP p (nI (ph + 1))) (by rw [cp, eP, nI_1]) (br_f (by decide) (br_f (by decide) (br_f (by decide) (br_f (by decide) (br_f hph (br_f (by decide) (br_f (by decide) (br_f (by decide) (br_f (by decide) (br_f (by decide) (br_f (by decide) (?_))))))))))))⟩⟩⟩⟩) h
  subst hphe
  exact ey_qa21 hp hk ho (ey_q_stop hp hl hk (by omega) (by omega) ha16 (pk_us.trans hr) hy hy4 (by omega) hg kk)
theorem yr_qa_go21 (ha : ey_at sN sP s p l k ph) (ho : op k = 21) (hphe : ph = 1) {a y : Nat} (ha16 : a < 16) (hr : ret = nI a) (hy : lsz a = nI y) (hy4 : y ≤ 4) (hy0 : 0 < y) (hg : g < 40) {v : Nat} (hv : v < 3) (en : nm k = nI v) (hp1 : p + 1 < 220) (h : ey_F Z ob tks pl nds res cls prp lit lsz fb tk tv opd rk rn op nm ay prt ylo yhi s (p + 1) l g ret out sN sP sX sK it vr) : ey_F Z ob tks pl nds res cls prp lit lsz fb tk tv opd rk rn op nm ay prt ylo yhi (s + 1) (p + 2) l (g + 1) ret out (upd sN (p + 1) (prt (k * 3 + 1))) (upd (upd sP p (nI (ph + 1))) (p + 1) 0) (upd sX p ret) (upd sK p 1) it (upd vr (l * 3 + v) (lit (a * 4))) := by
  obtain ⟨hs, hp, hl, hk, eN, eP, hph1⟩ := id ha
  have cp : (nI p).toNatClampNeg = p := nI_clamp (by omega)
  have ck : (nI k).toNatClampNeg = k := nI_clamp (by omega)
  have ip : vp_in (nI p) 220 := vp_in_nI hp (by decide)
  have ik : vp_in (nI k) 280 := vp_in_nI hk (by decide)
  have hph : ¬ nI ph = 0 := by subst hphe; decide
  refine ey_go ha (fun K kk => ⟨ip, nm_r (e' := nI k) (by rw [cp]; exact eN) ⟨ik, nm_r (e' := 21) (by rw [ck]; exact ho) ⟨ip, nm_r (e' := nI ph) (by rw [cp]; exact eP) ⟨ip, ip, nm_r (e' := upd sP p (nI (ph + 1))) (by rw [cp, eP, nI_1]) (br_f (by decide) (br_f (by decide) (br_f (by decide) (br_f (by decide) (br_f hph (br_f (by decide) (br_f (by decide) (br_f (by decide) (br_f (by decide) (br_f (by decide) (br_f (by decide) (?_))))))))))))⟩⟩⟩⟩) h
  subst hphe
  exact ey_qa21 hp hk ho (ey_q_go (ph := 1) hp1 hl hk (by omega) (by omega) ha16 (pk_us.trans hr) hy hy4 (by omega) hg hv en kk)
theorem yr_qb_end21 (ha : ey_at sN sP s p l k ph) (ho : op k = 21) (hph2 : 2 ≤ ph) (hr : ey_dec 21 ret ∨ ∃ a y, a < 16 ∧ sX p = nI a ∧ lsz a = nI y ∧ y ≤ ph - 1) (h : ey_F Z ob tks pl nds res cls prp lit lsz fb tk tv opd rk rn op nm ay prt ylo yhi s (p + 1) l g ret out sN sP sX sK it vr) : ey_F Z ob tks pl nds res cls prp lit lsz fb tk tv opd rk rn op nm ay prt ylo yhi (s + 1) p l g ret out sN (upd sP p (nI (ph + 1))) sX (upd sK p (ret)) it vr := by
  obtain ⟨hs, hp, hl, hk, eN, eP, hph1⟩ := id ha
  have hph : ¬ nI ph = 0 := nI_ne0 (by omega) (by omega)
  have cp : (nI p).toNatClampNeg = p := nI_clamp (by omega)
  have ck : (nI k).toNatClampNeg = k := nI_clamp (by omega)
  have ip : vp_in (nI p) 220 := vp_in_nI hp (by decide)
  have ik : vp_in (nI k) 280 := vp_in_nI hk (by decide)
  refine ey_go ha (fun K kk => ⟨ip, nm_r (e' := nI k) (by rw [cp]; exact eN) ⟨ik, nm_r (e' := 21) (by rw [ck]; exact ho) ⟨ip, nm_r (e' := nI ph) (by rw [cp]; exact eP) ⟨ip, ip, nm_r (e' := upd sP p (nI (ph + 1))) (by rw [cp, eP, nI_1]) (br_f (by decide) (br_f (by decide) (br_f (by decide) (br_f (by decide) (br_f hph (br_f (by decide) (br_f (by decide) (br_f (by decide) (br_f (by decide) (br_f (by decide) (br_f (by decide) (?_))))))))))))⟩⟩⟩⟩) h
  have kk' := ey_q146 (K := K) (ret := ret) (sK := upd sK p (ret)) hp (by rw [pk_us]; exact kk)
  refine ey_qb21 hp hk hph2 hph1 ho (fun _ => br_f (by decide) kk') (fun nd => ?_)
  obtain ⟨a, y, ha16, hx, hy, hyp⟩ := hr.resolve_left nd
  exact ey_q_out hp (by omega) hph1 ha16 hx hy hyp kk'
theorem yr_qb_stop21 (ha : ey_at sN sP s p l k ph) (ho : op k = 21) (hph2 : 2 ≤ ph) (hnd : ¬ ey_dec 21 ret) {a y : Nat} (ha16 : a < 16) (hx : sX p = nI a) (hy : lsz a = nI y) (hy4 : y ≤ 4) (hyp : ph - 1 < y) (hg : g = 40) (h : ey_F Z ob tks pl nds res cls prp lit lsz fb tk tv opd rk rn op nm ay prt ylo yhi s (p + 1) l g ret out sN sP sX sK it vr) : ey_E Z ob tks pl nds res cls prp lit lsz fb tk tv opd rk rn op nm ay prt ylo yhi 6 (if l = 0 then ay k else out) g := by
  obtain ⟨hs, hp, hl, hk, eN, eP, hph1⟩ := id ha
  have hph : ¬ nI ph = 0 := nI_ne0 (by omega) (by omega)
  have cp : (nI p).toNatClampNeg = p := nI_clamp (by omega)
  have ck : (nI k).toNatClampNeg = k := nI_clamp (by omega)
  have ip : vp_in (nI p) 220 := vp_in_nI hp (by decide)
  have ik : vp_in (nI k) 280 := vp_in_nI hk (by decide)
  refine ey_ef (x := 6) (p' := p + 1) (ret' := ret) (out' := out) (sN' := sN) (sP' := upd sP p (nI (ph + 1))) (sX' := sX) (sK' := upd sK p (ret)) (it' := it) (vr' := vr) ha (by decide) (fun K kk => ⟨ip, nm_r (e' := nI k) (by rw [cp]; exact eN) ⟨ik, nm_r (e' := 21) (by rw [ck]; exact ho) ⟨ip, nm_r (e' := nI ph) (by rw [cp]; exact eP) ⟨ip, ip, nm_r (e' := upd sP p (nI (ph + 1))) (by rw [cp, eP, nI_1]) (br_f (by decide) (br_f (by decide) (br_f (by decide) (br_f (by decide) (br_f hph (br_f (by decide) (br_f (by decide) (br_f (by decide) (br_f (by decide) (br_f (by decide) (br_f (by decide) (?_))))))))))))⟩⟩⟩⟩) h
  exact ey_qb21 hp hk hph2 hph1 ho (fun z => absurd z hnd) (fun _ => ey_q_stop hp hl hk (by omega) hph1 ha16 hx hy hy4 hyp hg kk)
theorem yr_qb_go21 (ha : ey_at sN sP s p l k ph) (ho : op k = 21) (hph2 : 2 ≤ ph) (hnd : ¬ ey_dec 21 ret) {a y : Nat} (ha16 : a < 16) (hx : sX p = nI a) (hy : lsz a = nI y) (hy4 : y ≤ 4) (hyp : ph - 1 < y) (hg : g < 40) {v : Nat} (hv : v < 3) (en : nm k = nI v) (hp1 : p + 1 < 220) (h : ey_F Z ob tks pl nds res cls prp lit lsz fb tk tv opd rk rn op nm ay prt ylo yhi s (p + 1) l g ret out sN sP sX sK it vr) : ey_F Z ob tks pl nds res cls prp lit lsz fb tk tv opd rk rn op nm ay prt ylo yhi (s + 1) (p + 2) l (g + 1) ret out (upd sN (p + 1) (prt (k * 3 + 1))) (upd (upd sP p (nI (ph + 1))) (p + 1) 0) sX (upd sK p (ret)) it (upd vr (l * 3 + v) (lit (a * 4 + (ph - 1)))) := by
  obtain ⟨hs, hp, hl, hk, eN, eP, hph1⟩ := id ha
  have hph : ¬ nI ph = 0 := nI_ne0 (by omega) (by omega)
  have cp : (nI p).toNatClampNeg = p := nI_clamp (by omega)
  have ck : (nI k).toNatClampNeg = k := nI_clamp (by omega)
  have ip : vp_in (nI p) 220 := vp_in_nI hp (by decide)
  have ik : vp_in (nI k) 280 := vp_in_nI hk (by decide)
  refine ey_go ha (fun K kk => ⟨ip, nm_r (e' := nI k) (by rw [cp]; exact eN) ⟨ik, nm_r (e' := 21) (by rw [ck]; exact ho) ⟨ip, nm_r (e' := nI ph) (by rw [cp]; exact eP) ⟨ip, ip, nm_r (e' := upd sP p (nI (ph + 1))) (by rw [cp, eP, nI_1]) (br_f (by decide) (br_f (by decide) (br_f (by decide) (br_f (by decide) (br_f hph (br_f (by decide) (br_f (by decide) (br_f (by decide) (br_f (by decide) (br_f (by decide) (br_f (by decide) (?_))))))))))))⟩⟩⟩⟩) h
  exact ey_qb21 hp hk hph2 hph1 ho (fun z => absurd z hnd) (fun _ => ey_q_go hp1 hl hk (by omega) hph1 ha16 hx hy hy4 hyp hg hv en kk)
theorem yr_qa_end22 (ha : ey_at sN sP s p l k ph) (ho : op k = 22) (hphe : ph = 1) (hr : ret = -1 ∨ ∃ a, a < 16 ∧ ret = nI a ∧ lsz a = 0) (h : ey_F Z ob tks pl nds res cls prp lit lsz fb tk tv opd rk rn op nm ay prt ylo yhi s (p + 1) l g ret out sN sP sX sK it vr) : ey_F Z ob tks pl nds res cls prp lit lsz fb tk tv opd rk rn op nm ay prt ylo yhi (s + 1) p l g 0 out sN (upd sP p (nI (ph + 1))) (upd sX p ret) (upd sK p 0) it vr := by
  obtain ⟨hs, hp, hl, hk, eN, eP, hph1⟩ := id ha
  have cp : (nI p).toNatClampNeg = p := nI_clamp (by omega)
  have ck : (nI k).toNatClampNeg = k := nI_clamp (by omega)
  have ip : vp_in (nI p) 220 := vp_in_nI hp (by decide)
  have ik : vp_in (nI k) 280 := vp_in_nI hk (by decide)
  have hph : ¬ nI ph = 0 := by subst hphe; decide
  refine ey_go ha (fun K kk => ⟨ip, nm_r (e' := nI k) (by rw [cp]; exact eN) ⟨ik, nm_r (e' := 22) (by rw [ck]; exact ho) ⟨ip, nm_r (e' := nI ph) (by rw [cp]; exact eP) ⟨ip, ip, nm_r (e' := upd sP p (nI (ph + 1))) (by rw [cp, eP, nI_1]) (br_f (by decide) (br_f (by decide) (br_f (by decide) (br_f (by decide) (br_f hph (br_f (by decide) (br_f (by decide) (br_f (by decide) (br_f (by decide) (br_f (by decide) (br_f (by decide) (?_))))))))))))⟩⟩⟩⟩) h
  subst hphe
  refine ey_qa22 hp hk ho ?_
  have kk' := ey_q146 (K := K) (ret := ret) (sX := upd sX p ret) (sK := upd sK p 0) hp (by rw [pk_us]; exact kk)
  rcases hr with hr | ⟨a, ha16, hr, hz⟩
  · exact ey_q_neg hp (pk_us.trans hr) kk'
  · exact ey_q_out (y := 0) hp (by omega) (by omega) ha16 (pk_us.trans hr) hz (by omega) kk'
theorem yr_qa_stop22 (ha : ey_at sN sP s p l k ph) (ho : op k = 22) (hphe : ph = 1) {a y : Nat} (ha16 : a < 16) (hr : ret = nI a) (hy : lsz a = nI y) (hy4 : y ≤ 4) (hy0 : 0 < y) (hg : g = 40) (h : ey_F Z ob tks pl nds res cls prp lit lsz fb tk tv opd rk rn op nm ay prt ylo yhi s (p + 1) l g ret out sN sP sX sK it vr) : ey_E Z ob tks pl nds res cls prp lit lsz fb tk tv opd rk rn op nm ay prt ylo yhi 6 (if l = 0 then ay k else out) g := by
  obtain ⟨hs, hp, hl, hk, eN, eP, hph1⟩ := id ha
  have cp : (nI p).toNatClampNeg = p := nI_clamp (by omega)
  have ck : (nI k).toNatClampNeg = k := nI_clamp (by omega)
  have ip : vp_in (nI p) 220 := vp_in_nI hp (by decide)
  have ik : vp_in (nI k) 280 := vp_in_nI hk (by decide)
  have hph : ¬ nI ph = 0 := by subst hphe; decide
  refine ey_ef (x := 6) (p' := p + 1) (ret' := ret) (out' := out) (sN' := sN) (sP' := upd sP p (nI (ph + 1))) (sX' := upd sX p ret) (sK' := upd sK p 0) (it' := it) (vr' := vr) ha (by decide) (fun K kk => ⟨ip, nm_r (e' := nI k) (by rw [cp]; exact eN) ⟨ik, nm_r (e' := 22) (by rw [ck]; exact ho) ⟨ip, nm_r (e' := nI ph) (by rw [cp]; exact eP) ⟨ip, ip, nm_r (e' := upd sP p (nI (ph + 1))) (by rw [cp, eP, nI_1]) (br_f (by decide) (br_f (by decide) (br_f (by decide) (br_f (by decide) (br_f hph (br_f (by decide) (br_f (by decide) (br_f (by decide) (br_f (by decide) (br_f (by decide) (br_f (by decide) (?_))))))))))))⟩⟩⟩⟩) h
  subst hphe
  exact ey_qa22 hp hk ho (ey_q_stop hp hl hk (by omega) (by omega) ha16 (pk_us.trans hr) hy hy4 (by omega) hg kk)
theorem yr_qa_go22 (ha : ey_at sN sP s p l k ph) (ho : op k = 22) (hphe : ph = 1) {a y : Nat} (ha16 : a < 16) (hr : ret = nI a) (hy : lsz a = nI y) (hy4 : y ≤ 4) (hy0 : 0 < y) (hg : g < 40) {v : Nat} (hv : v < 3) (en : nm k = nI v) (hp1 : p + 1 < 220) (h : ey_F Z ob tks pl nds res cls prp lit lsz fb tk tv opd rk rn op nm ay prt ylo yhi s (p + 1) l g ret out sN sP sX sK it vr) : ey_F Z ob tks pl nds res cls prp lit lsz fb tk tv opd rk rn op nm ay prt ylo yhi (s + 1) (p + 2) l (g + 1) ret out (upd sN (p + 1) (prt (k * 3 + 1))) (upd (upd sP p (nI (ph + 1))) (p + 1) 0) (upd sX p ret) (upd sK p 0) it (upd vr (l * 3 + v) (lit (a * 4))) := by
  obtain ⟨hs, hp, hl, hk, eN, eP, hph1⟩ := id ha
  have cp : (nI p).toNatClampNeg = p := nI_clamp (by omega)
  have ck : (nI k).toNatClampNeg = k := nI_clamp (by omega)
  have ip : vp_in (nI p) 220 := vp_in_nI hp (by decide)
  have ik : vp_in (nI k) 280 := vp_in_nI hk (by decide)
  have hph : ¬ nI ph = 0 := by subst hphe; decide
  refine ey_go ha (fun K kk => ⟨ip, nm_r (e' := nI k) (by rw [cp]; exact eN) ⟨ik, nm_r (e' := 22) (by rw [ck]; exact ho) ⟨ip, nm_r (e' := nI ph) (by rw [cp]; exact eP) ⟨ip, ip, nm_r (e' := upd sP p (nI (ph + 1))) (by rw [cp, eP, nI_1]) (br_f (by decide) (br_f (by decide) (br_f (by decide) (br_f (by decide) (br_f hph (br_f (by decide) (br_f (by decide) (br_f (by decide) (br_f (by decide) (br_f (by decide) (br_f (by decide) (?_))))))))))))⟩⟩⟩⟩) h
  subst hphe
  exact ey_qa22 hp hk ho (ey_q_go (ph := 1) hp1 hl hk (by omega) (by omega) ha16 (pk_us.trans hr) hy hy4 (by omega) hg hv en kk)
theorem yr_qb_end22 (ha : ey_at sN sP s p l k ph) (ho : op k = 22) (hph2 : 2 ≤ ph) (hr : ey_dec 22 ret ∨ ∃ a y, a < 16 ∧ sX p = nI a ∧ lsz a = nI y ∧ y ≤ ph - 1) (h : ey_F Z ob tks pl nds res cls prp lit lsz fb tk tv opd rk rn op nm ay prt ylo yhi s (p + 1) l g ret out sN sP sX sK it vr) : ey_F Z ob tks pl nds res cls prp lit lsz fb tk tv opd rk rn op nm ay prt ylo yhi (s + 1) p l g (sK p + ret) out sN (upd sP p (nI (ph + 1))) sX (upd sK p (sK p + ret)) it vr := by
  obtain ⟨hs, hp, hl, hk, eN, eP, hph1⟩ := id ha
  have hph : ¬ nI ph = 0 := nI_ne0 (by omega) (by omega)
  have cp : (nI p).toNatClampNeg = p := nI_clamp (by omega)
  have ck : (nI k).toNatClampNeg = k := nI_clamp (by omega)
  have ip : vp_in (nI p) 220 := vp_in_nI hp (by decide)
  have ik : vp_in (nI k) 280 := vp_in_nI hk (by decide)
  refine ey_go ha (fun K kk => ⟨ip, nm_r (e' := nI k) (by rw [cp]; exact eN) ⟨ik, nm_r (e' := 22) (by rw [ck]; exact ho) ⟨ip, nm_r (e' := nI ph) (by rw [cp]; exact eP) ⟨ip, ip, nm_r (e' := upd sP p (nI (ph + 1))) (by rw [cp, eP, nI_1]) (br_f (by decide) (br_f (by decide) (br_f (by decide) (br_f (by decide) (br_f hph (br_f (by decide) (br_f (by decide) (br_f (by decide) (br_f (by decide) (br_f (by decide) (br_f (by decide) (?_))))))))))))⟩⟩⟩⟩) h
  have kk' := ey_q146 (K := K) (ret := ret) (sK := upd sK p (sK p + ret)) hp (by rw [pk_us]; exact kk)
  refine ey_qb22 hp hk hph2 hph1 ho (fun _ => br_f (by decide) kk') (fun nd => ?_)
  obtain ⟨a, y, ha16, hx, hy, hyp⟩ := hr.resolve_left nd
  exact ey_q_out hp (by omega) hph1 ha16 hx hy hyp kk'
theorem yr_qb_stop22 (ha : ey_at sN sP s p l k ph) (ho : op k = 22) (hph2 : 2 ≤ ph) (hnd : ¬ ey_dec 22 ret) {a y : Nat} (ha16 : a < 16) (hx : sX p = nI a) (hy : lsz a = nI y) (hy4 : y ≤ 4) (hyp : ph - 1 < y) (hg : g = 40) (h : ey_F Z ob tks pl nds res cls prp lit lsz fb tk tv opd rk rn op nm ay prt ylo yhi s (p + 1) l g ret out sN sP sX sK it vr) : ey_E Z ob tks pl nds res cls prp lit lsz fb tk tv opd rk rn op nm ay prt ylo yhi 6 (if l = 0 then ay k else out) g := by
  obtain ⟨hs, hp, hl, hk, eN, eP, hph1⟩ := id ha
  have hph : ¬ nI ph = 0 := nI_ne0 (by omega) (by omega)
  have cp : (nI p).toNatClampNeg = p := nI_clamp (by omega)
  have ck : (nI k).toNatClampNeg = k := nI_clamp (by omega)
  have ip : vp_in (nI p) 220 := vp_in_nI hp (by decide)
  have ik : vp_in (nI k) 280 := vp_in_nI hk (by decide)
  refine ey_ef (x := 6) (p' := p + 1) (ret' := ret) (out' := out) (sN' := sN) (sP' := upd sP p (nI (ph + 1))) (sX' := sX) (sK' := upd sK p (sK p + ret)) (it' := it) (vr' := vr) ha (by decide) (fun K kk => ⟨ip, nm_r (e' := nI k) (by rw [cp]; exact eN) ⟨ik, nm_r (e' := 22) (by rw [ck]; exact ho) ⟨ip, nm_r (e' := nI ph) (by rw [cp]; exact eP) ⟨ip, ip, nm_r (e' := upd sP p (nI (ph + 1))) (by rw [cp, eP, nI_1]) (br_f (by decide) (br_f (by decide) (br_f (by decide) (br_f (by decide) (br_f hph (br_f (by decide) (br_f (by decide) (br_f (by decide) (br_f (by decide) (br_f (by decide) (br_f (by decide) (?_))))))))))))⟩⟩⟩⟩) h
  exact ey_qb22 hp hk hph2 hph1 ho (fun z => absurd z hnd) (fun _ => ey_q_stop hp hl hk (by omega) hph1 ha16 hx hy hy4 hyp hg kk)
theorem yr_qb_go22 (ha : ey_at sN sP s p l k ph) (ho : op k = 22) (hph2 : 2 ≤ ph) (hnd : ¬ ey_dec 22 ret) {a y : Nat} (ha16 : a < 16) (hx : sX p = nI a) (hy : lsz a = nI y) (hy4 : y ≤ 4) (hyp : ph - 1 < y) (hg : g < 40) {v : Nat} (hv : v < 3) (en : nm k = nI v) (hp1 : p + 1 < 220) (h : ey_F Z ob tks pl nds res cls prp lit lsz fb tk tv opd rk rn op nm ay prt ylo yhi s (p + 1) l g ret out sN sP sX sK it vr) : ey_F Z ob tks pl nds res cls prp lit lsz fb tk tv opd rk rn op nm ay prt ylo yhi (s + 1) (p + 2) l (g + 1) ret out (upd sN (p + 1) (prt (k * 3 + 1))) (upd (upd sP p (nI (ph + 1))) (p + 1) 0) sX (upd sK p (sK p + ret)) it (upd vr (l * 3 + v) (lit (a * 4 + (ph - 1)))) := by
  obtain ⟨hs, hp, hl, hk, eN, eP, hph1⟩ := id ha
  have hph : ¬ nI ph = 0 := nI_ne0 (by omega) (by omega)
  have cp : (nI p).toNatClampNeg = p := nI_clamp (by omega)
  have ck : (nI k).toNatClampNeg = k := nI_clamp (by omega)
  have ip : vp_in (nI p) 220 := vp_in_nI hp (by decide)
  have ik : vp_in (nI k) 280 := vp_in_nI hk (by decide)
  refine ey_go ha (fun K kk => ⟨ip, nm_r (e' := nI k) (by rw [cp]; exact eN) ⟨ik, nm_r (e' := 22) (by rw [ck]; exact ho) ⟨ip, nm_r (e' := nI ph) (by rw [cp]; exact eP) ⟨ip, ip, nm_r (e' := upd sP p (nI (ph + 1))) (by rw [cp, eP, nI_1]) (br_f (by decide) (br_f (by decide) (br_f (by decide) (br_f (by decide) (br_f hph (br_f (by decide) (br_f (by decide) (br_f (by decide) (br_f (by decide) (br_f (by decide) (br_f (by decide) (?_))))))))))))⟩⟩⟩⟩) h
  exact ey_qb22 hp hk hph2 hph1 ho (fun z => absurd z hnd) (fun _ => ey_q_go hp1 hl hk (by omega) hph1 ha16 hx hy hy4 hyp hg hv en kk)
theorem yr_qa_end {t : Nat} (ht : t = 20 ∨ t = 21 ∨ t = 22) (ha : ey_at sN sP s p l k ph) (ho : op k = nI t) (hphe : ph = 1) (hr : ret = -1 ∨ ∃ a, a < 16 ∧ ret = nI a ∧ lsz a = 0) (h : ey_F Z ob tks pl nds res cls prp lit lsz fb tk tv opd rk rn op nm ay prt ylo yhi s (p + 1) l g ret out sN sP sX sK it vr) : ey_F Z ob tks pl nds res cls prp lit lsz fb tk tv opd rk rn op nm ay prt ylo yhi (s + 1) p l g ((if t = 21 then 1 else 0)) out sN (upd sP p (nI (ph + 1))) (upd sX p ret) (upd sK p (if t = 21 then 1 else 0)) it vr := by
  rcases ht with rfl | rfl | rfl
  · exact yr_qa_end20 ha ho hphe hr h
  · exact yr_qa_end21 ha ho hphe hr h
  · exact yr_qa_end22 ha ho hphe hr h
theorem yr_qa_stop {t : Nat} (ht : t = 20 ∨ t = 21 ∨ t = 22) (ha : ey_at sN sP s p l k ph) (ho : op k = nI t) (hphe : ph = 1) {a y : Nat} (ha16 : a < 16) (hr : ret = nI a) (hy : lsz a = nI y) (hy4 : y ≤ 4) (hy0 : 0 < y) (hg : g = 40) (h : ey_F Z ob tks pl nds res cls prp lit lsz fb tk tv opd rk rn op nm ay prt ylo yhi s (p + 1) l g ret out sN sP sX sK it vr) : ey_E Z ob tks pl nds res cls prp lit lsz fb tk tv opd rk rn op nm ay prt ylo yhi 6 (if l = 0 then ay k else out) g := by
  rcases ht with rfl | rfl | rfl
  · exact yr_qa_stop20 ha ho hphe ha16 hr hy hy4 hy0 hg h
  · exact yr_qa_stop21 ha ho hphe ha16 hr hy hy4 hy0 hg h
  · exact yr_qa_stop22 ha ho hphe ha16 hr hy hy4 hy0 hg h
theorem yr_qa_go {t : Nat} (ht : t = 20 ∨ t = 21 ∨ t = 22) (ha : ey_at sN sP s p l k ph) (ho : op k = nI t) (hphe : ph = 1) {a y : Nat} (ha16 : a < 16) (hr : ret = nI a) (hy : lsz a = nI y) (hy4 : y ≤ 4) (hy0 : 0 < y) (hg : g < 40) {v : Nat} (hv : v < 3) (en : nm k = nI v) (hp1 : p + 1 < 220) (h : ey_F Z ob tks pl nds res cls prp lit lsz fb tk tv opd rk rn op nm ay prt ylo yhi s (p + 1) l g ret out sN sP sX sK it vr) : ey_F Z ob tks pl nds res cls prp lit lsz fb tk tv opd rk rn op nm ay prt ylo yhi (s + 1) (p + 2) l (g + 1) ret out (upd sN (p + 1) (prt (k * 3 + 1))) (upd (upd sP p (nI (ph + 1))) (p + 1) 0) (upd sX p ret) (upd sK p (if t = 21 then 1 else 0)) it (upd vr (l * 3 + v) (lit (a * 4))) := by
  rcases ht with rfl | rfl | rfl
  · exact yr_qa_go20 ha ho hphe ha16 hr hy hy4 hy0 hg hv en hp1 h
  · exact yr_qa_go21 ha ho hphe ha16 hr hy hy4 hy0 hg hv en hp1 h
  · exact yr_qa_go22 ha ho hphe ha16 hr hy hy4 hy0 hg hv en hp1 h
theorem yr_qb_end {t : Nat} (ht : t = 20 ∨ t = 21 ∨ t = 22) (ha : ey_at sN sP s p l k ph) (ho : op k = nI t) (hph2 : 2 ≤ ph) (hr : ey_dec t ret ∨ ∃ a y, a < 16 ∧ sX p = nI a ∧ lsz a = nI y ∧ y ≤ ph - 1) (h : ey_F Z ob tks pl nds res cls prp lit lsz fb tk tv opd rk rn op nm ay prt ylo yhi s (p + 1) l g ret out sN sP sX sK it vr) : ey_F Z ob tks pl nds res cls prp lit lsz fb tk tv opd rk rn op nm ay prt ylo yhi (s + 1) p l g ((if t = 22 then sK p + ret else ret)) out sN (upd sP p (nI (ph + 1))) sX (upd sK p (if t = 22 then sK p + ret else ret)) it vr := by
  rcases ht with rfl | rfl | rfl
  · exact yr_qb_end20 ha ho hph2 hr h
  · exact yr_qb_end21 ha ho hph2 hr h
  · exact yr_qb_end22 ha ho hph2 hr h
theorem yr_qb_stop {t : Nat} (ht : t = 20 ∨ t = 21 ∨ t = 22) (ha : ey_at sN sP s p l k ph) (ho : op k = nI t) (hph2 : 2 ≤ ph) (hnd : ¬ ey_dec t ret) {a y : Nat} (ha16 : a < 16) (hx : sX p = nI a) (hy : lsz a = nI y) (hy4 : y ≤ 4) (hyp : ph - 1 < y) (hg : g = 40) (h : ey_F Z ob tks pl nds res cls prp lit lsz fb tk tv opd rk rn op nm ay prt ylo yhi s (p + 1) l g ret out sN sP sX sK it vr) : ey_E Z ob tks pl nds res cls prp lit lsz fb tk tv opd rk rn op nm ay prt ylo yhi 6 (if l = 0 then ay k else out) g := by
  rcases ht with rfl | rfl | rfl
  · exact yr_qb_stop20 ha ho hph2 hnd ha16 hx hy hy4 hyp hg h
  · exact yr_qb_stop21 ha ho hph2 hnd ha16 hx hy hy4 hyp hg h
  · exact yr_qb_stop22 ha ho hph2 hnd ha16 hx hy hy4 hyp hg h
theorem yr_qb_go {t : Nat} (ht : t = 20 ∨ t = 21 ∨ t = 22) (ha : ey_at sN sP s p l k ph) (ho : op k = nI t) (hph2 : 2 ≤ ph) (hnd : ¬ ey_dec t ret) {a y : Nat} (ha16 : a < 16) (hx : sX p = nI a) (hy : lsz a = nI y) (hy4 : y ≤ 4) (hyp : ph - 1 < y) (hg : g < 40) {v : Nat} (hv : v < 3) (en : nm k = nI v) (hp1 : p + 1 < 220) (h : ey_F Z ob tks pl nds res cls prp lit lsz fb tk tv opd rk rn op nm ay prt ylo yhi s (p + 1) l g ret out sN sP sX sK it vr) : ey_F Z ob tks pl nds res cls prp lit lsz fb tk tv opd rk rn op nm ay prt ylo yhi (s + 1) (p + 2) l (g + 1) ret out (upd sN (p + 1) (prt (k * 3 + 1))) (upd (upd sP p (nI (ph + 1))) (p + 1) 0) sX (upd sK p (if t = 22 then sK p + ret else ret)) it (upd vr (l * 3 + v) (lit (a * 4 + (ph - 1)))) := by
  rcases ht with rfl | rfl | rfl
  · exact yr_qb_go20 ha ho hph2 hnd ha16 hx hy hy4 hyp hg hv en hp1 h
  · exact yr_qb_go21 ha ho hph2 hnd ha16 hx hy hy4 hyp hg hv en hp1 h
  · exact yr_qb_go22 ha ho hph2 hnd ha16 hx hy hy4 hyp hg hv en hp1 h
end
end
section
/-- the values of each kind -/
def si_V (o : Nat) (t v : Int32) : Prop := (t = 2 → v = 0 ∨ v = 1) ∧ (t = 3 → v = -1 ∨ ∃ i, i < o ∧ v = nI i) ∧ (t = 4 → v = -1 ∨ ∃ l, l < 16 ∧ v = nI l)
/-- the bound variables -/
def si_B (lsz lit ll li vr : Nat → Int32) (l : Nat) (B : Nat → Prop) : Prop := ∀ v, v < 3 → B v → ∃ a j y, a < 16 ∧ y ≤ 4 ∧ j < y ∧ lsz a = nI y ∧ ll (l * 3 + v) = nI a ∧ li (l * 3 + v) = nI j ∧ vr (l * 3 + v) = lit (a * 4 + j)
/-- where the outermost rule stands, seen from a called one -/
def si_O (rp : Nat → Int32) (r0 l : Nat) (fn : Nat → Int32) (out : Int32) : Prop := 1 ≤ l → ∃ j, j < 40 ∧ fn 0 = nI (j + 1) ∧ out = rp (r0 * 40 + j)
/-- what a piece of the run leaves alone -/
def si_N (l p w : Nat) (B : Nat → Prop) (fr fn fi vs ll li lt sN sP sX sK it vr : Nat → Int32) (out : Int32) (fr1 fn1 fi1 vs1 ll1 li1 lt1 sN1 sP1 sX1 sK1 it1 vr1 : Nat → Int32) (out1 : Int32) : Prop :=
  (∀ j, j ≤ l → fr1 j = fr j ∧ fi1 j = fi j ∧ it1 j = it j) ∧ (∀ j, j < l → fn1 j = fn j) ∧ (∀ j, j < w → vs1 j = vs j) ∧
  (∀ j, j < l * 3 → ll1 j = ll j ∧ li1 j = li j ∧ lt1 j = lt j ∧ vr1 j = vr j) ∧
  (∀ v, v < 3 → B v → ll1 (l * 3 + v) = ll (l * 3 + v) ∧ li1 (l * 3 + v) = li (l * 3 + v) ∧ lt1 (l * 3 + v) = lt (l * 3 + v) ∧ vr1 (l * 3 + v) = vr (l * 3 + v)) ∧
  (∀ j, j < p → sN1 j = sN j ∧ sP1 j = sP j ∧ sX1 j = sX j ∧ sK1 j = sK j) ∧ (1 ≤ l → out1 = out)
def si_Pre (o r0 l q k a b : Nat) (B : Nat → Prop) (lsz lit rp : Nat → Int32) (s s' w g p : Nat) (out : Int32) (fr fn fi ll li sN sP it vr : Nat → Int32) : Prop :=
  l < 5 ∧ fr l = nI q ∧ fn l = nI a ∧ fi l = it l ∧ (∃ i, i < o ∧ it l = nI i) ∧ si_B lsz lit ll li vr l B ∧ sN p = nI (q * 40 + k) ∧ sP p = nI 0 ∧ (l = 0 → q = r0) ∧ si_O rp r0 l fn out ∧
  w + (b - a) ≤ 40 * (l + 1) ∧ p + (b - a) ≤ 40 * (l + 1) ∧ g ≤ 40 ∧ s + 200 * (40 - g) + 3 * (b - a) ≤ 15000 ∧ s' + 200 * (40 - g) + 3 * (b - a) ≤ 15000
/-- rule q as it lies in the arrays -/
def si_D (q len nn : Nat) (xo xa xt xp yo yn ya : Nat → Int32) (yp : Nat → Nat → Nat) (rl ro ra rt rp op nm ay prt : Nat → Int32) : Prop :=
  q < 6 ∧ len ≤ 40 ∧ nn ≤ 40 ∧ rl q = nI len ∧
  (∀ j, j < len → ro (q * 40 + j) = xo j ∧ ra (q * 40 + j) = xa j ∧ rt (q * 40 + j) = xt j ∧ rp (q * 40 + j) = xp j) ∧
  (∀ j, j < nn → op (q * 40 + j) = yo j ∧ nm (q * 40 + j) = yn j ∧ ay (q * 40 + j) = ya j) ∧
  (∀ j i, j < nn → i < gr_ar (yo j) → prt ((q * 40 + j) * 3 + i) = nI (q * 40 + yp j i))
def si_E (post : Int32 → SX → Prop) (Z : (Int32 → SY → Prop) → Prop) (oc tc cp lc sc kc er ep ob tks pl nds res : Int32) (cls num lnk lsz lit fb tk tv rk rl ro ra rt rp oo co sk kd prp opd rn op nm ay prt ylo yhi : Nat → Int32) (r0 : Nat) : Prop := ∀ (x g d w : Nat) (e : Int32) (fr fn fi vs ll li lt : Nat → Int32), 2 ≤ x → x ≤ 6 → g ≤ 40 → (∃ j, j < 40 ∧ fn 0 = nI (j + 1) ∧ rp (r0 * 40 + j) = e) → ey_E Z ob tks pl nds res cls prp lit lsz fb tk tv opd rk rn op nm ay prt ylo yhi x e g → post (nI x) (oc, tc, cp, lc, sc, kc, nI d, nI w, er, ep, nI g, cls, num, lnk, lsz, lit, fb, tk, tv, rk, rl, ro, ra, rt, rp, oo, co, sk, kd, fr, fn, fi, vs, ll, li, lt)
/-- node k of rule q, carried out by both -/
def si_Run (post : Int32 → SX → Prop) (Z : (Int32 → SY → Prop) → Prop) (oc tc cp lc sc kc er ep ob tks pl nds res : Int32) (cls num lnk lsz lit fb tk tv rk rl ro ra rt rp oo co sk kd prp opd rn op nm ay prt ylo yhi : Nat → Int32) (o r0 l q k a b : Nat) (B : Nat → Prop) (t : Int32) : Prop := ∀ (s s' w g p : Nat) (ret out : Int32) (fr fn fi vs ll li lt sN sP sX sK it vr : Nat → Int32), si_Pre o r0 l q k a b B lsz lit rp s s' w g p out fr fn fi ll li sN sP it vr → ey_F Z ob tks pl nds res cls prp lit lsz fb tk tv opd rk rn op nm ay prt ylo yhi s' (p + 1) l g ret out sN sP sX sK it vr →
  (∀ {s1 s2 g1 : Nat} {v out1 : Int32} {fr1 fn1 fi1 vs1 ll1 li1 lt1 sN1 sP1 sX1 sK1 it1 vr1 : Nat → Int32}, si_V o t v → si_N l p w B fr fn fi vs ll li lt sN sP sX sK it vr out fr1 fn1 fi1 vs1 ll1 li1 lt1 sN1 sP1 sX1 sK1 it1 vr1 out1 → vs1 w = v → fn1 l = nI b → g ≤ g1 → g1 ≤ 40 → s1 + 200 * (40 - g1) ≤ s + 200 * (40 - g) + 3 * (b - a) → s2 + 200 * (40 - g1) ≤ s' + 200 * (40 - g) + 3 * (b - a) → ey_F Z ob tks pl nds res cls prp lit lsz fb tk tv opd rk rn op nm ay prt ylo yhi s2 p l g1 v out1 sN1 sP1 sX1 sK1 it1 vr1 → ex_R post oc tc cp lc sc kc er ep cls num lnk lsz lit fb tk tv rk rl ro ra rt rp oo co sk kd s1 (l + 1) (w + 1) g1 fr1 fn1 fi1 vs1 ll1 li1 lt1) → ex_R post oc tc cp lc sc kc er ep cls num lnk lsz lit fb tk tv rk rl ro ra rt rp oo co sk kd s (l + 1) w g fr fn fi vs ll li lt
theorem si_bb {B : Nat → Prop} {l v u : Nat} (z : l * 3 + v = l * 3 + u) (hb : B v) : B u := by
  have e : v = u := by omega
  rw [← e]; exact hb
section
variable {l p w : Nat} {B : Nat → Prop} {fr fn fi vs ll li lt sN sP sX sK it vr fr1 fn1 fi1 vs1 ll1 li1 lt1 sN1 sP1 sX1 sK1 it1 vr1 fr2 fn2 fi2 vs2 ll2 li2 lt2 sN2 sP2 sX2 sK2 it2 vr2 : Nat → Int32} {out out1 out2 : Int32}
theorem si_N_refl : si_N l p w B fr fn fi vs ll li lt sN sP sX sK it vr out fr fn fi vs ll li lt sN sP sX sK it vr out := ⟨fun _ _ => ⟨rfl, rfl, rfl⟩, fun _ _ => rfl, fun _ _ => rfl, fun _ _ => ⟨rfl, rfl, rfl, rfl⟩, fun _ _ _ => ⟨rfl, rfl, rfl, rfl⟩, fun _ _ => ⟨rfl, rfl, rfl, rfl⟩, fun _ => rfl⟩
theorem si_N_trans (h : si_N l p w B fr fn fi vs ll li lt sN sP sX sK it vr out fr1 fn1 fi1 vs1 ll1 li1 lt1 sN1 sP1 sX1 sK1 it1 vr1 out1) (h' : si_N l p w B fr1 fn1 fi1 vs1 ll1 li1 lt1 sN1 sP1 sX1 sK1 it1 vr1 out1 fr2 fn2 fi2 vs2 ll2 li2 lt2 sN2 sP2 sX2 sK2 it2 vr2 out2) : si_N l p w B fr fn fi vs ll li lt sN sP sX sK it vr out fr2 fn2 fi2 vs2 ll2 li2 lt2 sN2 sP2 sX2 sK2 it2 vr2 out2 := by
  obtain ⟨a1, a2, a3, a4, a5, a6, a7⟩ := h
  obtain ⟨b1, b2, b3, b4, b5, b6, b7⟩ := h'
  refine ⟨fun j hj => ?_, fun j hj => (b2 j hj).trans (a2 j hj), fun j hj => (b3 j hj).trans (a3 j hj), fun j hj => ?_, fun v hv hb => ?_, fun j hj => ?_, fun z => (b7 z).trans (a7 z)⟩
  · exact ⟨(b1 j hj).1.trans (a1 j hj).1, (b1 j hj).2.1.trans (a1 j hj).2.1, (b1 j hj).2.2.trans (a1 j hj).2.2⟩
  · exact ⟨(b4 j hj).1.trans (a4 j hj).1, (b4 j hj).2.1.trans (a4 j hj).2.1, (b4 j hj).2.2.1.trans (a4 j hj).2.2.1, (b4 j hj).2.2.2.trans (a4 j hj).2.2.2⟩
  · exact ⟨(b5 v hv hb).1.trans (a5 v hv hb).1, (b5 v hv hb).2.1.trans (a5 v hv hb).2.1, (b5 v hv hb).2.2.1.trans (a5 v hv hb).2.2.1, (b5 v hv hb).2.2.2.trans (a5 v hv hb).2.2.2⟩
  · exact ⟨(b6 j hj).1.trans (a6 j hj).1, (b6 j hj).2.1.trans (a6 j hj).2.1, (b6 j hj).2.2.1.trans (a6 j hj).2.2.1, (b6 j hj).2.2.2.trans (a6 j hj).2.2.2⟩
theorem si_N_mono {p' w' : Nat} {B' : Nat → Prop} (hp : p ≤ p') (hw : w ≤ w') (hB : ∀ v, B v → B' v) (h : si_N l p' w' B' fr fn fi vs ll li lt sN sP sX sK it vr out fr1 fn1 fi1 vs1 ll1 li1 lt1 sN1 sP1 sX1 sK1 it1 vr1 out1) : si_N l p w B fr fn fi vs ll li lt sN sP sX sK it vr out fr1 fn1 fi1 vs1 ll1 li1 lt1 sN1 sP1 sX1 sK1 it1 vr1 out1 := by
  obtain ⟨a1, a2, a3, a4, a5, a6, a7⟩ := h
  exact ⟨a1, a2, fun j hj => a3 j (by omega), a4, fun v hv hb => a5 v hv (hB v hb), fun j hj => a6 j (by omega), a7⟩
theorem si_N_up {p' w' : Nat} {B' : Nat → Prop} (hp : p ≤ p') (hw : w ≤ w') (h : si_N (l + 1) p' w' B' fr fn fi vs ll li lt sN sP sX sK it vr out fr1 fn1 fi1 vs1 ll1 li1 lt1 sN1 sP1 sX1 sK1 it1 vr1 out1) : si_N l p w B fr fn fi vs ll li lt sN sP sX sK it vr out fr1 fn1 fi1 vs1 ll1 li1 lt1 sN1 sP1 sX1 sK1 it1 vr1 out1 := by
  obtain ⟨a1, a2, a3, a4, a5, a6, a7⟩ := h
  exact ⟨fun j hj => a1 j (by omega), fun j hj => a2 j (by omega), fun j hj => a3 j (by omega), fun j hj => a4 j (by omega), fun v hv hb => a4 _ (by omega), fun j hj => a6 j (by omega), fun z => a7 (by omega)⟩
theorem si_N_fr {j : Nat} {x : Int32} (hj : l < j) (h : si_N l p w B fr fn fi vs ll li lt sN sP sX sK it vr out fr1 fn1 fi1 vs1 ll1 li1 lt1 sN1 sP1 sX1 sK1 it1 vr1 out1) : si_N l p w B fr fn fi vs ll li lt sN sP sX sK it vr out (upd fr1 j x) fn1 fi1 vs1 ll1 li1 lt1 sN1 sP1 sX1 sK1 it1 vr1 out1 := by
  obtain ⟨a1, a2, a3, a4, a5, a6, a7⟩ := h
  exact ⟨fun i hi => ⟨(pk_un (by omega)).trans (a1 i hi).1, (a1 i hi).2⟩, a2, a3, a4, a5, a6, a7⟩
theorem si_N_fi {j : Nat} {x : Int32} (hj : l < j) (h : si_N l p w B fr fn fi vs ll li lt sN sP sX sK it vr out fr1 fn1 fi1 vs1 ll1 li1 lt1 sN1 sP1 sX1 sK1 it1 vr1 out1) : si_N l p w B fr fn fi vs ll li lt sN sP sX sK it vr out fr1 fn1 (upd fi1 j x) vs1 ll1 li1 lt1 sN1 sP1 sX1 sK1 it1 vr1 out1 := by
  obtain ⟨a1, a2, a3, a4, a5, a6, a7⟩ := h
  exact ⟨fun i hi => ⟨(a1 i hi).1, (pk_un (by omega)).trans (a1 i hi).2.1, (a1 i hi).2.2⟩, a2, a3, a4, a5, a6, a7⟩
theorem si_N_it {j : Nat} {x : Int32} (hj : l < j) (h : si_N l p w B fr fn fi vs ll li lt sN sP sX sK it vr out fr1 fn1 fi1 vs1 ll1 li1 lt1 sN1 sP1 sX1 sK1 it1 vr1 out1) : si_N l p w B fr fn fi vs ll li lt sN sP sX sK it vr out fr1 fn1 fi1 vs1 ll1 li1 lt1 sN1 sP1 sX1 sK1 (upd it1 j x) vr1 out1 := by
  obtain ⟨a1, a2, a3, a4, a5, a6, a7⟩ := h
  exact ⟨fun i hi => ⟨(a1 i hi).1, (a1 i hi).2.1, (pk_un (by omega)).trans (a1 i hi).2.2⟩, a2, a3, a4, a5, a6, a7⟩
theorem si_N_fn {j : Nat} {x : Int32} (hj : l ≤ j) (h : si_N l p w B fr fn fi vs ll li lt sN sP sX sK it vr out fr1 fn1 fi1 vs1 ll1 li1 lt1 sN1 sP1 sX1 sK1 it1 vr1 out1) : si_N l p w B fr fn fi vs ll li lt sN sP sX sK it vr out fr1 (upd fn1 j x) fi1 vs1 ll1 li1 lt1 sN1 sP1 sX1 sK1 it1 vr1 out1 := by
  obtain ⟨a1, a2, a3, a4, a5, a6, a7⟩ := h
  exact ⟨a1, fun i hi => (pk_un (by omega)).trans (a2 i hi), a3, a4, a5, a6, a7⟩
theorem si_N_vs {j : Nat} {x : Int32} (hj : w ≤ j) (h : si_N l p w B fr fn fi vs ll li lt sN sP sX sK it vr out fr1 fn1 fi1 vs1 ll1 li1 lt1 sN1 sP1 sX1 sK1 it1 vr1 out1) : si_N l p w B fr fn fi vs ll li lt sN sP sX sK it vr out fr1 fn1 fi1 (upd vs1 j x) ll1 li1 lt1 sN1 sP1 sX1 sK1 it1 vr1 out1 := by
  obtain ⟨a1, a2, a3, a4, a5, a6, a7⟩ := h
  exact ⟨a1, a2, fun i hi => (pk_un (by omega)).trans (a3 i hi), a4, a5, a6, a7⟩
theorem si_N_sN {j : Nat} {x : Int32} (hj : p ≤ j) (h : si_N l p w B fr fn fi vs ll li lt sN sP sX sK it vr out fr1 fn1 fi1 vs1 ll1 li1 lt1 sN1 sP1 sX1 sK1 it1 vr1 out1) : si_N l p w B fr fn fi vs ll li lt sN sP sX sK it vr out fr1 fn1 fi1 vs1 ll1 li1 lt1 (upd sN1 j x) sP1 sX1 sK1 it1 vr1 out1 := by
  obtain ⟨a1, a2, a3, a4, a5, a6, a7⟩ := h
  exact ⟨a1, a2, a3, a4, a5, fun i hi => ⟨(pk_un (by omega)).trans (a6 i hi).1, (a6 i hi).2⟩, a7⟩
theorem si_N_sP {j : Nat} {x : Int32} (hj : p ≤ j) (h : si_N l p w B fr fn fi vs ll li lt sN sP sX sK it vr out fr1 fn1 fi1 vs1 ll1 li1 lt1 sN1 sP1 sX1 sK1 it1 vr1 out1) : si_N l p w B fr fn fi vs ll li lt sN sP sX sK it vr out fr1 fn1 fi1 vs1 ll1 li1 lt1 sN1 (upd sP1 j x) sX1 sK1 it1 vr1 out1 := by
  obtain ⟨a1, a2, a3, a4, a5, a6, a7⟩ := h
  exact ⟨a1, a2, a3, a4, a5, fun i hi => ⟨(a6 i hi).1, (pk_un (by omega)).trans (a6 i hi).2.1, (a6 i hi).2.2⟩, a7⟩
theorem si_N_sX {j : Nat} {x : Int32} (hj : p ≤ j) (h : si_N l p w B fr fn fi vs ll li lt sN sP sX sK it vr out fr1 fn1 fi1 vs1 ll1 li1 lt1 sN1 sP1 sX1 sK1 it1 vr1 out1) : si_N l p w B fr fn fi vs ll li lt sN sP sX sK it vr out fr1 fn1 fi1 vs1 ll1 li1 lt1 sN1 sP1 (upd sX1 j x) sK1 it1 vr1 out1 := by
  obtain ⟨a1, a2, a3, a4, a5, a6, a7⟩ := h
  exact ⟨a1, a2, a3, a4, a5, fun i hi => ⟨(a6 i hi).1, (a6 i hi).2.1, (pk_un (by omega)).trans (a6 i hi).2.2.1, (a6 i hi).2.2.2⟩, a7⟩
theorem si_N_sK {j : Nat} {x : Int32} (hj : p ≤ j) (h : si_N l p w B fr fn fi vs ll li lt sN sP sX sK it vr out fr1 fn1 fi1 vs1 ll1 li1 lt1 sN1 sP1 sX1 sK1 it1 vr1 out1) : si_N l p w B fr fn fi vs ll li lt sN sP sX sK it vr out fr1 fn1 fi1 vs1 ll1 li1 lt1 sN1 sP1 sX1 (upd sK1 j x) it1 vr1 out1 := by
  obtain ⟨a1, a2, a3, a4, a5, a6, a7⟩ := h
  exact ⟨a1, a2, a3, a4, a5, fun i hi => ⟨(a6 i hi).1, (a6 i hi).2.1, (a6 i hi).2.2.1, (pk_un (by omega)).trans (a6 i hi).2.2.2⟩, a7⟩
theorem si_N_ll {u : Nat} {x : Int32} (hu : ¬ B u) (h : si_N l p w B fr fn fi vs ll li lt sN sP sX sK it vr out fr1 fn1 fi1 vs1 ll1 li1 lt1 sN1 sP1 sX1 sK1 it1 vr1 out1) : si_N l p w B fr fn fi vs ll li lt sN sP sX sK it vr out fr1 fn1 fi1 vs1 (upd ll1 (l * 3 + u) x) li1 lt1 sN1 sP1 sX1 sK1 it1 vr1 out1 := by
  obtain ⟨a1, a2, a3, a4, a5, a6, a7⟩ := h
  exact ⟨a1, a2, a3, fun i hi => ⟨(pk_un (by omega)).trans (a4 i hi).1, (a4 i hi).2.1, (a4 i hi).2.2.1, (a4 i hi).2.2.2⟩, fun v hv hb => ⟨(pk_un (fun z => hu (si_bb z hb))).trans (a5 v hv hb).1, (a5 v hv hb).2.1, (a5 v hv hb).2.2.1, (a5 v hv hb).2.2.2⟩, a6, a7⟩
theorem si_N_li {u : Nat} {x : Int32} (hu : ¬ B u) (h : si_N l p w B fr fn fi vs ll li lt sN sP sX sK it vr out fr1 fn1 fi1 vs1 ll1 li1 lt1 sN1 sP1 sX1 sK1 it1 vr1 out1) : si_N l p w B fr fn fi vs ll li lt sN sP sX sK it vr out fr1 fn1 fi1 vs1 ll1 (upd li1 (l * 3 + u) x) lt1 sN1 sP1 sX1 sK1 it1 vr1 out1 := by
  obtain ⟨a1, a2, a3, a4, a5, a6, a7⟩ := h
  exact ⟨a1, a2, a3, fun i hi => ⟨(a4 i hi).1, (pk_un (by omega)).trans (a4 i hi).2.1, (a4 i hi).2.2.1, (a4 i hi).2.2.2⟩, fun v hv hb => ⟨(a5 v hv hb).1, (pk_un (fun z => hu (si_bb z hb))).trans (a5 v hv hb).2.1, (a5 v hv hb).2.2.1, (a5 v hv hb).2.2.2⟩, a6, a7⟩
theorem si_N_lt {u : Nat} {x : Int32} (hu : ¬ B u) (h : si_N l p w B fr fn fi vs ll li lt sN sP sX sK it vr out fr1 fn1 fi1 vs1 ll1 li1 lt1 sN1 sP1 sX1 sK1 it1 vr1 out1) : si_N l p w B fr fn fi vs ll li lt sN sP sX sK it vr out fr1 fn1 fi1 vs1 ll1 li1 (upd lt1 (l * 3 + u) x) sN1 sP1 sX1 sK1 it1 vr1 out1 := by
  obtain ⟨a1, a2, a3, a4, a5, a6, a7⟩ := h
  exact ⟨a1, a2, a3, fun i hi => ⟨(a4 i hi).1, (a4 i hi).2.1, (pk_un (by omega)).trans (a4 i hi).2.2.1, (a4 i hi).2.2.2⟩, fun v hv hb => ⟨(a5 v hv hb).1, (a5 v hv hb).2.1, (pk_un (fun z => hu (si_bb z hb))).trans (a5 v hv hb).2.2.1, (a5 v hv hb).2.2.2⟩, a6, a7⟩
theorem si_N_vr {u : Nat} {x : Int32} (hu : ¬ B u) (h : si_N l p w B fr fn fi vs ll li lt sN sP sX sK it vr out fr1 fn1 fi1 vs1 ll1 li1 lt1 sN1 sP1 sX1 sK1 it1 vr1 out1) : si_N l p w B fr fn fi vs ll li lt sN sP sX sK it vr out fr1 fn1 fi1 vs1 ll1 li1 lt1 sN1 sP1 sX1 sK1 it1 (upd vr1 (l * 3 + u) x) out1 := by
  obtain ⟨a1, a2, a3, a4, a5, a6, a7⟩ := h
  exact ⟨a1, a2, a3, fun i hi => ⟨(a4 i hi).1, (a4 i hi).2.1, (a4 i hi).2.2.1, (pk_un (by omega)).trans (a4 i hi).2.2.2⟩, fun v hv hb => ⟨(a5 v hv hb).1, (a5 v hv hb).2.1, (a5 v hv hb).2.2.1, (pk_un (fun z => hu (si_bb z hb))).trans (a5 v hv hb).2.2.2⟩, a6, a7⟩
theorem si_N_out {x : Int32} (hx : 1 ≤ l → x = out1) (h : si_N l p w B fr fn fi vs ll li lt sN sP sX sK it vr out fr1 fn1 fi1 vs1 ll1 li1 lt1 sN1 sP1 sX1 sK1 it1 vr1 out1) : si_N l p w B fr fn fi vs ll li lt sN sP sX sK it vr out fr1 fn1 fi1 vs1 ll1 li1 lt1 sN1 sP1 sX1 sK1 it1 vr1 x := by
  obtain ⟨a1, a2, a3, a4, a5, a6, a7⟩ := h
  exact ⟨a1, a2, a3, a4, a5, a6, fun z => (hx z).trans (a7 z)⟩
theorem si_B_N {lsz lit : Nat → Int32} (h : si_B lsz lit ll li vr l B) (hN : si_N l p w B fr fn fi vs ll li lt sN sP sX sK it vr out fr1 fn1 fi1 vs1 ll1 li1 lt1 sN1 sP1 sX1 sK1 it1 vr1 out1) : si_B lsz lit ll1 li1 vr1 l B := by
  intro v hv hb
  obtain ⟨a, j, y, h1, h2, h3, h4, h5, h6, h7⟩ := h v hv hb
  obtain ⟨e1, e2, e3, e4⟩ := hN.2.2.2.2.1 v hv hb
  exact ⟨a, j, y, h1, h2, h3, h4, e1.trans h5, e2.trans h6, e4.trans h7⟩
theorem si_O_N {rp : Nat → Int32} {r0 : Nat} (h : si_O rp r0 l fn out) (hN : si_N l p w B fr fn fi vs ll li lt sN sP sX sK it vr out fr1 fn1 fi1 vs1 ll1 li1 lt1 sN1 sP1 sX1 sK1 it1 vr1 out1) : si_O rp r0 l fn1 out1 := by
  intro z
  obtain ⟨j, hj, h1, h2⟩ := h z
  exact ⟨j, hj, (hN.2.1 0 (by omega)).trans h1, (hN.2.2.2.2.2.2 z).trans h2⟩
theorem si_eo {rp ay : Nat → Int32} {r0 q c K : Nat} (h0 : l = 0 → q = r0) (hO : si_O rp r0 l fn out) (hc : c < 40) (hp : rp (q * 40 + c) = ay K) : ∃ j, j < 40 ∧ upd fn l (nI (c + 1)) 0 = nI (j + 1) ∧ rp (r0 * 40 + j) = (if l = 0 then ay K else out) := by
  by_cases z : l = 0
  · subst z
    rw [if_pos rfl, ← h0 rfl]
    exact ⟨c, hc, pk_us, hp⟩
  · rw [if_neg z]
    obtain ⟨j, hj, h1, h2⟩ := hO (by omega)
    exact ⟨j, hj, (pk_un (by omega)).trans h1, h2.symm⟩
theorem si_pre2 {o r0 q k a b k' a' b' s s' g p' w' s1 s2 g1 : Nat} {B' : Nat → Prop} {lsz lit rp : Nat → Int32} (hP : si_Pre o r0 l q k a b B lsz lit rp s s' w g p out fr fn fi ll li sN sP it vr) (hN : si_N l p w B fr fn fi vs ll li lt sN sP sX sK it vr out fr1 fn1 fi1 vs1 ll1 li1 lt1 sN1 sP1 sX1 sK1 it1 vr1 out1) (hB' : si_B lsz lit ll1 li1 vr1 l B') (e1 : fn1 l = nI a') (e2 : sN1 p' = nI (q * 40 + k')) (e3 : sP1 p' = nI 0) (h1 : w' + (b' - a') ≤ 40 * (l + 1)) (h2 : p' + (b' - a') ≤ 40 * (l + 1)) (h3 : g1 ≤ 40) (h4 : s1 + 200 * (40 - g1) + 3 * (b' - a') ≤ 15000) (h5 : s2 + 200 * (40 - g1) + 3 * (b' - a') ≤ 15000) : si_Pre o r0 l q k' a' b' B' lsz lit rp s1 s2 w' g1 p' out1 fr1 fn1 fi1 ll1 li1 sN1 sP1 it1 vr1 := by
  obtain ⟨hl, efr, efn, efi, hit, hB, esN, esP, h0, hO, hw, hp, hg, hs, hs'⟩ := hP
  obtain ⟨n1, n2, n3⟩ := hN.1 l (Nat.le_refl l)
  exact ⟨hl, n1.trans efr, e1, by rw [n2, n3]; exact efi, by rw [n3]; exact hit, hB', e2, e3, h0, si_O_N hO hN, h1, h2, h3, h4, h5⟩
end
end
section
section
variable {post : Int32 → SX → Prop} {Z : (Int32 → SY → Prop) → Prop} {oc tc cp lc sc kc er ep ob tks pl nds res : Int32} {cls num lnk lsz lit fb tk tv rk rl ro ra rt rp oo co sk kd prp opd rn op nm ay prt ylo yhi : Nat → Int32} {o r0 l : Nat} {q len nn : Nat} {xo xa xt xp yo yn ya : Nat → Int32} {yp : Nat → Nat → Nat} {B : Nat → Prop} {k a b : Nat}
theorem si_num (hD : si_D q len nn xo xa xt xp yo yn ya yp rl ro ra rt rp op nm ay prt) (hk : k < nn) (hal : a < len) (h1 : yo k = 0) (h2 : xo a = 0) (h3 : xa a = yn k) : si_Run post Z oc tc cp lc sc kc er ep ob tks pl nds res cls num lnk lsz lit fb tk tv rk rl ro ra rt rp oo co sk kd prp opd rn op nm ay prt ylo yhi o r0 l q k a (a + 1) B 1 := by
  intro s s' w g p ret out fr fn fi vs ll li lt sN sP sX sK it vr hP hF hc
  obtain ⟨hl, efr, efn, efi, hit, hB, esN, esP, h0, hO, hw, hp, hg, hs, hs'⟩ := id hP
  obtain ⟨hq, hlen, hnn, erl, cX, cY, cP⟩ := id hD
  obtain ⟨y1, y2, y3⟩ := cY k hk
  obtain ⟨x1, x2, x3, x4⟩ := cX a hal
  have at1 : ex_at rl fr fn s l q a len := ⟨by omega, hl, hq, efr, efn, erl, hal, hlen⟩
  have at2 : ey_at sN sP s' p l (q * 40 + k) 0 := ⟨by omega, by omega, hl, by omega, esN, esP, by omega⟩
  have F1 := yr_num at2 (y1.trans h1) hF
  refine xr_num at1 (x1.trans h2) (by omega) ?_
  refine hc ?_ (si_N_fn (Nat.le_refl _) (si_N_vs (Nat.le_refl _) (si_N_sP (Nat.le_refl _) si_N_refl))) ?_ pk_us (by omega) (by omega) (by omega) (by omega) F1
  · exact ⟨fun z => absurd z (by decide), fun z => absurd z (by decide), fun z => absurd z (by decide)⟩
  · exact pk_us.trans (x2.trans (h3.trans y2.symm))
theorem si_it (hD : si_D q len nn xo xa xt xp yo yn ya yp rl ro ra rt rp op nm ay prt) (hk : k < nn) (hal : a < len) (h1 : yo k = 3) (h2 : xo a = 3) : si_Run post Z oc tc cp lc sc kc er ep ob tks pl nds res cls num lnk lsz lit fb tk tv rk rl ro ra rt rp oo co sk kd prp opd rn op nm ay prt ylo yhi o r0 l q k a (a + 1) B 3 := by
  intro s s' w g p ret out fr fn fi vs ll li lt sN sP sX sK it vr hP hF hc
  obtain ⟨hl, efr, efn, efi, hit, hB, esN, esP, h0, hO, hw, hp, hg, hs, hs'⟩ := id hP
  obtain ⟨hq, hlen, hnn, erl, cX, cY, cP⟩ := id hD
  obtain ⟨y1, y2, y3⟩ := cY k hk
  obtain ⟨x1, x2, x3, x4⟩ := cX a hal
  have at1 : ex_at rl fr fn s l q a len := ⟨by omega, hl, hq, efr, efn, erl, hal, hlen⟩
  have at2 : ey_at sN sP s' p l (q * 40 + k) 0 := ⟨by omega, by omega, hl, by omega, esN, esP, by omega⟩
  have F1 := yr_it at2 (y1.trans h1) hF
  refine xr_it at1 (x1.trans h2) (by omega) ?_
  refine hc ?_ (si_N_fn (Nat.le_refl _) (si_N_vs (Nat.le_refl _) (si_N_sP (Nat.le_refl _) si_N_refl))) ?_ pk_us (by omega) (by omega) (by omega) (by omega) F1
  · exact ⟨fun z => absurd z (by decide), fun _ => Or.inr hit, fun z => absurd z (by decide)⟩
  · exact pk_us.trans efi
theorem si_nil (hD : si_D q len nn xo xa xt xp yo yn ya yp rl ro ra rt rp op nm ay prt) (hk : k < nn) (hal : a < len) (h1 : yo k = 19) (h2 : xo a = 19) : si_Run post Z oc tc cp lc sc kc er ep ob tks pl nds res cls num lnk lsz lit fb tk tv rk rl ro ra rt rp oo co sk kd prp opd rn op nm ay prt ylo yhi o r0 l q k a (a + 1) B 3 := by
  intro s s' w g p ret out fr fn fi vs ll li lt sN sP sX sK it vr hP hF hc
  obtain ⟨hl, efr, efn, efi, hit, hB, esN, esP, h0, hO, hw, hp, hg, hs, hs'⟩ := id hP
  obtain ⟨hq, hlen, hnn, erl, cX, cY, cP⟩ := id hD
  obtain ⟨y1, y2, y3⟩ := cY k hk
  obtain ⟨x1, x2, x3, x4⟩ := cX a hal
  have at1 : ex_at rl fr fn s l q a len := ⟨by omega, hl, hq, efr, efn, erl, hal, hlen⟩
  have at2 : ey_at sN sP s' p l (q * 40 + k) 0 := ⟨by omega, by omega, hl, by omega, esN, esP, by omega⟩
  have F1 := yr_nil at2 (y1.trans h1) hF
  refine xr_nil at1 (x1.trans h2) (by omega) ?_
  refine hc ?_ (si_N_fn (Nat.le_refl _) (si_N_vs (Nat.le_refl _) (si_N_sP (Nat.le_refl _) si_N_refl))) ?_ pk_us (by omega) (by omega) (by omega) (by omega) F1
  · exact ⟨fun z => absurd z (by decide), fun _ => Or.inl rfl, fun z => absurd z (by decide)⟩
  · exact pk_us
theorem si_var (hD : si_D q len nn xo xa xt xp yo yn ya yp rl ro ra rt rp op nm ay prt) (hk : k < nn) (hal : a < len) {v : Nat} (hOb : ∀ a, a < 16 → ∃ y, y ≤ 4 ∧ lsz a = nI y ∧ ∀ j, j < y → ∃ t, t < o ∧ lit (a * 4 + j) = nI t) (hv : v < 3) (h1 : yo k = 4) (h2 : yn k = nI v) (h3 : xo a = 4) (h4 : xa a = nI v) (hBv : B v) : si_Run post Z oc tc cp lc sc kc er ep ob tks pl nds res cls num lnk lsz lit fb tk tv rk rl ro ra rt rp oo co sk kd prp opd rn op nm ay prt ylo yhi o r0 l q k a (a + 1) B 3 := by
  intro s s' w g p ret out fr fn fi vs ll li lt sN sP sX sK it vr hP hF hc
  obtain ⟨hl, efr, efn, efi, hit, hB, esN, esP, h0, hO, hw, hp, hg, hs, hs'⟩ := id hP
  obtain ⟨hq, hlen, hnn, erl, cX, cY, cP⟩ := id hD
  obtain ⟨y1, y2, y3⟩ := cY k hk
  obtain ⟨x1, x2, x3, x4⟩ := cX a hal
  have at1 : ex_at rl fr fn s l q a len := ⟨by omega, hl, hq, efr, efn, erl, hal, hlen⟩
  have at2 : ey_at sN sP s' p l (q * 40 + k) 0 := ⟨by omega, by omega, hl, by omega, esN, esP, by omega⟩
  obtain ⟨ai, bj, bz, b1, b2, b3, b4, b5, b6, b7⟩ := hB v hv hBv
  have F1 := yr_var at2 (y1.trans h1) hv (y2.trans h2) hF
  refine xr_var at1 (x1.trans h3) (by omega) hv (x2.trans h4) b5 b6 (by omega) ?_
  refine hc ?_ (si_N_fn (Nat.le_refl _) (si_N_vs (Nat.le_refl _) (si_N_sP (Nat.le_refl _) si_N_refl))) ?_ pk_us (by omega) (by omega) (by omega) (by omega) F1
  · refine ⟨fun z => absurd z (by decide), fun _ => Or.inr ?_, fun z => absurd z (by decide)⟩
    obtain ⟨y', c1, c2, c3⟩ := hOb ai b1
    have : y' = bz := (nI_eq (by omega) (by omega)).1 (c2.symm.trans b4)
    obtain ⟨t, ht, e⟩ := c3 bj (by omega)
    exact ⟨t, ht, by rw [b7]; exact e⟩
  · exact pk_us.trans b7.symm
theorem si_first (hD : si_D q len nn xo xa xt xp yo yn ya yp rl ro ra rt rp op nm ay prt) (hk : k < nn) {t0 m : Nat} {tch : Int32} (ho : yo k = nI t0) (ht : t0 < 25) (n0 : t0 ≠ 0) (n3 : t0 ≠ 3) (n19 : t0 ≠ 19) (n4 : t0 ≠ 4) (har : 0 < gr_ar (yo k)) (ham : a < m) (hmb : m < b) (ih : si_Run post Z oc tc cp lc sc kc er ep ob tks pl nds res cls num lnk lsz lit fb tk tv rk rl ro ra rt rp oo co sk kd prp opd rn op nm ay prt ylo yhi o r0 l q (yp k 0) a m B tch) {s s' w g p : Nat} {ret out : Int32} {fr fn fi vs ll li lt sN sP sX sK it vr : Nat → Int32} (hP : si_Pre o r0 l q k a b B lsz lit rp s s' w g p out fr fn fi ll li sN sP it vr) (hF : ey_F Z ob tks pl nds res cls prp lit lsz fb tk tv opd rk rn op nm ay prt ylo yhi s' (p + 1) l g ret out sN sP sX sK it vr)
  (hc : ∀ {s1 s2 g1 : Nat} {v out1 : Int32} {fr1 fn1 fi1 vs1 ll1 li1 lt1 sN1 sP1 sX1 sK1 it1 vr1 : Nat → Int32}, si_V o tch v → si_N l p w B fr fn fi vs ll li lt sN sP sX sK it vr out fr1 fn1 fi1 vs1 ll1 li1 lt1 sN1 sP1 sX1 sK1 it1 vr1 out1 → vs1 w = v → fn1 l = nI m → sN1 p = nI (q * 40 + k) → sP1 p = nI 1 → g ≤ g1 → g1 ≤ 40 → s1 + 200 * (40 - g1) ≤ s + 200 * (40 - g) + 3 * (m - a) → s2 + 200 * (40 - g1) ≤ s' + 1 + 200 * (40 - g) + 3 * (m - a) → ey_F Z ob tks pl nds res cls prp lit lsz fb tk tv opd rk rn op nm ay prt ylo yhi s2 (p + 1) l g1 v out1 sN1 sP1 sX1 sK1 it1 vr1 → ex_R post oc tc cp lc sc kc er ep cls num lnk lsz lit fb tk tv rk rl ro ra rt rp oo co sk kd s1 (l + 1) (w + 1) g1 fr1 fn1 fi1 vs1 ll1 li1 lt1) : ex_R post oc tc cp lc sc kc er ep cls num lnk lsz lit fb tk tv rk rl ro ra rt rp oo co sk kd s (l + 1) w g fr fn fi vs ll li lt := by
  obtain ⟨hl, efr, efn, efi, hit, hB, esN, esP, h0, hO, hw, hp, hg, hs, hs'⟩ := id hP
  obtain ⟨hq, hlen, hnn, erl, cX, cY, cP⟩ := id hD
  obtain ⟨y1, y2, y3⟩ := cY k hk
  have at2 : ey_at sN sP s' p l (q * 40 + k) 0 := ⟨by omega, by omega, hl, by omega, esN, esP, by omega⟩
  have F1 := yr_dn at2 (y1.trans ho) ht n0 n3 n19 n4 (by omega) hF
  have e0 : prt ((q * 40 + k) * 3) = nI (q * 40 + yp k 0) := cP k 0 hk har
  rw [e0] at F1
  have N0 : si_N l p w B fr fn fi vs ll li lt sN sP sX sK it vr out fr fn fi vs ll li lt (upd sN (p + 1) (nI (q * 40 + yp k 0))) (upd (upd sP p (nI 1)) (p + 1) 0) sX sK it vr out := si_N_sN (by omega) (si_N_sP (by omega) (si_N_sP (by omega) si_N_refl))
  refine ih _ _ _ _ _ _ _ _ _ _ _ _ _ _ _ _ _ _ _ _ (si_pre2 (k' := yp k 0) (a' := a) (b' := m) (p' := p + 1) (w' := w) (s1 := s) (s2 := s' + 1) (g1 := g) hP N0 hB efn pk_us pk_us (by omega) (by omega) hg (by omega) (by omega)) F1 ?_
  intro s1 s2 g1 v out1 fr1 fn1 fi1 vs1 ll1 li1 lt1 sN1 sP1 sX1 sK1 it1 vr1 hV hN hv hf hg1 hg2 hs1 hs2 F2
  obtain ⟨c1, c2, c3, c4⟩ := hN.2.2.2.2.2.1 p (by omega)
  refine hc hV (si_N_trans N0 (si_N_mono (by omega) (Nat.le_refl _) (fun _ h => h) hN)) hv hf ?_ ?_ hg1 hg2 hs1 hs2 F2
  · rw [c1, pk_un (by omega)]; exact esN
  · rw [c2, pk_un (by omega)]; exact pk_us
theorem si_prop1 (hE : si_E post Z oc tc cp lc sc kc er ep ob tks pl nds res cls num lnk lsz lit fb tk tv rk rl ro ra rt rp oo co sk kd prp opd rn op nm ay prt ylo yhi r0) (hOb : gr_O o cls num lnk lsz lit prp) (hD : si_D q len nn xo xa xt xp yo yn ya yp rl ro ra rt rp op nm ay prt) (hk : k < nn) {pr c : Nat} (ham : a < c) (hcl : c < len) (hpr : pr < 6) (h1 : yo k = 1) (h2 : yn k = nI pr) (h3 : xo c = 1) (h4 : xa c = nI pr) (h5 : xp c = ya k) (ih : si_Run post Z oc tc cp lc sc kc er ep ob tks pl nds res cls num lnk lsz lit fb tk tv rk rl ro ra rt rp oo co sk kd prp opd rn op nm ay prt ylo yhi o r0 l q (yp k 0) a c B 3) : si_Run post Z oc tc cp lc sc kc er ep ob tks pl nds res cls num lnk lsz lit fb tk tv rk rl ro ra rt rp oo co sk kd prp opd rn op nm ay prt ylo yhi o r0 l q k a (c + 1) B (gr_pk pr) := by
  intro s s' w g p ret out fr fn fi vs ll li lt sN sP sX sK it vr hP hF hc
  obtain ⟨hl, efr, efn, efi, hit, hB, esN, esP, h0, hO, hw, hp, hg, hs, hs'⟩ := id hP
  obtain ⟨hq, hlen, hnn, erl, cX, cY, cP⟩ := id hD
  obtain ⟨y1, y2, y3⟩ := cY k hk
  obtain ⟨x1, x2, x3, x4⟩ := cX c hcl
  refine si_first hD hk (t0 := 1) (m := c) h1 (by decide) (by decide) (by decide) (by decide) (by decide) (by rw [h1]; decide) ham (by omega) ih hP hF ?_
  intro s1 s2 g1 v out1 fr1 fn1 fi1 vs1 ll1 li1 lt1 sN1 sP1 sX1 sK1 it1 vr1 hV hN hv hf kN kP hg1 hg2 hs1 hs2 F2
  have fr1l : fr1 l = nI q := (hN.1 l (Nat.le_refl l)).1.trans efr
  have at1 : ex_at rl fr1 fn1 s1 l q c len := ⟨by omega, hl, hq, fr1l, hf, erl, by omega, hlen⟩
  have at2 : ey_at sN1 sP1 s2 p l (q * 40 + k) 1 := ⟨by omega, by omega, hl, by omega, kN, kP, by omega⟩
  have ePl : rp (q * 40 + c) = ay (q * 40 + k) := x4.trans (h5.trans y3.symm)
  obtain ⟨o1, o2, o3, o4, o5, o6⟩ := hOb
  rcases hV.2.1 rfl with e | ⟨i, hi, e⟩
  · subst e
    have E1 := yr_rd_nul at2 (y1.trans h1) (by decide) rfl F2
    exact xr_rd_nul at1 (x1.trans h3) (by omega) hv (hE 2 _ _ _ _ _ _ _ _ _ _ _ (by decide) (by decide) (by omega) (si_eo h0 (si_O_N hO hN) (by omega) ePl) (E1))
  · subst e
    obtain ⟨cc, hcc, ec⟩ := o2 i hi
    by_cases hf0 : fb (cc * 6 + pr) = 0
    · have F3 := yr_rd_ok1 at2 (y1.trans h1) (by decide) hpr (y2.trans h2) (by omega) rfl hcc ec hf0 F2
      refine xr_rd_ok1 at1 (x1.trans h3) (by omega) hpr (x2.trans h4) (by omega) hv hcc ec hf0 ?_
      have ev : (if pr < 3 then num (i * 3 + pr) else if pr = 3 then lnk i else nI (i * 2 + pr - 4)) = (if pr ≤ 3 then prp (i * 4 + pr) else nI (i * 2 + pr - 4)) := by
        by_cases p3 : pr < 3
        · rw [if_pos p3, if_pos (by omega), o3 i pr (by omega) p3]
        · rw [if_neg p3]
          by_cases p4 : pr = 3
          · rw [if_pos p4, if_pos (by omega), p4, o4 i (by omega)]
          · rw [if_neg p4, if_neg (by omega)]
      refine hc ?_ (si_N_fn (Nat.le_refl _) (si_N_vs (Nat.le_refl _) (si_N_sP (Nat.le_refl _) hN))) (pk_us.trans ev) pk_us hg1 hg2 (by omega) (by omega) F3
      by_cases p3 : pr < 3
      · rw [show gr_pk pr = 1 from if_pos p3]
        exact ⟨fun z => absurd z (by decide), fun z => absurd z (by decide), fun z => absurd z (by decide)⟩
      · by_cases p4 : pr = 3
        · rw [show gr_pk pr = 3 from (if_neg p3).trans (if_pos p4), if_pos (by omega), p4, o4 i (by omega)]
          exact ⟨fun z => absurd z (by decide), fun _ => o5 i hi, fun z => absurd z (by decide)⟩
        · rw [show gr_pk pr = 4 from (if_neg p3).trans (if_neg p4), if_neg (by omega)]
          exact ⟨fun z => absurd z (by decide), fun z => absurd z (by decide), fun _ => Or.inr ⟨_, by omega, rfl⟩⟩
    · have E1 := yr_rd_den1 at2 (y1.trans h1) (by decide) hpr (y2.trans h2) (by omega) rfl hcc ec hf0 F2
      exact xr_rd_den1 at1 (x1.trans h3) (by omega) hpr (x2.trans h4) (by omega) hv hcc ec hf0 (hE 3 _ _ _ _ _ _ _ _ _ _ _ (by decide) (by decide) (by omega) (si_eo h0 (si_O_N hO hN) (by omega) ePl) (E1))
theorem si_prop2 (hE : si_E post Z oc tc cp lc sc kc er ep ob tks pl nds res cls num lnk lsz lit fb tk tv rk rl ro ra rt rp oo co sk kd prp opd rn op nm ay prt ylo yhi r0) (hOb : gr_O o cls num lnk lsz lit prp) (hD : si_D q len nn xo xa xt xp yo yn ya yp rl ro ra rt rp op nm ay prt) (hk : k < nn) {pr c : Nat} (ham : a < c) (hcl : c < len) (hpr : pr < 6) (h1 : yo k = 2) (h2 : yn k = nI pr) (h3 : xo c = 2) (h4 : xa c = nI pr) (h5 : xp c = ya k) (ih : si_Run post Z oc tc cp lc sc kc er ep ob tks pl nds res cls num lnk lsz lit fb tk tv rk rl ro ra rt rp oo co sk kd prp opd rn op nm ay prt ylo yhi o r0 l q (yp k 0) a c B 3) : si_Run post Z oc tc cp lc sc kc er ep ob tks pl nds res cls num lnk lsz lit fb tk tv rk rl ro ra rt rp oo co sk kd prp opd rn op nm ay prt ylo yhi o r0 l q k a (c + 1) B (gr_pk pr) := by
  intro s s' w g p ret out fr fn fi vs ll li lt sN sP sX sK it vr hP hF hc
  obtain ⟨hl, efr, efn, efi, hit, hB, esN, esP, h0, hO, hw, hp, hg, hs, hs'⟩ := id hP
  obtain ⟨hq, hlen, hnn, erl, cX, cY, cP⟩ := id hD
  obtain ⟨y1, y2, y3⟩ := cY k hk
  obtain ⟨x1, x2, x3, x4⟩ := cX c hcl
  refine si_first hD hk (t0 := 2) (m := c) h1 (by decide) (by decide) (by decide) (by decide) (by decide) (by rw [h1]; decide) ham (by omega) ih hP hF ?_
  intro s1 s2 g1 v out1 fr1 fn1 fi1 vs1 ll1 li1 lt1 sN1 sP1 sX1 sK1 it1 vr1 hV hN hv hf kN kP hg1 hg2 hs1 hs2 F2
  have fr1l : fr1 l = nI q := (hN.1 l (Nat.le_refl l)).1.trans efr
  have at1 : ex_at rl fr1 fn1 s1 l q c len := ⟨by omega, hl, hq, fr1l, hf, erl, by omega, hlen⟩
  have at2 : ey_at sN1 sP1 s2 p l (q * 40 + k) 1 := ⟨by omega, by omega, hl, by omega, kN, kP, by omega⟩
  have ePl : rp (q * 40 + c) = ay (q * 40 + k) := x4.trans (h5.trans y3.symm)
  obtain ⟨o1, o2, o3, o4, o5, o6⟩ := hOb
  rcases hV.2.1 rfl with e | ⟨i, hi, e⟩
  · subst e
    have F3 := yr_rd_saf at2 (y1.trans h1) (by decide) hpr (y2.trans h2) rfl F2
    refine xr_rd_saf at1 (x1.trans h3) (by omega) hpr (x2.trans h4) hv ?_
    refine hc ?_ (si_N_fn (Nat.le_refl _) (si_N_vs (Nat.le_refl _) (si_N_sP (Nat.le_refl _) hN))) pk_us pk_us hg1 hg2 (by omega) (by omega) F3
    by_cases p3 : pr < 3
    · rw [show gr_pk pr = 1 from if_pos p3]
      exact ⟨fun z => absurd z (by decide), fun z => absurd z (by decide), fun z => absurd z (by decide)⟩
    · rw [if_neg p3]
      refine ⟨fun z => ?_, fun _ => Or.inl rfl, fun _ => Or.inl rfl⟩
      unfold gr_pk at z
      rw [if_neg p3] at z
      split at z <;> exact absurd z (by decide)
  · subst e
    obtain ⟨cc, hcc, ec⟩ := o2 i hi
    by_cases hf0 : fb (cc * 6 + pr) = 0
    · have F3 := yr_rd_ok2 at2 (y1.trans h1) (by decide) hpr (y2.trans h2) (by omega) rfl hcc ec hf0 F2
      refine xr_rd_ok2 at1 (x1.trans h3) (by omega) hpr (x2.trans h4) (by omega) hv hcc ec hf0 ?_
      have ev : (if pr < 3 then num (i * 3 + pr) else if pr = 3 then lnk i else nI (i * 2 + pr - 4)) = (if pr ≤ 3 then prp (i * 4 + pr) else nI (i * 2 + pr - 4)) := by
        by_cases p3 : pr < 3
        · rw [if_pos p3, if_pos (by omega), o3 i pr (by omega) p3]
        · rw [if_neg p3]
          by_cases p4 : pr = 3
          · rw [if_pos p4, if_pos (by omega), p4, o4 i (by omega)]
          · rw [if_neg p4, if_neg (by omega)]
      refine hc ?_ (si_N_fn (Nat.le_refl _) (si_N_vs (Nat.le_refl _) (si_N_sP (Nat.le_refl _) hN))) (pk_us.trans ev) pk_us hg1 hg2 (by omega) (by omega) F3
      by_cases p3 : pr < 3
      · rw [show gr_pk pr = 1 from if_pos p3]
        exact ⟨fun z => absurd z (by decide), fun z => absurd z (by decide), fun z => absurd z (by decide)⟩
      · by_cases p4 : pr = 3
        · rw [show gr_pk pr = 3 from (if_neg p3).trans (if_pos p4), if_pos (by omega), p4, o4 i (by omega)]
          exact ⟨fun z => absurd z (by decide), fun _ => o5 i hi, fun z => absurd z (by decide)⟩
        · rw [show gr_pk pr = 4 from (if_neg p3).trans (if_neg p4), if_neg (by omega)]
          exact ⟨fun z => absurd z (by decide), fun z => absurd z (by decide), fun _ => Or.inr ⟨_, by omega, rfl⟩⟩
    · have E1 := yr_rd_den2 at2 (y1.trans h1) (by decide) hpr (y2.trans h2) (by omega) rfl hcc ec hf0 F2
      exact xr_rd_den2 at1 (x1.trans h3) (by omega) hpr (x2.trans h4) (by omega) hv hcc ec hf0 (hE 3 _ _ _ _ _ _ _ _ _ _ _ (by decide) (by decide) (by omega) (si_eo h0 (si_O_N hO hN) (by omega) ePl) (E1))
theorem si_not (hD : si_D q len nn xo xa xt xp yo yn ya yp rl ro ra rt rp op nm ay prt) (hk : k < nn) {c : Nat} (ham : a < c) (hcl : c < len) (h1 : yo k = 12) (h3 : xo c = 12) (ih : si_Run post Z oc tc cp lc sc kc er ep ob tks pl nds res cls num lnk lsz lit fb tk tv rk rl ro ra rt rp oo co sk kd prp opd rn op nm ay prt ylo yhi o r0 l q (yp k 0) a c B 2) : si_Run post Z oc tc cp lc sc kc er ep ob tks pl nds res cls num lnk lsz lit fb tk tv rk rl ro ra rt rp oo co sk kd prp opd rn op nm ay prt ylo yhi o r0 l q k a (c + 1) B 2 := by
  intro s s' w g p ret out fr fn fi vs ll li lt sN sP sX sK it vr hP hF hc
  obtain ⟨hl, efr, efn, efi, hit, hB, esN, esP, h0, hO, hw, hp, hg, hs, hs'⟩ := id hP
  obtain ⟨hq, hlen, hnn, erl, cX, cY, cP⟩ := id hD
  obtain ⟨y1, y2, y3⟩ := cY k hk
  obtain ⟨x1, x2, x3, x4⟩ := cX c hcl
  refine si_first hD hk (t0 := 12) (m := c) h1 (by decide) (by decide) (by decide) (by decide) (by decide) (by rw [h1]; decide) ham (by omega) ih hP hF ?_
  intro s1 s2 g1 v out1 fr1 fn1 fi1 vs1 ll1 li1 lt1 sN1 sP1 sX1 sK1 it1 vr1 hV hN hv hf kN kP hg1 hg2 hs1 hs2 F2
  have fr1l : fr1 l = nI q := (hN.1 l (Nat.le_refl l)).1.trans efr
  have at1 : ex_at rl fr1 fn1 s1 l q c len := ⟨by omega, hl, hq, fr1l, hf, erl, by omega, hlen⟩
  have at2 : ey_at sN1 sP1 s2 p l (q * 40 + k) 1 := ⟨by omega, by omega, hl, by omega, kN, kP, by omega⟩
  have F3 := yr_not at2 (y1.trans h1) (by decide) F2
  refine xr_not at1 (x1.trans h3) (by omega) ?_
  refine hc ?_ (si_N_fn (Nat.le_refl _) (si_N_vs (Nat.le_refl _) (si_N_sP (Nat.le_refl _) hN))) (by rw [pk_us, hv]) pk_us hg1 hg2 (by omega) (by omega) F3
  · refine ⟨fun _ => ?_, fun z => absurd z (by decide), fun z => absurd z (by decide)⟩
    rcases hV.1 rfl with e | e
    · rw [e]; exact Or.inr (by decide)
    · rw [e]; exact Or.inl (by decide)
theorem si_neg (hD : si_D q len nn xo xa xt xp yo yn ya yp rl ro ra rt rp op nm ay prt) (hk : k < nn) {c : Nat} (ham : a < c) (hcl : c < len) (h1 : yo k = 23) (h3 : xo c = 23) (ih : si_Run post Z oc tc cp lc sc kc er ep ob tks pl nds res cls num lnk lsz lit fb tk tv rk rl ro ra rt rp oo co sk kd prp opd rn op nm ay prt ylo yhi o r0 l q (yp k 0) a c B 1) : si_Run post Z oc tc cp lc sc kc er ep ob tks pl nds res cls num lnk lsz lit fb tk tv rk rl ro ra rt rp oo co sk kd prp opd rn op nm ay prt ylo yhi o r0 l q k a (c + 1) B 1 := by
  intro s s' w g p ret out fr fn fi vs ll li lt sN sP sX sK it vr hP hF hc
  obtain ⟨hl, efr, efn, efi, hit, hB, esN, esP, h0, hO, hw, hp, hg, hs, hs'⟩ := id hP
  obtain ⟨hq, hlen, hnn, erl, cX, cY, cP⟩ := id hD
  obtain ⟨y1, y2, y3⟩ := cY k hk
  obtain ⟨x1, x2, x3, x4⟩ := cX c hcl
  refine si_first hD hk (t0 := 23) (m := c) h1 (by decide) (by decide) (by decide) (by decide) (by decide) (by rw [h1]; decide) ham (by omega) ih hP hF ?_
  intro s1 s2 g1 v out1 fr1 fn1 fi1 vs1 ll1 li1 lt1 sN1 sP1 sX1 sK1 it1 vr1 hV hN hv hf kN kP hg1 hg2 hs1 hs2 F2
  have fr1l : fr1 l = nI q := (hN.1 l (Nat.le_refl l)).1.trans efr
  have at1 : ex_at rl fr1 fn1 s1 l q c len := ⟨by omega, hl, hq, fr1l, hf, erl, by omega, hlen⟩
  have at2 : ey_at sN1 sP1 s2 p l (q * 40 + k) 1 := ⟨by omega, by omega, hl, by omega, kN, kP, by omega⟩
  have F3 := yr_neg at2 (y1.trans h1) (by decide) F2
  refine xr_neg at1 (x1.trans h3) (by omega) ?_
  refine hc ?_ (si_N_fn (Nat.le_refl _) (si_N_vs (Nat.le_refl _) (si_N_sP (Nat.le_refl _) hN))) (by rw [pk_us, hv]) pk_us hg1 hg2 (by omega) (by omega) F3
  · exact ⟨fun z => absurd z (by decide), fun z => absurd z (by decide), fun z => absurd z (by decide)⟩
end
end
section
section
variable {post : Int32 → SX → Prop} {Z : (Int32 → SY → Prop) → Prop} {oc tc cp lc sc kc er ep ob tks pl nds res : Int32} {cls num lnk lsz lit fb tk tv rk rl ro ra rt rp oo co sk kd prp opd rn op nm ay prt ylo yhi : Nat → Int32} {o r0 l : Nat} {q len nn : Nat} {xo xa xt xp yo yn ya : Nat → Int32} {yp : Nat → Nat → Nat} {B : Nat → Prop} {k a b : Nat}
theorem si_second {a' b' k' ph : Nat} {tch : Int32} (ih : si_Run post Z oc tc cp lc sc kc er ep ob tks pl nds res cls num lnk lsz lit fb tk tv rk rl ro ra rt rp oo co sk kd prp opd rn op nm ay prt ylo yhi o r0 l q k' a' b' B tch) {s s' w g p w' s1 s2 g1 : Nat} {ret out out1 : Int32} {fr fn fi vs ll li lt sN sP sX sK it vr fr1 fn1 fi1 vs1 ll1 li1 lt1 sN1 sP1 sX1 sK1 it1 vr1 : Nat → Int32} (hP : si_Pre o r0 l q k a b B lsz lit rp s s' w g p out fr fn fi ll li sN sP it vr) (hN : si_N l p w B fr fn fi vs ll li lt sN sP sX sK it vr out fr1 fn1 fi1 vs1 ll1 li1 lt1 sN1 sP1 sX1 sK1 it1 vr1 out1) (hF : ey_F Z ob tks pl nds res cls prp lit lsz fb tk tv opd rk rn op nm ay prt ylo yhi s2 (p + 2) l g1 ret out1 sN1 sP1 sX1 sK1 it1 vr1) (e1 : fn1 l = nI a') (e2 : sN1 (p + 1) = nI (q * 40 + k')) (e3 : sP1 (p + 1) = nI 0) (kN : sN1 p = nI (q * 40 + k)) (kP : sP1 p = nI ph) (hw' : w ≤ w') (h1 : w' + (b' - a') ≤ 40 * (l + 1)) (h2 : p + 1 + (b' - a') ≤ 40 * (l + 1)) (h3 : g1 ≤ 40) (h4 : s1 + 200 * (40 - g1) + 3 * (b' - a') ≤ 15000) (h5 : s2 + 200 * (40 - g1) + 3 * (b' - a') ≤ 15000)
  (hc : ∀ {s3 s4 g2 : Nat} {v out2 : Int32} {fr2 fn2 fi2 vs2 ll2 li2 lt2 sN2 sP2 sX2 sK2 it2 vr2 : Nat → Int32}, si_V o tch v → si_N l p w B fr fn fi vs ll li lt sN sP sX sK it vr out fr2 fn2 fi2 vs2 ll2 li2 lt2 sN2 sP2 sX2 sK2 it2 vr2 out2 → si_N l (p + 1) w' B fr1 fn1 fi1 vs1 ll1 li1 lt1 sN1 sP1 sX1 sK1 it1 vr1 out1 fr2 fn2 fi2 vs2 ll2 li2 lt2 sN2 sP2 sX2 sK2 it2 vr2 out2 → vs2 w' = v → fn2 l = nI b' → sN2 p = nI (q * 40 + k) → sP2 p = nI ph → g1 ≤ g2 → g2 ≤ 40 → s3 + 200 * (40 - g2) ≤ s1 + 200 * (40 - g1) + 3 * (b' - a') → s4 + 200 * (40 - g2) ≤ s2 + 200 * (40 - g1) + 3 * (b' - a') → ey_F Z ob tks pl nds res cls prp lit lsz fb tk tv opd rk rn op nm ay prt ylo yhi s4 (p + 1) l g2 v out2 sN2 sP2 sX2 sK2 it2 vr2 → ex_R post oc tc cp lc sc kc er ep cls num lnk lsz lit fb tk tv rk rl ro ra rt rp oo co sk kd s3 (l + 1) (w' + 1) g2 fr2 fn2 fi2 vs2 ll2 li2 lt2) : ex_R post oc tc cp lc sc kc er ep cls num lnk lsz lit fb tk tv rk rl ro ra rt rp oo co sk kd s1 (l + 1) w' g1 fr1 fn1 fi1 vs1 ll1 li1 lt1 := by
  obtain ⟨hl, efr, efn, efi, hit, hB, esN, esP, h0, hO, hw, hp, hg, hs, hs'⟩ := id hP
  refine ih _ _ _ _ _ _ _ _ _ _ _ _ _ _ _ _ _ _ _ _  (si_pre2 hP hN (si_B_N hB hN) e1 e2 e3 h1 h2 h3 h4 h5) hF ?_
  intro s3 s4 g2 v out2 fr2 fn2 fi2 vs2 ll2 li2 lt2 sN2 sP2 sX2 sK2 it2 vr2 hV hM hv hf hg1 hg2 hs1 hs2 F2
  obtain ⟨c1, c2, c3, c4⟩ := hM.2.2.2.2.2.1 p (by omega)
  exact hc hV (si_N_trans hN (si_N_mono (by omega) hw' (fun _ h => h) hM)) hM hv hf (c1.trans kN) (c2.trans kP) hg1 hg2 hs1 hs2 F2
theorem si_bin (hE : si_E post Z oc tc cp lc sc kc er ep ob tks pl nds res cls num lnk lsz lit fb tk tv rk rl ro ra rt rp oo co sk kd prp opd rn op nm ay prt ylo yhi r0) (hD : si_D q len nn xo xa xt xp yo yn ya yp rl ro ra rt rp op nm ay prt) (hk : k < nn) {t m c : Nat} {t1 t2 : Int32} (ham : a < m) (hmc : m < c) (hcl : c < len) (ht1 : 13 ≤ t) (ht2 : t ≤ 18) (h1 : yo k = nI t) (h3 : xo c = nI t) (h5 : xp c = ya k) (har : gr_ar (yo k) = 2) (ih1 : si_Run post Z oc tc cp lc sc kc er ep ob tks pl nds res cls num lnk lsz lit fb tk tv rk rl ro ra rt rp oo co sk kd prp opd rn op nm ay prt ylo yhi o r0 l q (yp k 0) a m B t1) (ih2 : si_Run post Z oc tc cp lc sc kc er ep ob tks pl nds res cls num lnk lsz lit fb tk tv rk rl ro ra rt rp oo co sk kd prp opd rn op nm ay prt ylo yhi o r0 l q (yp k 1) m c B t2) : si_Run post Z oc tc cp lc sc kc er ep ob tks pl nds res cls num lnk lsz lit fb tk tv rk rl ro ra rt rp oo co sk kd prp opd rn op nm ay prt ylo yhi o r0 l q k a (c + 1) B (if t ≤ 14 then 2 else 1) := by
  intro s s' w g p ret out fr fn fi vs ll li lt sN sP sX sK it vr hP hF hc
  obtain ⟨hl, efr, efn, efi, hit, hB, esN, esP, h0, hO, hw, hp, hg, hs, hs'⟩ := id hP
  obtain ⟨hq, hlen, hnn, erl, cX, cY, cP⟩ := id hD
  obtain ⟨y1, y2, y3⟩ := cY k hk
  obtain ⟨x1, x2, x3, x4⟩ := cX c hcl
  refine si_first hD hk (t0 := t) (m := m) h1 (by omega) (by omega) (by omega) (by omega) (by omega) (by omega) ham (by omega) ih1 hP hF ?_
  intro s1 s2 g1 v out1 fr1 fn1 fi1 vs1 ll1 li1 lt1 sN1 sP1 sX1 sK1 it1 vr1 hV hN hv hf kN kP hg1 hg2 hs1 hs2 F2
  have fr1l : fr1 l = nI q := (hN.1 l (Nat.le_refl l)).1.trans efr
  have at2 : ey_at sN1 sP1 s2 p l (q * 40 + k) 1 := ⟨by omega, by omega, hl, by omega, kN, kP, by omega⟩
  have F3 := yr_bl ht1 ht2 at2 (y1.trans h1) rfl (by omega) F2
  have e1 : prt ((q * 40 + k) * 3 + 1) = nI (q * 40 + yp k 1) := cP k 1 hk (by omega)
  rw [e1] at F3
  refine si_second ih2 hP (si_N_sN (by omega) (si_N_sP (by omega) (si_N_sP (by omega) (si_N_sX (Nat.le_refl _) hN)))) F3 hf pk_us pk_us (by rw [pk_un (by omega)]; exact kN) (by rw [pk_un (by omega)]; exact pk_us) (w' := w + 1) (by omega) (by omega) (by omega) hg2 (by omega) (by omega) ?_
  intro s3 s4 g2 v2 out2 fr2 fn2 fi2 vs2 ll2 li2 lt2 sN2 sP2 sX2 sK2 it2 vr2 hV2 hN2 hM hv2 hf2 kN2 kP2 hg3 hg4 hs3 hs4 F4
  have fr2l : fr2 l = nI q := (hN2.1 l (Nat.le_refl l)).1.trans efr
  have at3 : ex_at rl fr2 fn2 s3 l q c len := ⟨by omega, hl, hq, fr2l, hf2, erl, by omega, hlen⟩
  have at4 : ey_at sN2 sP2 s4 p l (q * 40 + k) 2 := ⟨by omega, by omega, hl, by omega, kN2, kP2, by omega⟩
  have ePl : rp (q * 40 + c) = ay (q * 40 + k) := x4.trans (h5.trans y3.symm)
  have eX : sX2 p = v := (hM.2.2.2.2.2.1 p (by omega)).2.2.1.trans pk_us
  have eL : vs2 w = v := (hM.2.2.1 w (by omega)).trans hv
  by_cases hz : t = 18 ∧ v2 = 0
  · obtain ⟨hz1, hz2⟩ := hz
    subst hz1
    have E1 := yr_div at4 (y1.trans h1) rfl hz2 F4
    exact xr_div at3 (x1.trans h3) (by omega) (hv2.trans hz2) (hE 4 _ _ _ _ _ _ _ _ _ _ _ (by decide) (by decide) (by omega) (si_eo h0 (si_O_N hO hN2) (by omega) ePl) E1)
  · have F5 := yr_br ht1 ht2 at4 (y1.trans h1) rfl hz F4
    rw [eX] at F5
    refine xr_bin at3 ht1 ht2 (x1.trans h3) (by omega) (by rw [hv2]; exact hz) ?_
    rw [eL, hv2]
    refine hc ?_ (si_N_fn (Nat.le_refl _) (si_N_vs (Nat.le_refl _) (si_N_sP (Nat.le_refl _) hN2))) pk_us pk_us (by omega) hg4 (by omega) (by omega) F5
    by_cases z : t ≤ 14
    · rw [if_pos z]
      refine ⟨fun _ => ?_, fun y => absurd y (by decide), fun y => absurd y (by decide)⟩
      have z2 : t = 13 ∨ t = 14 := by omega
      rcases z2 with rfl | rfl
      · by_cases y : v = v2
        · exact Or.inr (if_pos y)
        · exact Or.inl (if_neg y)
      · by_cases y : v2 ≤ v
        · exact Or.inl (if_pos y)
        · exact Or.inr (if_neg y)
    · rw [if_neg z]
      exact ⟨fun z => absurd z (by decide), fun z => absurd z (by decide), fun z => absurd z (by decide)⟩
theorem si_and (hD : si_D q len nn xo xa xt xp yo yn ya yp rl ro ra rt rp op nm ay prt) (hk : k < nn) {m : Nat} (ham : a < m) (hmb : m + 1 < b) (hbl : b ≤ len) (h1 : yo k = 11) (h3 : xo m = 11) (h4 : xt m = nI b) (ih1 : si_Run post Z oc tc cp lc sc kc er ep ob tks pl nds res cls num lnk lsz lit fb tk tv rk rl ro ra rt rp oo co sk kd prp opd rn op nm ay prt ylo yhi o r0 l q (yp k 0) a m B 2) (ih2 : si_Run post Z oc tc cp lc sc kc er ep ob tks pl nds res cls num lnk lsz lit fb tk tv rk rl ro ra rt rp oo co sk kd prp opd rn op nm ay prt ylo yhi o r0 l q (yp k 1) (m + 1) b B 2) : si_Run post Z oc tc cp lc sc kc er ep ob tks pl nds res cls num lnk lsz lit fb tk tv rk rl ro ra rt rp oo co sk kd prp opd rn op nm ay prt ylo yhi o r0 l q k a b B 2 := by
  intro s s' w g p ret out fr fn fi vs ll li lt sN sP sX sK it vr hP hF hc
  obtain ⟨hl, efr, efn, efi, hit, hB, esN, esP, h0, hO, hw, hp, hg, hs, hs'⟩ := id hP
  obtain ⟨hq, hlen, hnn, erl, cX, cY, cP⟩ := id hD
  obtain ⟨y1, y2, y3⟩ := cY k hk
  obtain ⟨x1, x2, x3, x4⟩ := cX m (by omega)
  refine si_first hD hk (t0 := 11) (m := m) h1 (by decide) (by decide) (by decide) (by decide) (by decide) (by rw [h1]; decide) ham (by omega) ih1 hP hF ?_
  intro s1 s2 g1 v out1 fr1 fn1 fi1 vs1 ll1 li1 lt1 sN1 sP1 sX1 sK1 it1 vr1 hV hN hv hf kN kP hg1 hg2 hs1 hs2 F2
  have fr1l : fr1 l = nI q := (hN.1 l (Nat.le_refl l)).1.trans efr
  have at1 : ex_at rl fr1 fn1 s1 l q m len := ⟨by omega, hl, hq, fr1l, hf, erl, by omega, hlen⟩
  have at2 : ey_at sN1 sP1 s2 p l (q * 40 + k) 1 := ⟨by omega, by omega, hl, by omega, kN, kP, by omega⟩
  have hst : ∀ e : v = 0, ex_R post oc tc cp lc sc kc er ep cls num lnk lsz lit fb tk tv rk rl ro ra rt rp oo co sk kd s1 (l + 1) (w + 1) g1 fr1 fn1 fi1 vs1 ll1 li1 lt1 := by
    intro e
    have F3 := yr_and0 at2 (y1.trans h1) rfl e F2
    refine xr_and0 at1 (x1.trans h3) (by omega) (hv.trans e) ?_
    exact hc hV (si_N_fn (Nat.le_refl _) (si_N_fn (Nat.le_refl _) (si_N_sP (Nat.le_refl _) hN))) hv (by rw [pk_us]; exact x3.trans h4) hg1 hg2 (by omega) (by omega) F3
  have hgo : ∀ e : v = 1, ex_R post oc tc cp lc sc kc er ep cls num lnk lsz lit fb tk tv rk rl ro ra rt rp oo co sk kd s1 (l + 1) (w + 1) g1 fr1 fn1 fi1 vs1 ll1 li1 lt1 := by
    intro e
    have F3 := yr_and1 at2 (y1.trans h1) rfl (by omega) (by rw [e]; decide) F2
    have e1 : prt ((q * 40 + k) * 3 + 1) = nI (q * 40 + yp k 1) := cP k 1 hk (by rw [h1]; decide)
    rw [e1] at F3
    refine xr_and1 at1 (x1.trans h3) (by omega) (by rw [hv, e]; decide) ?_
    refine si_second ih2 hP (si_N_fn (Nat.le_refl _) (si_N_sN (by omega) (si_N_sP (by omega) (si_N_sP (by omega) hN)))) F3 pk_us pk_us pk_us (by rw [pk_un (by omega)]; exact kN) (by rw [pk_un (by omega)]; exact pk_us) (Nat.le_refl _) (by omega) (by omega) hg2 (by omega) (by omega) ?_
    intro s3 s4 g2 v2 out2 fr2 fn2 fi2 vs2 ll2 li2 lt2 sN2 sP2 sX2 sK2 it2 vr2 hV2 hN2 hM hv2 hf2 kN2 kP2 hg3 hg4 hs3 hs4 F4
    have at4 : ey_at sN2 sP2 s4 p l (q * 40 + k) 2 := ⟨by omega, by omega, hl, by omega, kN2, kP2, by omega⟩
    have F5 := yr_ch11 at4 (y1.trans h1) rfl F4
    exact hc hV2 (si_N_sP (Nat.le_refl _) hN2) hv2 hf2 (by omega) hg4 (by omega) (by omega) F5
  rcases hV.1 rfl with e | e
  · exact hst e
  · exact hgo e
theorem si_or (hD : si_D q len nn xo xa xt xp yo yn ya yp rl ro ra rt rp op nm ay prt) (hk : k < nn) {m : Nat} (ham : a < m) (hmb : m + 1 < b) (hbl : b ≤ len) (h1 : yo k = 10) (h3 : xo m = 10) (h4 : xt m = nI b) (ih1 : si_Run post Z oc tc cp lc sc kc er ep ob tks pl nds res cls num lnk lsz lit fb tk tv rk rl ro ra rt rp oo co sk kd prp opd rn op nm ay prt ylo yhi o r0 l q (yp k 0) a m B 2) (ih2 : si_Run post Z oc tc cp lc sc kc er ep ob tks pl nds res cls num lnk lsz lit fb tk tv rk rl ro ra rt rp oo co sk kd prp opd rn op nm ay prt ylo yhi o r0 l q (yp k 1) (m + 1) b B 2) : si_Run post Z oc tc cp lc sc kc er ep ob tks pl nds res cls num lnk lsz lit fb tk tv rk rl ro ra rt rp oo co sk kd prp opd rn op nm ay prt ylo yhi o r0 l q k a b B 2 := by
  intro s s' w g p ret out fr fn fi vs ll li lt sN sP sX sK it vr hP hF hc
  obtain ⟨hl, efr, efn, efi, hit, hB, esN, esP, h0, hO, hw, hp, hg, hs, hs'⟩ := id hP
  obtain ⟨hq, hlen, hnn, erl, cX, cY, cP⟩ := id hD
  obtain ⟨y1, y2, y3⟩ := cY k hk
  obtain ⟨x1, x2, x3, x4⟩ := cX m (by omega)
  refine si_first hD hk (t0 := 10) (m := m) h1 (by decide) (by decide) (by decide) (by decide) (by decide) (by rw [h1]; decide) ham (by omega) ih1 hP hF ?_
  intro s1 s2 g1 v out1 fr1 fn1 fi1 vs1 ll1 li1 lt1 sN1 sP1 sX1 sK1 it1 vr1 hV hN hv hf kN kP hg1 hg2 hs1 hs2 F2
  have fr1l : fr1 l = nI q := (hN.1 l (Nat.le_refl l)).1.trans efr
  have at1 : ex_at rl fr1 fn1 s1 l q m len := ⟨by omega, hl, hq, fr1l, hf, erl, by omega, hlen⟩
  have at2 : ey_at sN1 sP1 s2 p l (q * 40 + k) 1 := ⟨by omega, by omega, hl, by omega, kN, kP, by omega⟩
  have hst : ∀ e : v = 1, ex_R post oc tc cp lc sc kc er ep cls num lnk lsz lit fb tk tv rk rl ro ra rt rp oo co sk kd s1 (l + 1) (w + 1) g1 fr1 fn1 fi1 vs1 ll1 li1 lt1 := by
    intro e
    have F3 := yr_or1 at2 (y1.trans h1) rfl e F2
    refine xr_or1 at1 (x1.trans h3) (by omega) (by rw [hv, e]; decide) ?_
    exact hc hV (si_N_fn (Nat.le_refl _) (si_N_fn (Nat.le_refl _) (si_N_sP (Nat.le_refl _) hN))) hv (by rw [pk_us]; exact x3.trans h4) hg1 hg2 (by omega) (by omega) F3
  have hgo : ∀ e : v = 0, ex_R post oc tc cp lc sc kc er ep cls num lnk lsz lit fb tk tv rk rl ro ra rt rp oo co sk kd s1 (l + 1) (w + 1) g1 fr1 fn1 fi1 vs1 ll1 li1 lt1 := by
    intro e
    have F3 := yr_or0 at2 (y1.trans h1) rfl (by omega) (by rw [e]; decide) F2
    have e1 : prt ((q * 40 + k) * 3 + 1) = nI (q * 40 + yp k 1) := cP k 1 hk (by rw [h1]; decide)
    rw [e1] at F3
    refine xr_or0 at1 (x1.trans h3) (by omega) (hv.trans e) ?_
    refine si_second ih2 hP (si_N_fn (Nat.le_refl _) (si_N_sN (by omega) (si_N_sP (by omega) (si_N_sP (by omega) hN)))) F3 pk_us pk_us pk_us (by rw [pk_un (by omega)]; exact kN) (by rw [pk_un (by omega)]; exact pk_us) (Nat.le_refl _) (by omega) (by omega) hg2 (by omega) (by omega) ?_
    intro s3 s4 g2 v2 out2 fr2 fn2 fi2 vs2 ll2 li2 lt2 sN2 sP2 sX2 sK2 it2 vr2 hV2 hN2 hM hv2 hf2 kN2 kP2 hg3 hg4 hs3 hs4 F4
    have at4 : ey_at sN2 sP2 s4 p l (q * 40 + k) 2 := ⟨by omega, by omega, hl, by omega, kN2, kP2, by omega⟩
    have F5 := yr_ch10 at4 (y1.trans h1) rfl F4
    exact hc hV2 (si_N_sP (Nat.le_refl _) hN2) hv2 hf2 (by omega) hg4 (by omega) (by omega) F5
  rcases hV.1 rfl with e | e
  · exact hgo e
  · exact hst e
theorem si_if (hD : si_D q len nn xo xa xt xp yo yn ya yp rl ro ra rt rp op nm ay prt) (hk : k < nn) {m m2 : Nat} {t : Int32} (ham : a < m) (hm1 : m + 1 < m2) (hm2 : m2 + 1 < b) (hbl : b ≤ len) (h1 : yo k = 8) (h3 : xo m = 8) (h4 : xt m = nI (m2 + 1)) (h5 : xo m2 = 9) (h6 : xt m2 = nI b) (ih1 : si_Run post Z oc tc cp lc sc kc er ep ob tks pl nds res cls num lnk lsz lit fb tk tv rk rl ro ra rt rp oo co sk kd prp opd rn op nm ay prt ylo yhi o r0 l q (yp k 0) a m B 2) (ih2 : si_Run post Z oc tc cp lc sc kc er ep ob tks pl nds res cls num lnk lsz lit fb tk tv rk rl ro ra rt rp oo co sk kd prp opd rn op nm ay prt ylo yhi o r0 l q (yp k 1) (m + 1) m2 B t) (ih3 : si_Run post Z oc tc cp lc sc kc er ep ob tks pl nds res cls num lnk lsz lit fb tk tv rk rl ro ra rt rp oo co sk kd prp opd rn op nm ay prt ylo yhi o r0 l q (yp k 2) (m2 + 1) b B t) : si_Run post Z oc tc cp lc sc kc er ep ob tks pl nds res cls num lnk lsz lit fb tk tv rk rl ro ra rt rp oo co sk kd prp opd rn op nm ay prt ylo yhi o r0 l q k a b B t := by
  intro s s' w g p ret out fr fn fi vs ll li lt sN sP sX sK it vr hP hF hc
  obtain ⟨hl, efr, efn, efi, hit, hB, esN, esP, h0, hO, hw, hp, hg, hs, hs'⟩ := id hP
  obtain ⟨hq, hlen, hnn, erl, cX, cY, cP⟩ := id hD
  obtain ⟨y1, y2, y3⟩ := cY k hk
  obtain ⟨x1, x2, x3, x4⟩ := cX m (by omega)
  obtain ⟨z1, z2, z3, z4⟩ := cX m2 (by omega)
  refine si_first hD hk (t0 := 8) (m := m) h1 (by decide) (by decide) (by decide) (by decide) (by decide) (by rw [h1]; decide) ham (by omega) ih1 hP hF ?_
  intro s1 s2 g1 v out1 fr1 fn1 fi1 vs1 ll1 li1 lt1 sN1 sP1 sX1 sK1 it1 vr1 hV hN hv hf kN kP hg1 hg2 hs1 hs2 F2
  have fr1l : fr1 l = nI q := (hN.1 l (Nat.le_refl l)).1.trans efr
  have at1 : ex_at rl fr1 fn1 s1 l q m len := ⟨by omega, hl, hq, fr1l, hf, erl, by omega, hlen⟩
  have at2 : ey_at sN1 sP1 s2 p l (q * 40 + k) 1 := ⟨by omega, by omega, hl, by omega, kN, kP, by omega⟩
  rcases hV.1 rfl with e | e
  · have F3 := yr_if0 at2 (y1.trans h1) rfl (by omega) (by rw [e]; decide) F2
    have e1 : prt ((q * 40 + k) * 3 + 2) = nI (q * 40 + yp k 2) := cP k 2 hk (by rw [h1]; decide)
    rw [e1] at F3
    refine xr_ask0 at1 (x1.trans h3) (by omega) (hv.trans e) ?_
    refine si_second ih3 hP (si_N_fn (Nat.le_refl _) (si_N_fn (Nat.le_refl _) (si_N_sN (by omega) (si_N_sP (by omega) (si_N_sP (by omega) hN))))) F3 (by rw [pk_us]; exact x3.trans h4) pk_us pk_us (by rw [pk_un (by omega)]; exact kN) (by rw [pk_un (by omega)]; exact pk_us) (Nat.le_refl _) (by omega) (by omega) hg2 (by omega) (by omega) ?_
    intro s3 s4 g2 v2 out2 fr2 fn2 fi2 vs2 ll2 li2 lt2 sN2 sP2 sX2 sK2 it2 vr2 hV2 hN2 hM hv2 hf2 kN2 kP2 hg3 hg4 hs3 hs4 F4
    have at4 : ey_at sN2 sP2 s4 p l (q * 40 + k) 2 := ⟨by omega, by omega, hl, by omega, kN2, kP2, by omega⟩
    have F5 := yr_ch8 at4 (y1.trans h1) rfl F4
    exact hc hV2 (si_N_sP (Nat.le_refl _) hN2) hv2 hf2 (by omega) hg4 (by omega) (by omega) F5
  · have F3 := yr_if1 at2 (y1.trans h1) rfl (by omega) e F2
    have e1 : prt ((q * 40 + k) * 3 + 1) = nI (q * 40 + yp k 1) := cP k 1 hk (by rw [h1]; decide)
    rw [e1] at F3
    refine xr_ask1 at1 (x1.trans h3) (by omega) (by rw [hv, e]; decide) ?_
    refine si_second ih2 hP (si_N_fn (Nat.le_refl _) (si_N_sN (by omega) (si_N_sP (by omega) (si_N_sP (by omega) hN)))) F3 pk_us pk_us pk_us (by rw [pk_un (by omega)]; exact kN) (by rw [pk_un (by omega)]; exact pk_us) (Nat.le_refl _) (by omega) (by omega) hg2 (by omega) (by omega) ?_
    intro s3 s4 g2 v2 out2 fr2 fn2 fi2 vs2 ll2 li2 lt2 sN2 sP2 sX2 sK2 it2 vr2 hV2 hN2 hM hv2 hf2 kN2 kP2 hg3 hg4 hs3 hs4 F4
    have fr2l : fr2 l = nI q := (hN2.1 l (Nat.le_refl l)).1.trans efr
    have at3 : ex_at rl fr2 fn2 s3 l q m2 len := ⟨by omega, hl, hq, fr2l, hf2, erl, by omega, hlen⟩
    have at4 : ey_at sN2 sP2 s4 p l (q * 40 + k) 2 := ⟨by omega, by omega, hl, by omega, kN2, kP2, by omega⟩
    have F5 := yr_ch8 at4 (y1.trans h1) rfl F4
    refine xr_col at3 (z1.trans h5) ?_
    exact hc hV2 (si_N_fn (Nat.le_refl _) (si_N_fn (Nat.le_refl _) (si_N_sP (Nat.le_refl _) hN2))) hv2 (by rw [pk_us]; exact z3.trans h6) (by omega) hg4 (by omega) (by omega) F5
theorem si_call (hE : si_E post Z oc tc cp lc sc kc er ep ob tks pl nds res cls num lnk lsz lit fb tk tv rk rl ro ra rt rp oo co sk kd prp opd rn op nm ay prt ylo yhi r0) (ho8 : o ≤ 8) (hD : si_D q len nn xo xa xt xp yo yn ya yp rl ro ra rt rp op nm ay prt) (hk : k < nn) {r c : Nat} {t : Int32} (ham : a < c) (hcl : c < len) (hr6 : r < 6) (h1 : yo k = 5) (h2 : yn k = nI r) (h3 : xo c = 5) (h4 : xa c = nI r) (h5 : xp c = ya k) (hR : l < 4 → ∃ lr, 0 < lr ∧ lr ≤ 40 ∧ rl r = nI lr ∧ si_Run post Z oc tc cp lc sc kc er ep ob tks pl nds res cls num lnk lsz lit fb tk tv rk rl ro ra rt rp oo co sk kd prp opd rn op nm ay prt ylo yhi o r0 (l + 1) r 0 0 lr (fun _ => False) t) (ih1 : si_Run post Z oc tc cp lc sc kc er ep ob tks pl nds res cls num lnk lsz lit fb tk tv rk rl ro ra rt rp oo co sk kd prp opd rn op nm ay prt ylo yhi o r0 l q (yp k 0) a c B 3) : si_Run post Z oc tc cp lc sc kc er ep ob tks pl nds res cls num lnk lsz lit fb tk tv rk rl ro ra rt rp oo co sk kd prp opd rn op nm ay prt ylo yhi o r0 l q k a (c + 1) B t := by
  intro s s' w g p ret out fr fn fi vs ll li lt sN sP sX sK it vr hP hF hc
  obtain ⟨hl, efr, efn, efi, hit, hB, esN, esP, h0, hO, hw, hp, hg, hs, hs'⟩ := id hP
  obtain ⟨hq, hlen, hnn, erl, cX, cY, cP⟩ := id hD
  obtain ⟨y1, y2, y3⟩ := cY k hk
  obtain ⟨x1, x2, x3, x4⟩ := cX c hcl
  refine si_first hD hk (t0 := 5) (m := c) h1 (by decide) (by decide) (by decide) (by decide) (by decide) (by rw [h1]; decide) ham (by omega) ih1 hP hF ?_
  intro s1 s2 g1 v out1 fr1 fn1 fi1 vs1 ll1 li1 lt1 sN1 sP1 sX1 sK1 it1 vr1 hV hN hv hf kN kP hg1 hg2 hs1 hs2 F2
  have fr1l : fr1 l = nI q := (hN.1 l (Nat.le_refl l)).1.trans efr
  have at1 : ex_at rl fr1 fn1 s1 l q c len := ⟨by omega, hl, hq, fr1l, hf, erl, by omega, hlen⟩
  have at2 : ey_at sN1 sP1 s2 p l (q * 40 + k) 1 := ⟨by omega, by omega, hl, by omega, kN, kP, by omega⟩
  have ePl : rp (q * 40 + c) = ay (q * 40 + k) := x4.trans (h5.trans y3.symm)
  rcases hV.2.1 rfl with e | ⟨i, hi, e⟩
  · subst e
    have E1 := yr_cl_nul at2 (y1.trans h1) rfl rfl F2
    exact xr_cl_nul at1 (x1.trans h3) (by omega) hv (hE 2 _ _ _ _ _ _ _ _ _ _ _ (by decide) (by decide) (by omega) (si_eo h0 (si_O_N hO hN) (by omega) ePl) E1)
  · subst e
    by_cases hl4 : l = 4
    · have E1 := yr_cl_deep at2 (y1.trans h1) rfl (i := i) (by omega) rfl hl4 F2
      exact xr_cl_deep at1 (x1.trans h3) (i := i) (by omega) (by omega) hv hl4 (hE 5 _ _ _ _ _ _ _ _ _ _ _ (by decide) (by decide) (by omega) (si_eo h0 (si_O_N hO hN) (by omega) ePl) E1)
    · by_cases hg40 : g1 = 40
      · have E1 := yr_cl_stop at2 (y1.trans h1) rfl (i := i) (by omega) rfl (by omega) hg40 F2
        exact xr_cl_stop at1 (x1.trans h3) (i := i) (by omega) (by omega) hv (by omega) hg40 (hE 6 _ _ _ _ _ _ _ _ _ _ _ (by decide) (by decide) (by omega) (si_eo h0 (si_O_N hO hN) (by omega) ePl) E1)
      · obtain ⟨lr, hlr0, hlr, elr, ihr⟩ := hR (by omega)
        have F3 := yr_cl_ok at2 (y1.trans h1) rfl (i := i) (by omega) rfl (by omega) (by omega) hr6 (y2.trans h2) (by omega) F2
        refine xr_cl_ok at1 (x1.trans h3) (i := i) (by omega) (by omega) hv (by omega) (by omega) ?_
        rw [x2.trans h4]
        obtain ⟨jo, hjo, ejo1, ejo2⟩ := si_eo (c := c) h0 (si_O_N hO hN) (by omega) ePl
        have hPr : si_Pre o r0 (l + 1) r 0 0 lr (fun _ => False) lsz lit rp (s1 + 1) (s2 + 1) w (g1 + 1) (p + 1) (if l = 0 then ay (q * 40 + k) else out1) (upd fr1 (l + 1) (nI r)) (upd (upd fn1 l (nI (c + 1))) (l + 1) 0) (upd fi1 (l + 1) (nI i)) ll1 li1 (upd sN1 (p + 1) (nI (r * 40))) (upd (upd sP1 p (nI 2)) (p + 1) 0) (upd it1 (l + 1) (nI i)) vr1 := by
          refine ⟨by omega, pk_us, pk_us, pk_us.trans pk_us.symm, ⟨i, hi, pk_us⟩, fun v hv z => absurd z id, pk_us, pk_us, fun z => absurd z (by omega), fun _ => ⟨jo, hjo, ?_, ejo2.symm⟩, by omega, by omega, by omega, by omega, by omega⟩
          rw [pk_un (by omega)]; exact ejo1
        refine ihr _ _ _ _ _ _ _ _ _ _ _ _ _ _ _ _ _ _ _ _  hPr F3 ?_
        intro s3 s4 g2 v2 out2 fr2 fn2 fi2 vs2 ll2 li2 lt2 sN2 sP2 sX2 sK2 it2 vr2 hV2 hM hv2 hf2 hg3 hg4 hs3 hs4 F4
        obtain ⟨c1, c2, c3, c4⟩ := hM.2.2.2.2.2.1 p (by omega)
        have at4 : ey_at sN2 sP2 s4 p (l + 1) (q * 40 + k) 2 := ⟨by omega, by omega, by omega, by omega, by rw [c1, pk_un (by omega)]; exact kN, by rw [c2, pk_un (by omega)]; exact pk_us, by omega⟩
        have F5 := yr_cl_ret at4 (y1.trans h1) rfl (by omega) F4
        refine xr_ret (q := r) (len := lr) (by omega) (by omega) (by omega) hr6 ((hM.1 (l + 1) (Nat.le_refl _)).1.trans pk_us) elr hlr hf2 ?_
        have NA : si_N l p w B fr fn fi vs ll li lt sN sP sX sK it vr out (upd fr1 (l + 1) (nI r)) (upd (upd fn1 l (nI (c + 1))) (l + 1) 0) (upd fi1 (l + 1) (nI i)) vs1 ll1 li1 lt1 (upd sN1 (p + 1) (nI (r * 40))) (upd (upd sP1 p (nI 2)) (p + 1) 0) sX1 sK1 (upd it1 (l + 1) (nI i)) vr1 (if l = 0 then ay (q * 40 + k) else out1) :=
          si_N_out (fun z => if_neg (by omega)) (si_N_it (by omega) (si_N_sP (by omega) (si_N_sP (by omega) (si_N_sN (by omega) (si_N_fi (by omega) (si_N_fn (by omega) (si_N_fn (Nat.le_refl _) (si_N_fr (by omega) hN))))))))
        refine hc hV2 (si_N_sP (Nat.le_refl _) (si_N_trans NA (si_N_up (by omega) (Nat.le_refl _) hM))) hv2 ?_ (by omega) hg4 (by omega) (by omega) F5
        rw [hM.2.1 l (by omega), pk_un (by omega)]; exact pk_us
end
end
section
section
variable {post : Int32 → SX → Prop} {Z : (Int32 → SY → Prop) → Prop} {oc tc cp lc sc kc er ep ob tks pl nds res : Int32} {cls num lnk lsz lit fb tk tv rk rl ro ra rt rp oo co sk kd prp opd rn op nm ay prt ylo yhi : Nat → Int32} {o r0 l : Nat} {q len nn : Nat} {xo xa xt xp yo yn ya : Nat → Int32} {yp : Nat → Nat → Nat} {B : Nat → Prop} {k a b : Nat}
theorem si_dec {t : Nat} {x : Int32} (ht : t = 20 ∨ t = 21 ∨ t = 22) (hx : t ≠ 22 → x = 0 ∨ x = 1) : gr_dec t x ↔ ey_dec t x := by
  unfold gr_dec ey_dec
  constructor
  · rintro (⟨z, y⟩ | ⟨z, y⟩)
    · exact Or.inl ⟨z, (hx (by omega)).resolve_left y⟩
    · exact Or.inr ⟨z, y⟩
  · rintro (⟨z, y⟩ | ⟨z, y⟩)
    · exact Or.inl ⟨z, by rw [y]; decide⟩
    · exact Or.inr ⟨z, y⟩
theorem si_tal {t : Nat} {x : Int32} (hx : t ≠ 22 → x = 0 ∨ x = 1) : si_V o (if t = 22 then 1 else 2) x := by
  by_cases z : t = 22
  · rw [if_pos z]; exact ⟨fun y => absurd y (by decide), fun y => absurd y (by decide), fun y => absurd y (by decide)⟩
  · rw [if_neg z]; exact ⟨fun _ => hx z, fun y => absurd y (by decide), fun y => absurd y (by decide)⟩
theorem si_round (hE : si_E post Z oc tc cp lc sc kc er ep ob tks pl nds res cls num lnk lsz lit fb tk tv rk rl ro ra rt rp oo co sk kd prp opd rn op nm ay prt ylo yhi r0) (hD : si_D q len nn xo xa xt xp yo yn ya yp rl ro ra rt rp op nm ay prt) (hk : k < nn) {t u m c : Nat} (ht : t = 20 ∨ t = 21 ∨ t = 22) (hu : u < 3) (ham : a < m) (hmc : m + 1 < c) (hcl : c < len) (h1 : yo k = nI t) (h2 : yn k = nI u) (hnB : ¬ B u) (h3 : xo m = nI t) (h4 : xa m = nI u) (h5 : xt m = nI (c + 1)) (h6 : xp m = ya k) (h7 : xo c = 24) (h8 : xa c = nI m) (h9 : xp c = ya k) (ihb : si_Run post Z oc tc cp lc sc kc er ep ob tks pl nds res cls num lnk lsz lit fb tk tv rk rl ro ra rt rp oo co sk kd prp opd rn op nm ay prt ylo yhi o r0 l q (yp k 1) (m + 1) c (fun x => x = u ∨ B x) ((if t = 22 then 1 else 2))) {s s' w g p : Nat} {out : Int32} {fr fn fi vs ll li lt sN sP sX sK it vr : Nat → Int32} (hP : si_Pre o r0 l q k a (c + 1) B lsz lit rp s s' w g p out fr fn fi ll li sN sP it vr) (har : gr_ar (yo k) = 2)
  (hc : ∀ {s1 s2 g1 : Nat} {v out1 : Int32} {fr1 fn1 fi1 vs1 ll1 li1 lt1 sN1 sP1 sX1 sK1 it1 vr1 : Nat → Int32}, si_V o (if t = 22 then 1 else 2) v → si_N l p w B fr fn fi vs ll li lt sN sP sX sK it vr out fr1 fn1 fi1 vs1 ll1 li1 lt1 sN1 sP1 sX1 sK1 it1 vr1 out1 → vs1 w = v → fn1 l = nI (c + 1) → g ≤ g1 → g1 ≤ 40 → s1 + 200 * (40 - g1) ≤ s + 200 * (40 - g) + 3 * (c + 1 - a) → s2 + 200 * (40 - g1) ≤ s' + 200 * (40 - g) + 3 * (c + 1 - a) → ey_F Z ob tks pl nds res cls prp lit lsz fb tk tv opd rk rn op nm ay prt ylo yhi s2 p l g1 v out1 sN1 sP1 sX1 sK1 it1 vr1 → ex_R post oc tc cp lc sc kc er ep cls num lnk lsz lit fb tk tv rk rl ro ra rt rp oo co sk kd s1 (l + 1) (w + 1) g1 fr1 fn1 fi1 vs1 ll1 li1 lt1) {z a0 : Nat} (ha0 : a0 < 16) (hz : lsz a0 = nI z) (hz4 : z ≤ 4) : ∀ (n j : Nat), j + n + 1 = z → ∀ (s1 s2 g1 : Nat) (ret1 out1 : Int32) (fr1 fn1 fi1 vs1 ll1 li1 lt1 sN1 sP1 sX1 sK1 it1 vr1 : Nat → Int32), si_N l p w B fr fn fi vs ll li lt sN sP sX sK it vr out fr1 fn1 fi1 vs1 ll1 li1 lt1 sN1 sP1 sX1 sK1 it1 vr1 out1 → fn1 l = nI (m + 1) → ll1 (l * 3 + u) = nI a0 → li1 (l * 3 + u) = nI j → vr1 (l * 3 + u) = lit (a0 * 4 + j) → sN1 p = nI (q * 40 + k) → sP1 p = nI (j + 2) → sX1 p = nI a0 → sK1 p = lt1 (l * 3 + u) → sN1 (p + 1) = nI (q * 40 + yp k 1) → sP1 (p + 1) = nI 0 → g ≤ g1 → g1 ≤ 40 → s1 + 200 * (40 - g1) + 3 * (c - (m + 1)) + 1 ≤ s + 200 * (40 - g) + 3 * (c + 1 - a) → s2 + 200 * (40 - g1) + 3 * (c - (m + 1)) + 1 ≤ s' + 200 * (40 - g) + 3 * (c + 1 - a) → ey_F Z ob tks pl nds res cls prp lit lsz fb tk tv opd rk rn op nm ay prt ylo yhi s2 (p + 2) l g1 ret1 out1 sN1 sP1 sX1 sK1 it1 vr1 → ex_R post oc tc cp lc sc kc er ep cls num lnk lsz lit fb tk tv rk rl ro ra rt rp oo co sk kd s1 (l + 1) w g1 fr1 fn1 fi1 vs1 ll1 li1 lt1 := by
  obtain ⟨hl, efr, efn, efi, hit, hB, esN, esP, h0, hO, hw, hp, hg, hs, hs'⟩ := id hP
  obtain ⟨hq, hlen, hnn, erl, cX, cY, cP⟩ := id hD
  obtain ⟨y1, y2, y3⟩ := cY k hk
  obtain ⟨x1, x2, x3, x4⟩ := cX c hcl
  obtain ⟨z1, z2, z3, z4⟩ := cX m (by omega)
  have ePl : rp (q * 40 + c) = ay (q * 40 + k) := x4.trans (h9.trans y3.symm)
  have e1 : prt ((q * 40 + k) * 3 + 1) = nI (q * 40 + yp k 1) := cP k 1 hk (by omega)
  intro n
  induction n with
  | zero => ?_
  | succ n ihn => ?_
  all_goals
    intro j hj s1 s2 g1 ret1 out1 fr1 fn1 fi1 vs1 ll1 li1 lt1 sN1 sP1 sX1 sK1 it1 vr1 hN hf el ei ev kN kP kX kK bN bP hg1 hg2 hs1 hs2 F1
    have hB' : si_B lsz lit ll1 li1 vr1 l (fun x => x = u ∨ B x) := by
      intro x hx hxB
      by_cases xu : x = u
      · subst xu
        exact ⟨a0, j, z, ha0, hz4, by omega, hz, el, ei, ev⟩
      · exact si_B_N hB hN x hx (hxB.resolve_left xu)
    refine ihb _ _ _ _ _ _ _ _ _ _ _ _ _ _ _ _ _ _ _ _  (si_pre2 hP hN hB' hf bN bP (by omega) (by omega) hg2 (by omega) (by omega)) F1 ?_
    intro s3 s4 g2 v2 out2 fr2 fn2 fi2 vs2 ll2 li2 lt2 sN2 sP2 sX2 sK2 it2 vr2 hV2 hM hv2 hf2 hg3 hg4 hs3 hs4 F2
    obtain ⟨c1, c2, c3, c4⟩ := hM.2.2.2.2.2.1 p (by omega)
    obtain ⟨d1, d2, d3, d4⟩ := hM.2.2.2.2.1 u hu (Or.inl rfl)
    have hN2 : si_N l p w B fr fn fi vs ll li lt sN sP sX sK it vr out fr2 fn2 fi2 vs2 ll2 li2 lt2 sN2 sP2 sX2 sK2 it2 vr2 out2 := si_N_trans hN (si_N_mono (by omega) (Nat.le_refl _) (fun _ h => Or.inr h) hM)
    have fr2l : fr2 l = nI q := (hN2.1 l (Nat.le_refl l)).1.trans efr
    have at3 : ex_at rl fr2 fn2 s3 l q c len := ⟨by omega, hl, hq, fr2l, hf2, erl, hcl, hlen⟩
    have at4 : ey_at sN2 sP2 s4 p l (q * 40 + k) (j + 2) := ⟨by omega, by omega, hl, by omega, c1.trans kN, c2.trans kP, by omega⟩
    have hx2 : t ≠ 22 → v2 = 0 ∨ v2 = 1 := fun y => hV2.1 (if_neg y)
    have eK : sK2 p = lt2 (l * 3 + u) := c4.trans (kK.trans d3.symm)
    have eX : sX2 p = nI a0 := c3.trans kX
    have done : (gr_dec t v2 ∨ z ≤ j + 1) → ex_R post oc tc cp lc sc kc er ep cls num lnk lsz lit fb tk tv rk rl ro ra rt rp oo co sk kd s3 (l + 1) (w + 1) g2 fr2 fn2 fi2 vs2 ll2 li2 lt2 := by
      intro hd
      have F3 := yr_qb_end ht at4 (y1.trans h1) (by omega) (hd.elim (fun y => Or.inl ((si_dec ht hx2).1 y)) (fun y => Or.inr ⟨a0, z, ha0, eX, hz, by omega⟩)) F2
      rw [eK] at F3
      refine xr_nx_end at3 ht (by omega) (x1.trans h7) (x2.trans h8) (z1.trans h3) (z2.trans h4) (by omega) hu (by rw [hv2]; exact hd.elim Or.inl (fun y => Or.inr ⟨a0, j, z, ha0, d1.trans el, d2.trans ei, by omega, hz, y⟩)) ?_
      rw [hv2]
      refine hc (v := if t = 22 then lt2 (l * 3 + u) + v2 else v2) ?_ (si_N_fn (Nat.le_refl _) (si_N_fn (Nat.le_refl _) (si_N_vs (Nat.le_refl _) (si_N_lt hnB (si_N_sP (Nat.le_refl _) (si_N_sK (Nat.le_refl _) hN2)))))) pk_us (by rw [pk_us]; exact z3.trans h5) (by omega) hg4 (by omega) (by omega) F3
      refine si_tal (fun y => ?_)
      rw [if_neg y]; exact hx2 y
  · exact done (Or.inr (by omega))
  · by_cases hd : gr_dec t v2
    · exact done (Or.inl hd)
    · have hnd : ¬ ey_dec t v2 := fun y => hd ((si_dec ht hx2).2 y)
      by_cases hg40 : g2 = 40
      · have E1 := yr_qb_stop ht at4 (y1.trans h1) (by omega) hnd ha0 eX hz hz4 (by omega) hg40 F2
        exact xr_nx_stop at3 ht (by omega) (x1.trans h7) (x2.trans h8) (z1.trans h3) (z2.trans h4) (by omega) hu (by rw [hv2]; exact hd) ha0 (d1.trans el) (d2.trans ei) hz (by omega) hz4 hg40 (hE 6 _ _ _ _ _ _ _ _ _ _ _ (by decide) (by decide) (by omega) (si_eo h0 (si_O_N hO hN2) (by omega) ePl) E1)
      · have F3 := yr_qb_go ht at4 (y1.trans h1) (by omega) hnd ha0 eX hz hz4 (by omega) (by omega) hu (y2.trans h2) (by omega) F2
        rw [e1, eK] at F3
        refine xr_nx_go at3 ht (by omega) (x1.trans h7) (x2.trans h8) (z1.trans h3) (z2.trans h4) (by omega) hu (by rw [hv2]; exact hd) ha0 (d1.trans el) (d2.trans ei) hz (by omega) hz4 (by omega) ?_
        rw [hv2]
        refine ihn (j + 1) (by omega) _ _ _ _ _ _ _ _ _ _ _ _ _ _ _ _ _ _  (si_N_fn (Nat.le_refl _) (si_N_fn (Nat.le_refl _) (si_N_li hnB (si_N_lt hnB (si_N_sN (by omega) (si_N_sP (by omega) (si_N_sP (Nat.le_refl _) (si_N_sK (Nat.le_refl _) (si_N_vr hnB hN2))))))))) pk_us (d1.trans el) pk_us pk_us ?_ ?_ eX (pk_us.trans pk_us.symm) pk_us pk_us (by omega) (by omega) (by omega) (by omega) F3
        · rw [pk_un (by omega)]; exact c1.trans kN
        · rw [pk_un (by omega)]; exact pk_us
theorem si_quant (hE : si_E post Z oc tc cp lc sc kc er ep ob tks pl nds res cls num lnk lsz lit fb tk tv rk rl ro ra rt rp oo co sk kd prp opd rn op nm ay prt ylo yhi r0) (hOb : ∀ a, a < 16 → ∃ y, y ≤ 4 ∧ lsz a = nI y) (hD : si_D q len nn xo xa xt xp yo yn ya yp rl ro ra rt rp op nm ay prt) (hk : k < nn) {t u m c : Nat} (ht : t = 20 ∨ t = 21 ∨ t = 22) (hu : u < 3) (ham : a < m) (hmc : m + 1 < c) (hcl : c < len) (h1 : yo k = nI t) (h2 : yn k = nI u) (hnB : ¬ B u) (h3 : xo m = nI t) (h4 : xa m = nI u) (h5 : xt m = nI (c + 1)) (h6 : xp m = ya k) (h7 : xo c = 24) (h8 : xa c = nI m) (h9 : xp c = ya k) (har : gr_ar (yo k) = 2) (ih1 : si_Run post Z oc tc cp lc sc kc er ep ob tks pl nds res cls num lnk lsz lit fb tk tv rk rl ro ra rt rp oo co sk kd prp opd rn op nm ay prt ylo yhi o r0 l q (yp k 0) a m B 4) (ihb : si_Run post Z oc tc cp lc sc kc er ep ob tks pl nds res cls num lnk lsz lit fb tk tv rk rl ro ra rt rp oo co sk kd prp opd rn op nm ay prt ylo yhi o r0 l q (yp k 1) (m + 1) c (fun x => x = u ∨ B x) ((if t = 22 then 1 else 2))) : si_Run post Z oc tc cp lc sc kc er ep ob tks pl nds res cls num lnk lsz lit fb tk tv rk rl ro ra rt rp oo co sk kd prp opd rn op nm ay prt ylo yhi o r0 l q k a (c + 1) B ((if t = 22 then 1 else 2)) := by
  intro s s' w g p ret out fr fn fi vs ll li lt sN sP sX sK it vr hP hF hc
  obtain ⟨hl, efr, efn, efi, hit, hB, esN, esP, h0, hO, hw, hp, hg, hs, hs'⟩ := id hP
  obtain ⟨hq, hlen, hnn, erl, cX, cY, cP⟩ := id hD
  obtain ⟨y1, y2, y3⟩ := cY k hk
  obtain ⟨x1, x2, x3, x4⟩ := cX m (by omega)
  have ePl : rp (q * 40 + m) = ay (q * 40 + k) := x4.trans (h6.trans y3.symm)
  have e1 : prt ((q * 40 + k) * 3 + 1) = nI (q * 40 + yp k 1) := cP k 1 hk (by omega)
  refine si_first hD hk (t0 := t) (m := m) h1 (by omega) (by omega) (by omega) (by omega) (by omega) (by omega) ham (by omega) ih1 hP hF ?_
  intro s1 s2 g1 v out1 fr1 fn1 fi1 vs1 ll1 li1 lt1 sN1 sP1 sX1 sK1 it1 vr1 hV hN hv hf kN kP hg1 hg2 hs1 hs2 F2
  have fr1l : fr1 l = nI q := (hN.1 l (Nat.le_refl l)).1.trans efr
  have at1 : ex_at rl fr1 fn1 s1 l q m len := ⟨by omega, hl, hq, fr1l, hf, erl, by omega, hlen⟩
  have at2 : ey_at sN1 sP1 s2 p l (q * 40 + k) 1 := ⟨by omega, by omega, hl, by omega, kN, kP, by omega⟩
  have done : (v = -1 ∨ ∃ a, a < 16 ∧ v = nI a ∧ lsz a = 0) → ex_R post oc tc cp lc sc kc er ep cls num lnk lsz lit fb tk tv rk rl ro ra rt rp oo co sk kd s1 (l + 1) (w + 1) g1 fr1 fn1 fi1 vs1 ll1 li1 lt1 := by
    intro hd
    have F3 := yr_qa_end ht at2 (y1.trans h1) rfl hd F2
    refine xr_st_end at1 ht (x1.trans h3) (by omega) hu (x2.trans h4) (by rw [hv]; exact hd) ?_
    refine hc (v := (if t = 21 then 1 else 0)) ?_ (si_N_fn (Nat.le_refl _) (si_N_fn (Nat.le_refl _) (si_N_vs (Nat.le_refl _) (si_N_ll hnB (si_N_li hnB (si_N_lt hnB (si_N_sP (Nat.le_refl _) (si_N_sX (Nat.le_refl _) (si_N_sK (Nat.le_refl _) hN))))))))) pk_us (by rw [pk_us]; exact x3.trans h5) (by omega) hg2 (by omega) (by omega) F3
    refine si_tal (fun y => ?_)
    by_cases t21 : t = 21
    · rw [if_pos t21]; exact Or.inr rfl
    · rw [if_neg t21]; exact Or.inl rfl
  rcases hV.2.2 rfl with e | ⟨a0, ha0, e⟩
  · exact done (Or.inl e)
  · obtain ⟨z, hz4, hz⟩ := hOb a0 ha0
    by_cases z0 : z = 0
    · subst z0
      exact done (Or.inr ⟨a0, ha0, e, hz⟩)
    · by_cases hg40 : g1 = 40
      · have E1 := yr_qa_stop ht at2 (y1.trans h1) rfl ha0 e hz hz4 (by omega) hg40 F2
        exact xr_st_stop at1 ht (x1.trans h3) (by omega) hu (x2.trans h4) ha0 (hv.trans e) hz (by omega) hz4 hg40 (hE 6 _ _ _ _ _ _ _ _ _ _ _ (by decide) (by decide) (by omega) (si_eo h0 (si_O_N hO hN) (by omega) ePl) E1)
      · have F3 := yr_qa_go ht at2 (y1.trans h1) rfl ha0 e hz hz4 (by omega) (by omega) hu (y2.trans h2) (by omega) F2
        rw [e1] at F3
        refine xr_st_go at1 ht (x1.trans h3) (by omega) hu (x2.trans h4) ha0 (hv.trans e) hz (by omega) hz4 (by omega) ?_
        refine si_round hE hD hk ht hu ham hmc hcl h1 h2 hnB h3 h4 h5 h6 h7 h8 h9 ihb hP har hc ha0 hz hz4 (z - 1) 0 (by omega) _ _ _ _ _ _ _ _ _ _ _ _ _ _ _ _ _ _  (si_N_fn (Nat.le_refl _) (si_N_fn (Nat.le_refl _) (si_N_ll hnB (si_N_li hnB (si_N_li hnB (si_N_lt hnB (si_N_sN (by omega) (si_N_sP (by omega) (si_N_sP (Nat.le_refl _) (si_N_sX (Nat.le_refl _) (si_N_sK (Nat.le_refl _) (si_N_vr hnB hN)))))))))))) pk_us (pk_us.trans (hv.trans e)) pk_us pk_us ?_ ?_ (pk_us.trans e) (pk_us.trans pk_us.symm) pk_us pk_us (by omega) (by omega) (by omega) (by omega) F3
        · rw [pk_un (by omega)]; exact kN
        · rw [pk_un (by omega)]; exact pk_us
end
end
section
section
variable {post : Int32 → SX → Prop} {Z : (Int32 → SY → Prop) → Prop} {oc tc cp lc sc kc er ep ob tks pl nds res : Int32} {cls num lnk lsz lit fb tk tv rk rl ro ra rt rp oo co sk kd prp opd rn op nm ay prt ylo yhi : Nat → Int32} {o r0 l : Nat} {q len nn : Nat} {xo xa xt xp yo yn ya : Nat → Int32} {yp : Nat → Nat → Nat}
theorem si_im_lt : ∀ {f : Nat} {B : Nat → Prop} {k a b : Nat} {t : Int32}, gr_Im xo xa xt xp yo yn ya yp rk len nn f B k a b t → a < b ∧ b ≤ len
  | 0, _, _, _, _, _, h => absurd h id
  | _ + 1, _, _, _, _, _, h => ⟨h.2.1, h.2.2.1⟩
theorem si_ar2 {s : Nat} (h : (13 ≤ s ∧ s ≤ 18) ∨ (20 ≤ s ∧ s ≤ 22)) : gr_ar (nI s) = 2 := by
  have h2 : s = 13 ∨ s = 14 ∨ s = 15 ∨ s = 16 ∨ s = 17 ∨ s = 18 ∨ s = 20 ∨ s = 21 ∨ s = 22 := by omega
  rcases h2 with rfl | rfl | rfl | rfl | rfl | rfl | rfl | rfl | rfl <;> decide
theorem si_core (hE : si_E post Z oc tc cp lc sc kc er ep ob tks pl nds res cls num lnk lsz lit fb tk tv rk rl ro ra rt rp oo co sk kd prp opd rn op nm ay prt ylo yhi r0) (hOb : gr_O o cls num lnk lsz lit prp) (hR : l < 4 → ∀ r, r < 6 → (rk r = 1 ∨ rk r = 2) → ∃ lr, 0 < lr ∧ lr ≤ 40 ∧ rl r = nI lr ∧ si_Run post Z oc tc cp lc sc kc er ep ob tks pl nds res cls num lnk lsz lit fb tk tv rk rl ro ra rt rp oo co sk kd prp opd rn op nm ay prt ylo yhi o r0 (l + 1) r 0 0 lr (fun _ => False) (rk r)) (hD : si_D q len nn xo xa xt xp yo yn ya yp rl ro ra rt rp op nm ay prt) : ∀ (f : Nat) (B : Nat → Prop) (k a b : Nat) (t : Int32), gr_Im xo xa xt xp yo yn ya yp rk len nn f B k a b t → si_Run post Z oc tc cp lc sc kc er ep ob tks pl nds res cls num lnk lsz lit fb tk tv rk rl ro ra rt rp oo co sk kd prp opd rn op nm ay prt ylo yhi o r0 l q k a b B t := by
  intro f
  induction f with
  | zero => intro B k a b t h; exact absurd h id
  | succ f ih =>
    intro B k a b t h
    obtain ⟨hk, hab, hbl, h⟩ := h
    rcases h with ⟨h1, h2, h3, h4, h5⟩ | ⟨h1, h2, h3, h5⟩ | ⟨h1, h2, h3, h5⟩ | ⟨v, hv, h1, h2, h3, h4, h5, h6, h7⟩ | ⟨pr, c, hp, hb, h1, h2, hi, h3, h4, h5, h6⟩ | ⟨c, hb, h1, hi, h3⟩ | ⟨r, c, hr, hb, h1, h2, hi, h3, h4, h5, h6, h7⟩ | ⟨s, m, c, t1, t2, hs1, hs2, hb, h1, hi1, hi2, h3, h4, h5⟩ | ⟨m, h1, hi1, h3, h4, hi2, h5⟩ | ⟨m, m2, h1, hi1, h3, h4, hi2, h5, h6, hi3⟩ | ⟨s, v, m, c, hs1, hs2, hv, hb, h1, h2, hnB, hi1, h3, h4, h5, h6, hi2, h7, h8, h9, h10⟩
    · subst h2 h5
      exact si_num hD hk (by omega) h1 h3 h4
    · subst h2 h5
      exact si_it hD hk (by omega) h1 h3
    · subst h2 h5
      exact si_nil hD hk (by omega) h1 h3
    · subst h3 h7
      exact si_var hD hk (by omega) hOb.2.2.2.2.2 hv h1 h2 h4 h5 h6
    · subst hb h6
      have := si_im_lt hi
      rcases h1 with h1 | h1
      · exact si_prop1 hE hOb hD hk this.1 (by omega) hp h1 h2 (h3.trans h1) h4 h5 (ih _ _ _ _ _ hi)
      · exact si_prop2 hE hOb hD hk this.1 (by omega) hp h1 h2 (h3.trans h1) h4 h5 (ih _ _ _ _ _ hi)
    · subst hb
      have := si_im_lt hi
      rcases h1 with ⟨h1, h2⟩ | ⟨h1, h2⟩
      · subst h2
        exact si_not hD hk this.1 (by omega) h1 (h3.trans h1) (ih _ _ _ _ _ hi)
      · subst h2
        exact si_neg hD hk this.1 (by omega) h1 (h3.trans h1) (ih _ _ _ _ _ hi)
    · subst hb h6
      have := si_im_lt hi
      exact si_call hE hOb.1 hD hk this.1 (by omega) hr h1 h2 h3 h4 h5 (fun z => hR z r hr h7) (ih _ _ _ _ _ hi)
    · subst hb h5
      have j1 := si_im_lt hi1
      have j2 := si_im_lt hi2
      exact si_bin hE hD hk j1.1 j2.1 (by omega) hs1 hs2 h1 h3 h4 (by rw [h1]; exact si_ar2 (Or.inl ⟨hs1, hs2⟩)) (ih _ _ _ _ _ hi1) (ih _ _ _ _ _ hi2)
    · subst h5
      have j1 := si_im_lt hi1
      have j2 := si_im_lt hi2
      rcases h1 with h1 | h1
      · exact si_or hD hk j1.1 j2.1 hbl h1 (h3.trans h1) h4 (ih _ _ _ _ _ hi1) (ih _ _ _ _ _ hi2)
      · exact si_and hD hk j1.1 j2.1 hbl h1 (h3.trans h1) h4 (ih _ _ _ _ _ hi1) (ih _ _ _ _ _ hi2)
    · have j1 := si_im_lt hi1
      have j2 := si_im_lt hi2
      have j3 := si_im_lt hi3
      exact si_if hD hk j1.1 j2.1 j3.1 hbl h1 h3 h4 h5 h6 (ih _ _ _ _ _ hi1) (ih _ _ _ _ _ hi2) (ih _ _ _ _ _ hi3)
    · subst hb
      have j1 := si_im_lt hi1
      have j2 := si_im_lt hi2
      subst h10
      exact si_quant hE (fun a ha => by obtain ⟨y, e1, e2, _⟩ := hOb.2.2.2.2.2 a ha; exact ⟨y, e1, e2⟩) hD hk (by omega) hv j1.1 j2.1 (by omega) h1 h2 hnB h3 h4 h5 h6 h7 h8 h9 (by rw [h1]; exact si_ar2 (Or.inr ⟨hs1, hs2⟩)) (ih _ _ _ _ _ hi1) (ih _ _ _ _ _ hi2)
theorem si_main (hE : si_E post Z oc tc cp lc sc kc er ep ob tks pl nds res cls num lnk lsz lit fb tk tv rk rl ro ra rt rp oo co sk kd prp opd rn op nm ay prt ylo yhi r0) (hOb : gr_O o cls num lnk lsz lit prp) (hU : gr_U rk rl ro ra rt rp rn op nm ay prt) : ∀ (m l : Nat), l + m = 4 → ∀ r, r < 6 → (rk r = 1 ∨ rk r = 2) → ∃ lr, 0 < lr ∧ lr ≤ 40 ∧ rl r = nI lr ∧ si_Run post Z oc tc cp lc sc kc er ep ob tks pl nds res cls num lnk lsz lit fb tk tv rk rl ro ra rt rp oo co sk kd prp opd rn op nm ay prt ylo yhi o r0 l r 0 0 lr (fun _ => False) (rk r) := by
  intro m
  induction m with
  | zero => ?_
  | succ m ih => ?_
  all_goals
    intro l hl r hr hk
    obtain ⟨len, nn, f, xo, xa, xt, xp, yo, yn, ya, yp, d1, d2, d3, d4, d5, d6, d7, d8, d9, d10⟩ := ((hU r hr).resolve_left (fun z => by rcases hk with y | y <;> rw [z.1] at y <;> exact absurd y (by decide))).2
    refine ⟨len, d1, d2, d4, ?_⟩
  · exact si_core hE hOb (fun z => absurd z (by omega)) ⟨hr, d2, d3, d4, d6, d7, d8⟩ f _ _ _ _ _ d10
  · exact si_core hE hOb (fun z => ih (l + 1) (by omega)) ⟨hr, d2, d3, d4, d6, d7, d8⟩ f _ _ _ _ _ d10
theorem si_eval {r i : Nat} (hE : si_E post Z oc tc cp lc sc kc er ep ob tks pl nds res cls num lnk lsz lit fb tk tv rk rl ro ra rt rp oo co sk kd prp opd rn op nm ay prt ylo yhi r) (hOb : gr_O o cls num lnk lsz lit prp) (hU : gr_U rk rl ro ra rt rp rn op nm ay prt) (hr : r < 6) (hk : ¬ rk r = 0) (hi : i < o) {ret out : Int32} {fr fn fi vs ll li lt sN sP sX sK it vr : Nat → Int32} (hF : ey_F Z ob tks pl nds res cls prp lit lsz fb tk tv opd rk rn op nm ay prt ylo yhi 0 1 0 0 ret out (upd sN 0 (nI (r * 40))) (upd sP 0 0) sX sK (upd it 0 (nI i)) vr)
  (hV : ∀ {s2 g1 : Nat} {v out1 : Int32} {fr1 fn1 fi1 vs1 ll1 li1 lt1 sN1 sP1 sX1 sK1 it1 vr1 : Nat → Int32}, vs1 0 = v → g1 ≤ 40 → ey_F Z ob tks pl nds res cls prp lit lsz fb tk tv opd rk rn op nm ay prt ylo yhi s2 0 0 g1 v out1 sN1 sP1 sX1 sK1 it1 vr1 → post 1 (oc, tc, cp, lc, sc, kc, nI 1, nI 1, er, ep, nI g1, cls, num, lnk, lsz, lit, fb, tk, tv, rk, rl, ro, ra, rt, rp, oo, co, sk, kd, fr1, fn1, fi1, vs1, ll1, li1, lt1)) : ex_R post oc tc cp lc sc kc er ep cls num lnk lsz lit fb tk tv rk rl ro ra rt rp oo co sk kd 0 1 0 0 (upd fr 0 (nI r)) (upd fn 0 0) (upd fi 0 (nI i)) vs ll li lt := by
  have hk' : rk r = 1 ∨ rk r = 2 := (hU r hr).elim (fun z => absurd z.1 hk) (fun z => z.1)
  obtain ⟨lr, h0, h40, elr, run⟩ := si_main hE hOb hU 4 0 (by omega) r hr hk'
  refine run _ _ _ _ _ _ _ _ _ _ _ _ _ _ _ _ _ _ _ _ ⟨by omega, pk_us, pk_us, pk_us.trans pk_us.symm, ⟨i, hi, pk_us⟩, fun v hv z => absurd z id, pk_us, pk_us, fun _ => rfl, fun z => absurd z (by omega), by omega, by omega, by omega, by omega, by omega⟩ hF ?_
  intro s1 s2 g1 v out1 fr1 fn1 fi1 vs1 ll1 li1 lt1 sN1 sP1 sX1 sK1 it1 vr1 hVv hN hv hf hg1 hg2 hs1 hs2 F2
  exact xr_end (q := r) (len := lr) (by omega) hr ((hN.1 0 (Nat.le_refl _)).1.trans pk_us) elr h40 hf (hV hv hg2 F2)
end
theorem i_vc_eval {k : Nat} {u : SX} {v : SY} (I : i_Rel k u v) (hk : k + 4 ≤ 2048) (v1 : Int32) (v2 : Int32) : wpX_eval (fun r u' => wpY_eval (fun r' v' => r' = r ∧ i_Rel (k + 4) u' v') v v1 v2) u v1 v2 := by
  refine gr_el (P := fun u v => wpX_eval (fun r u' => wpY_eval (fun r' v' => r' = r ∧ i_Rel (k + 4) u' v') v v1 v2) u v1 v2) I ?_
  intro o n cp lc sc kc dp vc er ep uu nds sts sp lv ret out cls num lnk lsz lit fb tk tv rk rl ro ra rt rp oo co sk kd fr fn fi vs ll li lt prp opd rn op nm ay prt ylo yhi sN sP sX sK it vr hO hT hU
  have R : i_Rel (k + 4) (nI o, nI n, cp, lc, sc, kc, dp, vc, er, ep, uu, cls, num, lnk, lsz, lit, fb, tk, tv, rk, rl, ro, ra, rt, rp, oo, co, sk, kd, fr, fn, fi, vs, ll, li, lt) (nI o, nI n, cp, nds, sts, er, ep, uu, sp, lv, ret, out, cls, prp, lit, lsz, fb, tk, tv, opd, rk, rn, op, nm, ay, prt, ylo, yhi, sN, sP, sX, sK, it, vr) := gr_mk hO hT hU
  have ho8 : o ≤ 8 := hO.1
  rcases pk_ix v1 (n := 6) (by omega) with h | h | ⟨r, hr, rfl⟩
  · exact br_t h (br_t rfl (br_t h ⟨rfl, R⟩))
  · obtain ⟨j, hj, hj2, rfl⟩ := gr_ge (by omega) h
    exact br_f (nI_pos hj2) (br_t (nI_le (a := 6) hj hj2) (br_t rfl (br_f (nI_pos hj2) (br_t (nI_lt (a := 5) hj hj2) ⟨rfl, R⟩))))
  have r0 : ¬ nI r < 0 := nI_pos (by omega)
  have r6 : ¬ 6 ≤ nI r := nI_ge (b := 6) hr (by decide)
  have r5 : ¬ 5 < nI r := nI_nlt (a := 5) (by omega) (by omega)
  have cr : (nI r).toNatClampNeg = r := nI_clamp (by omega)
  have i6 : vp_in (nI r) 6 := vp_in_nI hr (by decide)
  have i7 : vp_in (nI r) 7 := vp_in_nI (by omega) (by decide)
  by_cases hz : rk r = 0
  · have hz' : rk (nI r).toNatClampNeg = 0 := by rw [cr]; exact hz
    exact br_f r0 (br_f r6 ⟨i7, br_t hz' (br_t rfl (br_f r0 (br_f r5 ⟨i6, br_t hz' ⟨rfl, R⟩⟩)))⟩)
  have hz' : ¬ rk (nI r).toNatClampNeg = 0 := by rw [cr]; exact hz
  rcases gr_obj o ho8 v2 with h | ⟨i, hi, rfl⟩
  · exact br_f r0 (br_f r6 ⟨i7, br_f hz' (br_f (by decide) (gr_br h (br_t rfl (br_f r0 (br_f r5 ⟨i6, br_f hz' (gr_br h (br_t rfl ⟨rfl, R⟩))⟩)))))⟩)
  have n0 : ¬ nI i < 0 := nI_pos (by omega)
  have n1 : ¬ nI o ≤ nI i := nI_ge hi (by omega)
  refine br_f r0 (br_f r6 ⟨i7, br_f hz' (br_f (by decide) (br_f n0 (br_f n1 (br_f (by decide) ?_))))⟩)
  refine ex_enter (d := 0) (w := 0) (g := 0) (by decide) ?_
  have hF : ey_F (fun post => wpY_eval post (nI o, nI n, cp, nds, sts, er, ep, uu, sp, lv, ret, out, cls, prp, lit, lsz, fb, tk, tv, opd, rk, rn, op, nm, ay, prt, ylo, yhi, sN, sP, sX, sK, it, vr) (nI r) (nI i)) (nI o) (nI n) cp nds 0 cls prp lit lsz fb tk tv opd rk rn op nm ay prt ylo yhi 0 1 0 0 ret out (upd sN 0 (nI (r * 40))) (upd sP 0 0) sX sK (upd it 0 (nI i)) vr := by
    intro post hn
    refine br_f r0 (br_f r5 ⟨i6, br_f hz' (br_f n0 (br_f n1 (br_f (by decide) (nm_e ?_))))⟩)
    rw [show nI r * 40 = nI (r * 40) from gr_mul r 40 rfl]
    exact ey_down (p := 0) (l := 0) (g := 0) (by decide) hn
  refine si_eval (post := _) (r := r) (i := i) (oc := nI o) (tc := nI n) (fr := fr) (fn := fn) (fi := fi) (vs := vs) (ll := ll) (li := li) (lt := lt) ?_ hO hU hr hz hi hF ?_
  · intro x g d w e fr fn fi vs ll li lt hx2 hx6 hg he hE
    obtain ⟨j, hj, ef, ep'⟩ := he
    have nx : ¬ nI x = 1 := fun z => absurd ((nI_eq (b := 1) (by omega) (by decide)).1 z) (by omega)
    have ix : nI r * 40 + fn 0 - 1 = nI (r * 40 + j) := by rw [ef, show nI r * 40 + nI (j + 1) = nI (r * 40 + j + 1) from gr_lin r 40 (j + 1) rfl rfl, nI_pred]
    refine br_f nx (br_t rfl (br_t rfl ⟨by rw [ix]; exact vp_in_nI (by omega) (by decide), nm_r (e' := e) (by rw [ix, nI_clamp (by omega)]; exact ep') ?_⟩))
    exact hE _ (fun _ _ _ _ _ _ _ _ _ _ => ⟨rfl, gr_mk hO hT hU⟩)
  · intro s2 g1 v out1 fr1 fn1 fi1 vs1 ll1 li1 lt1 sN1 sP1 sX1 sK1 it1 vr1 hv hg F2
    refine br_t rfl (br_f (by decide) (br_f (by decide) ?_))
    refine F2 _ ⟨1, ?_⟩
    have fin : ∀ x : Int32, x = v → i_Rel (k + 4) (nI o, nI n, cp, lc, sc, kc, nI 1, nI 1, x, -1, nI g1, cls, num, lnk, lsz, lit, fb, tk, tv, rk, rl, ro, ra, rt, rp, oo, co, sk, kd, fr1, fn1, fi1, vs1, ll1, li1, lt1) (nI o, nI n, cp, nds, 1, v, -1, nI g1, nI 0, nI 0, v, out1, cls, prp, lit, lsz, fb, tk, tv, opd, rk, rn, op, nm, ay, prt, ylo, yhi, sN1, sP1, sX1, sK1, it1, vr1) := by
      intro x hx
      subst hx
      exact gr_mk hO hT hU
    by_cases hs : (20000 : Int32) ≤ nI s2
    · exact br_t hs (br_t rfl ⟨rfl, fin _ hv⟩)
    · exact br_f hs (br_t (by decide) (br_t rfl ⟨rfl, fin _ hv⟩))
end
section
/-- the automaton of the grammar: one token; an entry is the token that stands on the stack, and the token that opened -/
def ca_st (T : Nat → Nat) (i w : Nat) (s : List (Nat × Nat)) : Option (Nat × List (Nat × Nat)) :=
  if w = 2 then (if T i = 6 then some (0, s) else none)
  else if w = 0 then
    (if T i = 0 ∨ T i = 3 ∨ T i = 4 ∨ T i = 19 then some (1, s)
    else if T i = 12 ∨ T i = 16 then some (0, s)
    else if T i = 6 then some (0, (i, i) :: s)
    else if T i = 5 ∨ 20 ≤ T i then some (2, (i, i) :: s)
    else none)
  else
    (if T i = 1 ∨ T i = 2 then some (1, s)
    else if T i = 8 then some (0, (i, i) :: s)
    else if T i = 9 then (match s with
      | [] => none
      | e :: r => if T e.1 = 8 then some (0, r) else if 20 ≤ T e.1 then some (0, (i, e.2) :: r) else none)
    else if T i = 7 then (match s with
      | [] => none
      | e :: r => if T e.1 = 9 ∨ T e.1 = 6 ∨ T e.1 = 5 then some (1, r) else none)
    else if 10 ≤ T i ∧ T i ≤ 18 ∧ T i ≠ 12 then some (0, s)
    else none)
def ca_S (T : Nat → Nat) : Nat → Option (Nat × List (Nat × Nat))
  | 0 => some (0, [])
  | i + 1 => match ca_S T i with
    | none => none
    | some x => ca_st T i x.1 x.2
/-- who opened what token j closes -/
def ca_o (T : Nat → Nat) (j : Nat) : Nat := match ca_S T j with
  | some (_, e :: _) => e.2
  | _ => 0
def ca_cl (t : Nat) : Int32 := if t = 8 then 8 else if 20 ≤ t then 20 else 6
def ca_RX (T : Nat → Nat) (oo sk : Nat → Int32) (i : Nat) : List (Nat × Nat) → Prop
  | [] => True
  | e :: r => sk r.length = nI e.1 ∧ e.1 < i ∧ e.2 ≤ e.1 ∧ (T e.1 = 9 → oo e.1 = nI e.2) ∧ (T e.1 ≠ 9 → e.2 = e.1) ∧ (T e.1 = 5 ∨ T e.1 = 6 ∨ T e.1 = 8 ∨ T e.1 = 9 ∨ 20 ≤ T e.1) ∧ ca_RX T oo sk i r
def ca_RY (T : Nat → Nat) (opd : Nat → Int32) : List (Nat × Nat) → Prop
  | [] => True
  | e :: r => opd r.length = ca_cl (T e.1) ∧ ca_RY T opd r
theorem ca_RX_i {T : Nat → Nat} {oo sk : Nat → Int32} {i : Nat} : ∀ {s : List (Nat × Nat)}, ca_RX T oo sk i s → ca_RX T oo sk (i + 1) s
  | [], _ => trivial
  | _ :: _, ⟨h1, h2, h3, h4, h5, hc, h6⟩ => ⟨h1, by omega, h3, h4, h5, hc, ca_RX_i h6⟩
theorem ca_RX_oo {T : Nat → Nat} {oo sk : Nat → Int32} {i : Nat} {x : Int32} : ∀ {s : List (Nat × Nat)}, ca_RX T oo sk i s → ca_RX T (upd oo i x) sk i s
  | [], _ => trivial
  | _ :: _, ⟨h1, h2, h3, h4, h5, hc, h6⟩ => ⟨h1, h2, h3, fun z => (pk_un (by omega)).trans (h4 z), h5, hc, ca_RX_oo h6⟩
theorem ca_RX_sk {T : Nat → Nat} {oo sk : Nat → Int32} {i j : Nat} {x : Int32} : ∀ {s : List (Nat × Nat)}, s.length ≤ j → ca_RX T oo sk i s → ca_RX T oo (upd sk j x) i s
  | [], _, _ => trivial
  | _ :: r, hj, ⟨h1, h2, h3, h4, h5, hc, h6⟩ => ⟨(pk_un (by rw [List.length_cons] at hj; omega)).trans h1, h2, h3, h4, h5, hc, ca_RX_sk (by rw [List.length_cons] at hj; omega) h6⟩
theorem ca_RY_up {T : Nat → Nat} {opd : Nat → Int32} {j : Nat} {x : Int32} : ∀ {s : List (Nat × Nat)}, s.length ≤ j → ca_RY T opd s → ca_RY T (upd opd j x) s
  | [], _, _ => trivial
  | _ :: r, hj, ⟨h1, h2⟩ => ⟨(pk_un (by rw [List.length_cons] at hj; omega)).trans h1, ca_RY_up (by rw [List.length_cons] at hj; omega) h2⟩
section
variable {oc cp lc kc dp vc er ep uu sc : Int32} {cls num lnk lsz lit fb tk tv rk rl ro ra rt rp co kd fr fn fi vs ll li lt oo sk : Nat → Int32} {n i : Nat} {s : List (Nat × Nat)} {T : Nat → Nat}
theorem ca_pt {K : SX → Prop} (hs : s.length < 40) (h : K (oc, nI n, cp, lc, nI (s.length + 1), kc, dp, vc, er, ep, uu, cls, num, lnk, lsz, lit, fb, tk, tv, rk, rl, ro, ra, rt, rp, oo, co, upd sk s.length (nI i), kd, fr, fn, fi, vs, ll, li, lt)) : wpX_pushToken K (oc, nI n, cp, lc, nI s.length, kc, dp, vc, er, ep, uu, cls, num, lnk, lsz, lit, fb, tk, tv, rk, rl, ro, ra, rt, rp, oo, co, sk, kd, fr, fn, fi, vs, ll, li, lt) (nI i) := by
  exact ⟨vp_in_nI hs (by decide), nm_r (by rw [nI_clamp (by omega)]) (nm_r (nI_1 _) h)⟩
theorem cx_0_0 (hi : i < 40) (hs : s.length < 40) (ek : tk (nI i).toNatClampNeg = 0) {post : Int32 → SX → Prop} (h : post 1 (oc, nI n, cp, lc, nI s.length, kc, dp, vc, er, ep, uu, cls, num, lnk, lsz, lit, fb, tk, tv, rk, rl, ro, ra, rt, rp, oo, co, sk, kd, fr, fn, fi, vs, ll, li, lt)) : wpX_wantAfter post (oc, nI n, cp, lc, nI s.length, kc, dp, vc, er, ep, uu, cls, num, lnk, lsz, lit, fb, tk, tv, rk, rl, ro, ra, rt, rp, oo, co, sk, kd, fr, fn, fi, vs, ll, li, lt) (nI i) 0 := by
  have inn : vp_in (nI i) 40 := vp_in_nI hi (by decide)
  exact br_f (by decide) (br_t rfl ⟨inn, nm_r (e' := 0) ek (br_f (by decide) (br_f (by decide) (br_t (by decide) (h))))⟩)
theorem cx_0_1 (hi : i < 40) (hs : s.length < 40) (ek : tk (nI i).toNatClampNeg = 1) {post : Int32 → SX → Prop} (h : post 3 (oc, nI n, cp, lc, nI s.length, kc, dp, vc, er, ep, uu, cls, num, lnk, lsz, lit, fb, tk, tv, rk, rl, ro, ra, rt, rp, oo, co, sk, kd, fr, fn, fi, vs, ll, li, lt)) : wpX_wantAfter post (oc, nI n, cp, lc, nI s.length, kc, dp, vc, er, ep, uu, cls, num, lnk, lsz, lit, fb, tk, tv, rk, rl, ro, ra, rt, rp, oo, co, sk, kd, fr, fn, fi, vs, ll, li, lt) (nI i) 0 := by
  have inn : vp_in (nI i) 40 := vp_in_nI hi (by decide)
  exact br_f (by decide) (br_t rfl ⟨inn, nm_r (e' := 1) ek (br_f (by decide) (br_f (by decide) (br_f (by decide) (br_t (by decide) (h)))))⟩)
theorem cx_0_2 (hi : i < 40) (hs : s.length < 40) (ek : tk (nI i).toNatClampNeg = 2) {post : Int32 → SX → Prop} (h : post 3 (oc, nI n, cp, lc, nI s.length, kc, dp, vc, er, ep, uu, cls, num, lnk, lsz, lit, fb, tk, tv, rk, rl, ro, ra, rt, rp, oo, co, sk, kd, fr, fn, fi, vs, ll, li, lt)) : wpX_wantAfter post (oc, nI n, cp, lc, nI s.length, kc, dp, vc, er, ep, uu, cls, num, lnk, lsz, lit, fb, tk, tv, rk, rl, ro, ra, rt, rp, oo, co, sk, kd, fr, fn, fi, vs, ll, li, lt) (nI i) 0 := by
  have inn : vp_in (nI i) 40 := vp_in_nI hi (by decide)
  exact br_f (by decide) (br_t rfl ⟨inn, nm_r (e' := 2) ek (br_f (by decide) (br_f (by decide) (br_f (by decide) (br_f (by decide) (br_t (by decide) (h))))))⟩)
theorem cx_0_3 (hi : i < 40) (hs : s.length < 40) (ek : tk (nI i).toNatClampNeg = 3) {post : Int32 → SX → Prop} (h : post 1 (oc, nI n, cp, lc, nI s.length, kc, dp, vc, er, ep, uu, cls, num, lnk, lsz, lit, fb, tk, tv, rk, rl, ro, ra, rt, rp, oo, co, sk, kd, fr, fn, fi, vs, ll, li, lt)) : wpX_wantAfter post (oc, nI n, cp, lc, nI s.length, kc, dp, vc, er, ep, uu, cls, num, lnk, lsz, lit, fb, tk, tv, rk, rl, ro, ra, rt, rp, oo, co, sk, kd, fr, fn, fi, vs, ll, li, lt) (nI i) 0 := by
  have inn : vp_in (nI i) 40 := vp_in_nI hi (by decide)
  exact br_f (by decide) (br_t rfl ⟨inn, nm_r (e' := 3) ek (br_f (by decide) (br_f (by decide) (br_f (by decide) (br_f (by decide) (br_f (by decide) (br_t (by decide) (h)))))))⟩)
theorem cx_0_4 (hi : i < 40) (hs : s.length < 40) (ek : tk (nI i).toNatClampNeg = 4) {post : Int32 → SX → Prop} (h : post 1 (oc, nI n, cp, lc, nI s.length, kc, dp, vc, er, ep, uu, cls, num, lnk, lsz, lit, fb, tk, tv, rk, rl, ro, ra, rt, rp, oo, co, sk, kd, fr, fn, fi, vs, ll, li, lt)) : wpX_wantAfter post (oc, nI n, cp, lc, nI s.length, kc, dp, vc, er, ep, uu, cls, num, lnk, lsz, lit, fb, tk, tv, rk, rl, ro, ra, rt, rp, oo, co, sk, kd, fr, fn, fi, vs, ll, li, lt) (nI i) 0 := by
  have inn : vp_in (nI i) 40 := vp_in_nI hi (by decide)
  exact br_f (by decide) (br_t rfl ⟨inn, nm_r (e' := 4) ek (br_f (by decide) (br_f (by decide) (br_f (by decide) (br_f (by decide) (br_f (by decide) (br_f (by decide) (br_t (by decide) (h))))))))⟩)
theorem cx_0_5 (hi : i < 40) (hs : s.length < 40) (ek : tk (nI i).toNatClampNeg = 5) {post : Int32 → SX → Prop} (h : post 2 (oc, nI n, cp, lc, nI (s.length + 1), kc, dp, vc, er, ep, uu, cls, num, lnk, lsz, lit, fb, tk, tv, rk, rl, ro, ra, rt, rp, oo, co, upd sk s.length (nI i), kd, fr, fn, fi, vs, ll, li, lt)) : wpX_wantAfter post (oc, nI n, cp, lc, nI s.length, kc, dp, vc, er, ep, uu, cls, num, lnk, lsz, lit, fb, tk, tv, rk, rl, ro, ra, rt, rp, oo, co, sk, kd, fr, fn, fi, vs, ll, li, lt) (nI i) 0 := by
  have inn : vp_in (nI i) 40 := vp_in_nI hi (by decide)
  exact br_f (by decide) (br_t rfl ⟨inn, nm_r (e' := 5) ek (br_f (by decide) (br_f (by decide) (br_f (by decide) (br_f (by decide) (br_f (by decide) (br_f (by decide) (br_f (by decide) (br_t (by decide) (ca_pt hs h)))))))))⟩)
theorem cx_0_6 (hi : i < 40) (hs : s.length < 40) (ek : tk (nI i).toNatClampNeg = 6) {post : Int32 → SX → Prop} (h : post 0 (oc, nI n, cp, lc, nI (s.length + 1), kc, dp, vc, er, ep, uu, cls, num, lnk, lsz, lit, fb, tk, tv, rk, rl, ro, ra, rt, rp, oo, co, upd sk s.length (nI i), kd, fr, fn, fi, vs, ll, li, lt)) : wpX_wantAfter post (oc, nI n, cp, lc, nI s.length, kc, dp, vc, er, ep, uu, cls, num, lnk, lsz, lit, fb, tk, tv, rk, rl, ro, ra, rt, rp, oo, co, sk, kd, fr, fn, fi, vs, ll, li, lt) (nI i) 0 := by
  have inn : vp_in (nI i) 40 := vp_in_nI hi (by decide)
  exact br_f (by decide) (br_t rfl ⟨inn, nm_r (e' := 6) ek (br_f (by decide) (br_f (by decide) (br_f (by decide) (br_f (by decide) (br_f (by decide) (br_f (by decide) (br_f (by decide) (br_f (by decide) (br_t (by decide) (ca_pt hs h))))))))))⟩)
theorem cx_0_7 (hi : i < 40) (hs : s.length < 40) (ek : tk (nI i).toNatClampNeg = 7) {post : Int32 → SX → Prop} (h : post 3 (oc, nI n, cp, lc, nI s.length, kc, dp, vc, er, ep, uu, cls, num, lnk, lsz, lit, fb, tk, tv, rk, rl, ro, ra, rt, rp, oo, co, sk, kd, fr, fn, fi, vs, ll, li, lt)) : wpX_wantAfter post (oc, nI n, cp, lc, nI s.length, kc, dp, vc, er, ep, uu, cls, num, lnk, lsz, lit, fb, tk, tv, rk, rl, ro, ra, rt, rp, oo, co, sk, kd, fr, fn, fi, vs, ll, li, lt) (nI i) 0 := by
  have inn : vp_in (nI i) 40 := vp_in_nI hi (by decide)
  exact br_f (by decide) (br_t rfl ⟨inn, nm_r (e' := 7) ek (br_f (by decide) (br_f (by decide) (br_f (by decide) (br_f (by decide) (br_f (by decide) (br_f (by decide) (br_f (by decide) (br_f (by decide) (br_f (by decide) (br_t (by decide) (h)))))))))))⟩)
theorem cx_0_8 (hi : i < 40) (hs : s.length < 40) (ek : tk (nI i).toNatClampNeg = 8) {post : Int32 → SX → Prop} (h : post 3 (oc, nI n, cp, lc, nI s.length, kc, dp, vc, er, ep, uu, cls, num, lnk, lsz, lit, fb, tk, tv, rk, rl, ro, ra, rt, rp, oo, co, sk, kd, fr, fn, fi, vs, ll, li, lt)) : wpX_wantAfter post (oc, nI n, cp, lc, nI s.length, kc, dp, vc, er, ep, uu, cls, num, lnk, lsz, lit, fb, tk, tv, rk, rl, ro, ra, rt, rp, oo, co, sk, kd, fr, fn, fi, vs, ll, li, lt) (nI i) 0 := by
  have inn : vp_in (nI i) 40 := vp_in_nI hi (by decide)
  exact br_f (by decide) (br_t rfl ⟨inn, nm_r (e' := 8) ek (br_f (by decide) (br_f (by decide) (br_f (by decide) (br_f (by decide) (br_f (by decide) (br_f (by decide) (br_f (by decide) (br_f (by decide) (br_f (by decide) (br_f (by decide) (br_t (by decide) (h))))))))))))⟩)
theorem cx_0_9 (hi : i < 40) (hs : s.length < 40) (ek : tk (nI i).toNatClampNeg = 9) {post : Int32 → SX → Prop} (h : post 3 (oc, nI n, cp, lc, nI s.length, kc, dp, vc, er, ep, uu, cls, num, lnk, lsz, lit, fb, tk, tv, rk, rl, ro, ra, rt, rp, oo, co, sk, kd, fr, fn, fi, vs, ll, li, lt)) : wpX_wantAfter post (oc, nI n, cp, lc, nI s.length, kc, dp, vc, er, ep, uu, cls, num, lnk, lsz, lit, fb, tk, tv, rk, rl, ro, ra, rt, rp, oo, co, sk, kd, fr, fn, fi, vs, ll, li, lt) (nI i) 0 := by
  have inn : vp_in (nI i) 40 := vp_in_nI hi (by decide)
  exact br_f (by decide) (br_t rfl ⟨inn, nm_r (e' := 9) ek (br_f (by decide) (br_f (by decide) (br_f (by decide) (br_f (by decide) (br_f (by decide) (br_f (by decide) (br_f (by decide) (br_f (by decide) (br_f (by decide) (br_f (by decide) (br_f (by decide) (br_t (by decide) (h)))))))))))))⟩)
theorem cx_0_10 (hi : i < 40) (hs : s.length < 40) (ek : tk (nI i).toNatClampNeg = 10) {post : Int32 → SX → Prop} (h : post 3 (oc, nI n, cp, lc, nI s.length, kc, dp, vc, er, ep, uu, cls, num, lnk, lsz, lit, fb, tk, tv, rk, rl, ro, ra, rt, rp, oo, co, sk, kd, fr, fn, fi, vs, ll, li, lt)) : wpX_wantAfter post (oc, nI n, cp, lc, nI s.length, kc, dp, vc, er, ep, uu, cls, num, lnk, lsz, lit, fb, tk, tv, rk, rl, ro, ra, rt, rp, oo, co, sk, kd, fr, fn, fi, vs, ll, li, lt) (nI i) 0 := by
  have inn : vp_in (nI i) 40 := vp_in_nI hi (by decide)
  exact br_f (by decide) (br_t rfl ⟨inn, nm_r (e' := 10) ek (br_f (by decide) (br_f (by decide) (br_f (by decide) (br_f (by decide) (br_f (by decide) (br_f (by decide) (br_f (by decide) (br_f (by decide) (br_f (by decide) (br_f (by decide) (br_f (by decide) (br_f (by decide) (br_t (by decide) (h))))))))))))))⟩)
theorem cx_0_11 (hi : i < 40) (hs : s.length < 40) (ek : tk (nI i).toNatClampNeg = 11) {post : Int32 → SX → Prop} (h : post 3 (oc, nI n, cp, lc, nI s.length, kc, dp, vc, er, ep, uu, cls, num, lnk, lsz, lit, fb, tk, tv, rk, rl, ro, ra, rt, rp, oo, co, sk, kd, fr, fn, fi, vs, ll, li, lt)) : wpX_wantAfter post (oc, nI n, cp, lc, nI s.length, kc, dp, vc, er, ep, uu, cls, num, lnk, lsz, lit, fb, tk, tv, rk, rl, ro, ra, rt, rp, oo, co, sk, kd, fr, fn, fi, vs, ll, li, lt) (nI i) 0 := by
  have inn : vp_in (nI i) 40 := vp_in_nI hi (by decide)
  exact br_f (by decide) (br_t rfl ⟨inn, nm_r (e' := 11) ek (br_f (by decide) (br_f (by decide) (br_f (by decide) (br_f (by decide) (br_f (by decide) (br_f (by decide) (br_f (by decide) (br_f (by decide) (br_f (by decide) (br_f (by decide) (br_f (by decide) (br_f (by decide) (br_f (by decide) (br_t (by decide) (h)))))))))))))))⟩)
theorem cx_0_12 (hi : i < 40) (hs : s.length < 40) (ek : tk (nI i).toNatClampNeg = 12) {post : Int32 → SX → Prop} (h : post 0 (oc, nI n, cp, lc, nI s.length, kc, dp, vc, er, ep, uu, cls, num, lnk, lsz, lit, fb, tk, tv, rk, rl, ro, ra, rt, rp, oo, co, sk, kd, fr, fn, fi, vs, ll, li, lt)) : wpX_wantAfter post (oc, nI n, cp, lc, nI s.length, kc, dp, vc, er, ep, uu, cls, num, lnk, lsz, lit, fb, tk, tv, rk, rl, ro, ra, rt, rp, oo, co, sk, kd, fr, fn, fi, vs, ll, li, lt) (nI i) 0 := by
  have inn : vp_in (nI i) 40 := vp_in_nI hi (by decide)
  exact br_f (by decide) (br_t rfl ⟨inn, nm_r (e' := 12) ek (br_f (by decide) (br_f (by decide) (br_f (by decide) (br_f (by decide) (br_f (by decide) (br_f (by decide) (br_f (by decide) (br_f (by decide) (br_f (by decide) (br_f (by decide) (br_f (by decide) (br_f (by decide) (br_f (by decide) (br_f (by decide) (br_t (by decide) (h))))))))))))))))⟩)
theorem cx_0_13 (hi : i < 40) (hs : s.length < 40) (ek : tk (nI i).toNatClampNeg = 13) {post : Int32 → SX → Prop} (h : post 3 (oc, nI n, cp, lc, nI s.length, kc, dp, vc, er, ep, uu, cls, num, lnk, lsz, lit, fb, tk, tv, rk, rl, ro, ra, rt, rp, oo, co, sk, kd, fr, fn, fi, vs, ll, li, lt)) : wpX_wantAfter post (oc, nI n, cp, lc, nI s.length, kc, dp, vc, er, ep, uu, cls, num, lnk, lsz, lit, fb, tk, tv, rk, rl, ro, ra, rt, rp, oo, co, sk, kd, fr, fn, fi, vs, ll, li, lt) (nI i) 0 := by
  have inn : vp_in (nI i) 40 := vp_in_nI hi (by decide)
  exact br_f (by decide) (br_t rfl ⟨inn, nm_r (e' := 13) ek (br_f (by decide) (br_f (by decide) (br_f (by decide) (br_f (by decide) (br_f (by decide) (br_f (by decide) (br_f (by decide) (br_f (by decide) (br_f (by decide) (br_f (by decide) (br_f (by decide) (br_f (by decide) (br_f (by decide) (br_f (by decide) (br_f (by decide) (br_t (by decide) (h)))))))))))))))))⟩)
theorem cx_0_14 (hi : i < 40) (hs : s.length < 40) (ek : tk (nI i).toNatClampNeg = 14) {post : Int32 → SX → Prop} (h : post 3 (oc, nI n, cp, lc, nI s.length, kc, dp, vc, er, ep, uu, cls, num, lnk, lsz, lit, fb, tk, tv, rk, rl, ro, ra, rt, rp, oo, co, sk, kd, fr, fn, fi, vs, ll, li, lt)) : wpX_wantAfter post (oc, nI n, cp, lc, nI s.length, kc, dp, vc, er, ep, uu, cls, num, lnk, lsz, lit, fb, tk, tv, rk, rl, ro, ra, rt, rp, oo, co, sk, kd, fr, fn, fi, vs, ll, li, lt) (nI i) 0 := by
  have inn : vp_in (nI i) 40 := vp_in_nI hi (by decide)
  exact br_f (by decide) (br_t rfl ⟨inn, nm_r (e' := 14) ek (br_f (by decide) (br_f (by decide) (br_f (by decide) (br_f (by decide) (br_f (by decide) (br_f (by decide) (br_f (by decide) (br_f (by decide) (br_f (by decide) (br_f (by decide) (br_f (by decide) (br_f (by decide) (br_f (by decide) (br_f (by decide) (br_f (by decide) (br_f (by decide) (br_t (by decide) (h))))))))))))))))))⟩)
theorem cx_0_15 (hi : i < 40) (hs : s.length < 40) (ek : tk (nI i).toNatClampNeg = 15) {post : Int32 → SX → Prop} (h : post 3 (oc, nI n, cp, lc, nI s.length, kc, dp, vc, er, ep, uu, cls, num, lnk, lsz, lit, fb, tk, tv, rk, rl, ro, ra, rt, rp, oo, co, sk, kd, fr, fn, fi, vs, ll, li, lt)) : wpX_wantAfter post (oc, nI n, cp, lc, nI s.length, kc, dp, vc, er, ep, uu, cls, num, lnk, lsz, lit, fb, tk, tv, rk, rl, ro, ra, rt, rp, oo, co, sk, kd, fr, fn, fi, vs, ll, li, lt) (nI i) 0 := by
  have inn : vp_in (nI i) 40 := vp_in_nI hi (by decide)
  exact br_f (by decide) (br_t rfl ⟨inn, nm_r (e' := 15) ek (br_f (by decide) (br_f (by decide) (br_f (by decide) (br_f (by decide) (br_f (by decide) (br_f (by decide) (br_f (by decide) (br_f (by decide) (br_f (by decide) (br_f (by decide) (br_f (by decide) (br_f (by decide) (br_f (by decide) (br_f (by decide) (br_f (by decide) (br_f (by decide) (br_f (by decide) (br_t (by decide) (h)))))))))))))))))))⟩)
theorem cx_0_16 (hi : i < 40) (hs : s.length < 40) (ek : tk (nI i).toNatClampNeg = 16) {post : Int32 → SX → Prop} (h : post 0 (oc, nI n, cp, lc, nI s.length, kc, dp, vc, er, ep, uu, cls, num, lnk, lsz, lit, fb, tk, tv, rk, rl, ro, ra, rt, rp, oo, co, sk, kd, fr, fn, fi, vs, ll, li, lt)) : wpX_wantAfter post (oc, nI n, cp, lc, nI s.length, kc, dp, vc, er, ep, uu, cls, num, lnk, lsz, lit, fb, tk, tv, rk, rl, ro, ra, rt, rp, oo, co, sk, kd, fr, fn, fi, vs, ll, li, lt) (nI i) 0 := by
  have inn : vp_in (nI i) 40 := vp_in_nI hi (by decide)
  exact br_f (by decide) (br_t rfl ⟨inn, nm_r (e' := 16) ek (br_f (by decide) (br_f (by decide) (br_f (by decide) (br_f (by decide) (br_f (by decide) (br_f (by decide) (br_f (by decide) (br_f (by decide) (br_f (by decide) (br_f (by decide) (br_f (by decide) (br_f (by decide) (br_f (by decide) (br_f (by decide) (br_f (by decide) (br_f (by decide) (br_f (by decide) (br_f (by decide) (br_t (by decide) (h))))))))))))))))))))⟩)
theorem cx_0_17 (hi : i < 40) (hs : s.length < 40) (ek : tk (nI i).toNatClampNeg = 17) {post : Int32 → SX → Prop} (h : post 3 (oc, nI n, cp, lc, nI s.length, kc, dp, vc, er, ep, uu, cls, num, lnk, lsz, lit, fb, tk, tv, rk, rl, ro, ra, rt, rp, oo, co, sk, kd, fr, fn, fi, vs, ll, li, lt)) : wpX_wantAfter post (oc, nI n, cp, lc, nI s.length, kc, dp, vc, er, ep, uu, cls, num, lnk, lsz, lit, fb, tk, tv, rk, rl, ro, ra, rt, rp, oo, co, sk, kd, fr, fn, fi, vs, ll, li, lt) (nI i) 0 := by
  have inn : vp_in (nI i) 40 := vp_in_nI hi (by decide)
  exact br_f (by decide) (br_t rfl ⟨inn, nm_r (e' := 17) ek (br_f (by decide) (br_f (by decide) (br_f (by decide) (br_f (by decide) (br_f (by decide) (br_f (by decide) (br_f (by decide) (br_f (by decide) (br_f (by decide) (br_f (by decide) (br_f (by decide) (br_f (by decide) (br_f (by decide) (br_f (by decide) (br_f (by decide) (br_f (by decide) (br_f (by decide) (br_f (by decide) (br_f (by decide) (br_t (by decide) (h)))))))))))))))))))))⟩)
theorem cx_0_18 (hi : i < 40) (hs : s.length < 40) (ek : tk (nI i).toNatClampNeg = 18) {post : Int32 → SX → Prop} (h : post 3 (oc, nI n, cp, lc, nI s.length, kc, dp, vc, er, ep, uu, cls, num, lnk, lsz, lit, fb, tk, tv, rk, rl, ro, ra, rt, rp, oo, co, sk, kd, fr, fn, fi, vs, ll, li, lt)) : wpX_wantAfter post (oc, nI n, cp, lc, nI s.length, kc, dp, vc, er, ep, uu, cls, num, lnk, lsz, lit, fb, tk, tv, rk, rl, ro, ra, rt, rp, oo, co, sk, kd, fr, fn, fi, vs, ll, li, lt) (nI i) 0 := by
  have inn : vp_in (nI i) 40 := vp_in_nI hi (by decide)
  exact br_f (by decide) (br_t rfl ⟨inn, nm_r (e' := 18) ek (br_f (by decide) (br_f (by decide) (br_f (by decide) (br_f (by decide) (br_f (by decide) (br_f (by decide) (br_f (by decide) (br_f (by decide) (br_f (by decide) (br_f (by decide) (br_f (by decide) (br_f (by decide) (br_f (by decide) (br_f (by decide) (br_f (by decide) (br_f (by decide) (br_f (by decide) (br_f (by decide) (br_f (by decide) (br_f (by decide) (br_t (by decide) (h))))))))))))))))))))))⟩)
theorem cx_0_19 (hi : i < 40) (hs : s.length < 40) (ek : tk (nI i).toNatClampNeg = 19) {post : Int32 → SX → Prop} (h : post 1 (oc, nI n, cp, lc, nI s.length, kc, dp, vc, er, ep, uu, cls, num, lnk, lsz, lit, fb, tk, tv, rk, rl, ro, ra, rt, rp, oo, co, sk, kd, fr, fn, fi, vs, ll, li, lt)) : wpX_wantAfter post (oc, nI n, cp, lc, nI s.length, kc, dp, vc, er, ep, uu, cls, num, lnk, lsz, lit, fb, tk, tv, rk, rl, ro, ra, rt, rp, oo, co, sk, kd, fr, fn, fi, vs, ll, li, lt) (nI i) 0 := by
  have inn : vp_in (nI i) 40 := vp_in_nI hi (by decide)
  exact br_f (by decide) (br_t rfl ⟨inn, nm_r (e' := 19) ek (br_f (by decide) (br_f (by decide) (br_f (by decide) (br_f (by decide) (br_f (by decide) (br_f (by decide) (br_f (by decide) (br_f (by decide) (br_f (by decide) (br_f (by decide) (br_f (by decide) (br_f (by decide) (br_f (by decide) (br_f (by decide) (br_f (by decide) (br_f (by decide) (br_f (by decide) (br_f (by decide) (br_f (by decide) (br_f (by decide) (br_f (by decide) (br_t (by decide) (h)))))))))))))))))))))))⟩)
theorem cx_0_20 (hi : i < 40) (hs : s.length < 40) (ek : tk (nI i).toNatClampNeg = 20) {post : Int32 → SX → Prop} (h : post 2 (oc, nI n, cp, lc, nI (s.length + 1), kc, dp, vc, er, ep, uu, cls, num, lnk, lsz, lit, fb, tk, tv, rk, rl, ro, ra, rt, rp, oo, co, upd sk s.length (nI i), kd, fr, fn, fi, vs, ll, li, lt)) : wpX_wantAfter post (oc, nI n, cp, lc, nI s.length, kc, dp, vc, er, ep, uu, cls, num, lnk, lsz, lit, fb, tk, tv, rk, rl, ro, ra, rt, rp, oo, co, sk, kd, fr, fn, fi, vs, ll, li, lt) (nI i) 0 := by
  have inn : vp_in (nI i) 40 := vp_in_nI hi (by decide)
  exact br_f (by decide) (br_t rfl ⟨inn, nm_r (e' := 20) ek (br_f (by decide) (br_f (by decide) (br_f (by decide) (br_f (by decide) (br_f (by decide) (br_f (by decide) (br_f (by decide) (br_f (by decide) (br_f (by decide) (br_f (by decide) (br_f (by decide) (br_f (by decide) (br_f (by decide) (br_f (by decide) (br_f (by decide) (br_f (by decide) (br_f (by decide) (br_f (by decide) (br_f (by decide) (br_f (by decide) (br_f (by decide) (br_f (by decide) (br_t (by decide) (ca_pt hs h))))))))))))))))))))))))⟩)
theorem cx_0_21 (hi : i < 40) (hs : s.length < 40) (ek : tk (nI i).toNatClampNeg = 21) {post : Int32 → SX → Prop} (h : post 2 (oc, nI n, cp, lc, nI (s.length + 1), kc, dp, vc, er, ep, uu, cls, num, lnk, lsz, lit, fb, tk, tv, rk, rl, ro, ra, rt, rp, oo, co, upd sk s.length (nI i), kd, fr, fn, fi, vs, ll, li, lt)) : wpX_wantAfter post (oc, nI n, cp, lc, nI s.length, kc, dp, vc, er, ep, uu, cls, num, lnk, lsz, lit, fb, tk, tv, rk, rl, ro, ra, rt, rp, oo, co, sk, kd, fr, fn, fi, vs, ll, li, lt) (nI i) 0 := by
  have inn : vp_in (nI i) 40 := vp_in_nI hi (by decide)
  exact br_f (by decide) (br_t rfl ⟨inn, nm_r (e' := 21) ek (br_f (by decide) (br_f (by decide) (br_f (by decide) (br_f (by decide) (br_f (by decide) (br_f (by decide) (br_f (by decide) (br_f (by decide) (br_f (by decide) (br_f (by decide) (br_f (by decide) (br_f (by decide) (br_f (by decide) (br_f (by decide) (br_f (by decide) (br_f (by decide) (br_f (by decide) (br_f (by decide) (br_f (by decide) (br_f (by decide) (br_f (by decide) (br_f (by decide) (br_f (by decide) (br_t (by decide) (ca_pt hs h)))))))))))))))))))))))))⟩)
theorem cx_0_22 (hi : i < 40) (hs : s.length < 40) (ek : tk (nI i).toNatClampNeg = 22) {post : Int32 → SX → Prop} (h : post 2 (oc, nI n, cp, lc, nI (s.length + 1), kc, dp, vc, er, ep, uu, cls, num, lnk, lsz, lit, fb, tk, tv, rk, rl, ro, ra, rt, rp, oo, co, upd sk s.length (nI i), kd, fr, fn, fi, vs, ll, li, lt)) : wpX_wantAfter post (oc, nI n, cp, lc, nI s.length, kc, dp, vc, er, ep, uu, cls, num, lnk, lsz, lit, fb, tk, tv, rk, rl, ro, ra, rt, rp, oo, co, sk, kd, fr, fn, fi, vs, ll, li, lt) (nI i) 0 := by
  have inn : vp_in (nI i) 40 := vp_in_nI hi (by decide)
  exact br_f (by decide) (br_t rfl ⟨inn, nm_r (e' := 22) ek (br_f (by decide) (br_f (by decide) (br_f (by decide) (br_f (by decide) (br_f (by decide) (br_f (by decide) (br_f (by decide) (br_f (by decide) (br_f (by decide) (br_f (by decide) (br_f (by decide) (br_f (by decide) (br_f (by decide) (br_f (by decide) (br_f (by decide) (br_f (by decide) (br_f (by decide) (br_f (by decide) (br_f (by decide) (br_f (by decide) (br_f (by decide) (br_f (by decide) (br_f (by decide) (br_f (by decide) (br_t (by decide) (ca_pt hs h))))))))))))))))))))))))))⟩)
theorem cx_1_0 (hi : i < 40) (hs : s.length < 40) (ek : tk (nI i).toNatClampNeg = 0) {post : Int32 → SX → Prop} (h : post 3 (oc, nI n, cp, lc, nI s.length, kc, dp, vc, er, ep, uu, cls, num, lnk, lsz, lit, fb, tk, tv, rk, rl, ro, ra, rt, rp, oo, co, sk, kd, fr, fn, fi, vs, ll, li, lt)) : wpX_wantAfter post (oc, nI n, cp, lc, nI s.length, kc, dp, vc, er, ep, uu, cls, num, lnk, lsz, lit, fb, tk, tv, rk, rl, ro, ra, rt, rp, oo, co, sk, kd, fr, fn, fi, vs, ll, li, lt) (nI i) 1 := by
  have inn : vp_in (nI i) 40 := vp_in_nI hi (by decide)
  exact br_f (by decide) (br_f (by decide) ⟨inn, nm_r (e' := 0) ek (br_t (by decide) (h))⟩)
theorem cx_1_1 (hi : i < 40) (hs : s.length < 40) (ek : tk (nI i).toNatClampNeg = 1) {post : Int32 → SX → Prop} (h : post 1 (oc, nI n, cp, lc, nI s.length, kc, dp, vc, er, ep, uu, cls, num, lnk, lsz, lit, fb, tk, tv, rk, rl, ro, ra, rt, rp, oo, co, sk, kd, fr, fn, fi, vs, ll, li, lt)) : wpX_wantAfter post (oc, nI n, cp, lc, nI s.length, kc, dp, vc, er, ep, uu, cls, num, lnk, lsz, lit, fb, tk, tv, rk, rl, ro, ra, rt, rp, oo, co, sk, kd, fr, fn, fi, vs, ll, li, lt) (nI i) 1 := by
  have inn : vp_in (nI i) 40 := vp_in_nI hi (by decide)
  exact br_f (by decide) (br_f (by decide) ⟨inn, nm_r (e' := 1) ek (br_f (by decide) (br_f (by decide) (br_t (by decide) (h))))⟩)
theorem cx_1_2 (hi : i < 40) (hs : s.length < 40) (ek : tk (nI i).toNatClampNeg = 2) {post : Int32 → SX → Prop} (h : post 1 (oc, nI n, cp, lc, nI s.length, kc, dp, vc, er, ep, uu, cls, num, lnk, lsz, lit, fb, tk, tv, rk, rl, ro, ra, rt, rp, oo, co, sk, kd, fr, fn, fi, vs, ll, li, lt)) : wpX_wantAfter post (oc, nI n, cp, lc, nI s.length, kc, dp, vc, er, ep, uu, cls, num, lnk, lsz, lit, fb, tk, tv, rk, rl, ro, ra, rt, rp, oo, co, sk, kd, fr, fn, fi, vs, ll, li, lt) (nI i) 1 := by
  have inn : vp_in (nI i) 40 := vp_in_nI hi (by decide)
  exact br_f (by decide) (br_f (by decide) ⟨inn, nm_r (e' := 2) ek (br_f (by decide) (br_f (by decide) (br_f (by decide) (br_t (by decide) (h)))))⟩)
theorem cx_1_3 (hi : i < 40) (hs : s.length < 40) (ek : tk (nI i).toNatClampNeg = 3) {post : Int32 → SX → Prop} (h : post 3 (oc, nI n, cp, lc, nI s.length, kc, dp, vc, er, ep, uu, cls, num, lnk, lsz, lit, fb, tk, tv, rk, rl, ro, ra, rt, rp, oo, co, sk, kd, fr, fn, fi, vs, ll, li, lt)) : wpX_wantAfter post (oc, nI n, cp, lc, nI s.length, kc, dp, vc, er, ep, uu, cls, num, lnk, lsz, lit, fb, tk, tv, rk, rl, ro, ra, rt, rp, oo, co, sk, kd, fr, fn, fi, vs, ll, li, lt) (nI i) 1 := by
  have inn : vp_in (nI i) 40 := vp_in_nI hi (by decide)
  exact br_f (by decide) (br_f (by decide) ⟨inn, nm_r (e' := 3) ek (br_f (by decide) (br_f (by decide) (br_f (by decide) (br_f (by decide) (br_t (by decide) (h))))))⟩)
theorem cx_1_4 (hi : i < 40) (hs : s.length < 40) (ek : tk (nI i).toNatClampNeg = 4) {post : Int32 → SX → Prop} (h : post 3 (oc, nI n, cp, lc, nI s.length, kc, dp, vc, er, ep, uu, cls, num, lnk, lsz, lit, fb, tk, tv, rk, rl, ro, ra, rt, rp, oo, co, sk, kd, fr, fn, fi, vs, ll, li, lt)) : wpX_wantAfter post (oc, nI n, cp, lc, nI s.length, kc, dp, vc, er, ep, uu, cls, num, lnk, lsz, lit, fb, tk, tv, rk, rl, ro, ra, rt, rp, oo, co, sk, kd, fr, fn, fi, vs, ll, li, lt) (nI i) 1 := by
  have inn : vp_in (nI i) 40 := vp_in_nI hi (by decide)
  exact br_f (by decide) (br_f (by decide) ⟨inn, nm_r (e' := 4) ek (br_f (by decide) (br_f (by decide) (br_f (by decide) (br_f (by decide) (br_f (by decide) (br_t (by decide) (h)))))))⟩)
theorem cx_1_5 (hi : i < 40) (hs : s.length < 40) (ek : tk (nI i).toNatClampNeg = 5) {post : Int32 → SX → Prop} (h : post 3 (oc, nI n, cp, lc, nI s.length, kc, dp, vc, er, ep, uu, cls, num, lnk, lsz, lit, fb, tk, tv, rk, rl, ro, ra, rt, rp, oo, co, sk, kd, fr, fn, fi, vs, ll, li, lt)) : wpX_wantAfter post (oc, nI n, cp, lc, nI s.length, kc, dp, vc, er, ep, uu, cls, num, lnk, lsz, lit, fb, tk, tv, rk, rl, ro, ra, rt, rp, oo, co, sk, kd, fr, fn, fi, vs, ll, li, lt) (nI i) 1 := by
  have inn : vp_in (nI i) 40 := vp_in_nI hi (by decide)
  exact br_f (by decide) (br_f (by decide) ⟨inn, nm_r (e' := 5) ek (br_f (by decide) (br_f (by decide) (br_f (by decide) (br_f (by decide) (br_f (by decide) (br_f (by decide) (br_t (by decide) (h))))))))⟩)
theorem cx_1_6 (hi : i < 40) (hs : s.length < 40) (ek : tk (nI i).toNatClampNeg = 6) {post : Int32 → SX → Prop} (h : post 3 (oc, nI n, cp, lc, nI s.length, kc, dp, vc, er, ep, uu, cls, num, lnk, lsz, lit, fb, tk, tv, rk, rl, ro, ra, rt, rp, oo, co, sk, kd, fr, fn, fi, vs, ll, li, lt)) : wpX_wantAfter post (oc, nI n, cp, lc, nI s.length, kc, dp, vc, er, ep, uu, cls, num, lnk, lsz, lit, fb, tk, tv, rk, rl, ro, ra, rt, rp, oo, co, sk, kd, fr, fn, fi, vs, ll, li, lt) (nI i) 1 := by
  have inn : vp_in (nI i) 40 := vp_in_nI hi (by decide)
  exact br_f (by decide) (br_f (by decide) ⟨inn, nm_r (e' := 6) ek (br_f (by decide) (br_f (by decide) (br_f (by decide) (br_f (by decide) (br_f (by decide) (br_f (by decide) (br_f (by decide) (br_t (by decide) (h)))))))))⟩)
theorem cx_1_8 (hi : i < 40) (hs : s.length < 40) (ek : tk (nI i).toNatClampNeg = 8) {post : Int32 → SX → Prop} (h : post 0 (oc, nI n, cp, lc, nI (s.length + 1), kc, dp, vc, er, ep, uu, cls, num, lnk, lsz, lit, fb, tk, tv, rk, rl, ro, ra, rt, rp, oo, co, upd sk s.length (nI i), kd, fr, fn, fi, vs, ll, li, lt)) : wpX_wantAfter post (oc, nI n, cp, lc, nI s.length, kc, dp, vc, er, ep, uu, cls, num, lnk, lsz, lit, fb, tk, tv, rk, rl, ro, ra, rt, rp, oo, co, sk, kd, fr, fn, fi, vs, ll, li, lt) (nI i) 1 := by
  have inn : vp_in (nI i) 40 := vp_in_nI hi (by decide)
  exact br_f (by decide) (br_f (by decide) ⟨inn, nm_r (e' := 8) ek (br_f (by decide) (br_f (by decide) (br_f (by decide) (br_f (by decide) (br_f (by decide) (br_f (by decide) (br_f (by decide) (br_f (by decide) (br_f (by decide) (br_t (by decide) (ca_pt hs h)))))))))))⟩)
theorem cx_1_10 (hi : i < 40) (hs : s.length < 40) (ek : tk (nI i).toNatClampNeg = 10) {post : Int32 → SX → Prop} (h : post 0 (oc, nI n, cp, lc, nI s.length, kc, dp, vc, er, ep, uu, cls, num, lnk, lsz, lit, fb, tk, tv, rk, rl, ro, ra, rt, rp, oo, co, sk, kd, fr, fn, fi, vs, ll, li, lt)) : wpX_wantAfter post (oc, nI n, cp, lc, nI s.length, kc, dp, vc, er, ep, uu, cls, num, lnk, lsz, lit, fb, tk, tv, rk, rl, ro, ra, rt, rp, oo, co, sk, kd, fr, fn, fi, vs, ll, li, lt) (nI i) 1 := by
  have inn : vp_in (nI i) 40 := vp_in_nI hi (by decide)
  exact br_f (by decide) (br_f (by decide) ⟨inn, nm_r (e' := 10) ek (br_f (by decide) (br_f (by decide) (br_f (by decide) (br_f (by decide) (br_f (by decide) (br_f (by decide) (br_f (by decide) (br_f (by decide) (br_f (by decide) (br_f (by decide) (br_f (by decide) (br_t (by decide) (h)))))))))))))⟩)
theorem cx_1_11 (hi : i < 40) (hs : s.length < 40) (ek : tk (nI i).toNatClampNeg = 11) {post : Int32 → SX → Prop} (h : post 0 (oc, nI n, cp, lc, nI s.length, kc, dp, vc, er, ep, uu, cls, num, lnk, lsz, lit, fb, tk, tv, rk, rl, ro, ra, rt, rp, oo, co, sk, kd, fr, fn, fi, vs, ll, li, lt)) : wpX_wantAfter post (oc, nI n, cp, lc, nI s.length, kc, dp, vc, er, ep, uu, cls, num, lnk, lsz, lit, fb, tk, tv, rk, rl, ro, ra, rt, rp, oo, co, sk, kd, fr, fn, fi, vs, ll, li, lt) (nI i) 1 := by
  have inn : vp_in (nI i) 40 := vp_in_nI hi (by decide)
  exact br_f (by decide) (br_f (by decide) ⟨inn, nm_r (e' := 11) ek (br_f (by decide) (br_f (by decide) (br_f (by decide) (br_f (by decide) (br_f (by decide) (br_f (by decide) (br_f (by decide) (br_f (by decide) (br_f (by decide) (br_f (by decide) (br_f (by decide) (br_f (by decide) (br_t (by decide) (h))))))))))))))⟩)
theorem cx_1_12 (hi : i < 40) (hs : s.length < 40) (ek : tk (nI i).toNatClampNeg = 12) {post : Int32 → SX → Prop} (h : post 3 (oc, nI n, cp, lc, nI s.length, kc, dp, vc, er, ep, uu, cls, num, lnk, lsz, lit, fb, tk, tv, rk, rl, ro, ra, rt, rp, oo, co, sk, kd, fr, fn, fi, vs, ll, li, lt)) : wpX_wantAfter post (oc, nI n, cp, lc, nI s.length, kc, dp, vc, er, ep, uu, cls, num, lnk, lsz, lit, fb, tk, tv, rk, rl, ro, ra, rt, rp, oo, co, sk, kd, fr, fn, fi, vs, ll, li, lt) (nI i) 1 := by
  have inn : vp_in (nI i) 40 := vp_in_nI hi (by decide)
  exact br_f (by decide) (br_f (by decide) ⟨inn, nm_r (e' := 12) ek (br_f (by decide) (br_f (by decide) (br_f (by decide) (br_f (by decide) (br_f (by decide) (br_f (by decide) (br_f (by decide) (br_f (by decide) (br_f (by decide) (br_f (by decide) (br_f (by decide) (br_f (by decide) (br_f (by decide) (br_t (by decide) (h)))))))))))))))⟩)
theorem cx_1_13 (hi : i < 40) (hs : s.length < 40) (ek : tk (nI i).toNatClampNeg = 13) {post : Int32 → SX → Prop} (h : post 0 (oc, nI n, cp, lc, nI s.length, kc, dp, vc, er, ep, uu, cls, num, lnk, lsz, lit, fb, tk, tv, rk, rl, ro, ra, rt, rp, oo, co, sk, kd, fr, fn, fi, vs, ll, li, lt)) : wpX_wantAfter post (oc, nI n, cp, lc, nI s.length, kc, dp, vc, er, ep, uu, cls, num, lnk, lsz, lit, fb, tk, tv, rk, rl, ro, ra, rt, rp, oo, co, sk, kd, fr, fn, fi, vs, ll, li, lt) (nI i) 1 := by
  have inn : vp_in (nI i) 40 := vp_in_nI hi (by decide)
  exact br_f (by decide) (br_f (by decide) ⟨inn, nm_r (e' := 13) ek (br_f (by decide) (br_f (by decide) (br_f (by decide) (br_f (by decide) (br_f (by decide) (br_f (by decide) (br_f (by decide) (br_f (by decide) (br_f (by decide) (br_f (by decide) (br_f (by decide) (br_f (by decide) (br_f (by decide) (br_f (by decide) (br_t (by decide) (h))))))))))))))))⟩)
theorem cx_1_14 (hi : i < 40) (hs : s.length < 40) (ek : tk (nI i).toNatClampNeg = 14) {post : Int32 → SX → Prop} (h : post 0 (oc, nI n, cp, lc, nI s.length, kc, dp, vc, er, ep, uu, cls, num, lnk, lsz, lit, fb, tk, tv, rk, rl, ro, ra, rt, rp, oo, co, sk, kd, fr, fn, fi, vs, ll, li, lt)) : wpX_wantAfter post (oc, nI n, cp, lc, nI s.length, kc, dp, vc, er, ep, uu, cls, num, lnk, lsz, lit, fb, tk, tv, rk, rl, ro, ra, rt, rp, oo, co, sk, kd, fr, fn, fi, vs, ll, li, lt) (nI i) 1 := by
  have inn : vp_in (nI i) 40 := vp_in_nI hi (by decide)
  exact br_f (by decide) (br_f (by decide) ⟨inn, nm_r (e' := 14) ek (br_f (by decide) (br_f (by decide) (br_f (by decide) (br_f (by decide) (br_f (by decide) (br_f (by decide) (br_f (by decide) (br_f (by decide) (br_f (by decide) (br_f (by decide) (br_f (by decide) (br_f (by decide) (br_f (by decide) (br_f (by decide) (br_f (by decide) (br_t (by decide) (h)))))))))))))))))⟩)
theorem cx_1_15 (hi : i < 40) (hs : s.length < 40) (ek : tk (nI i).toNatClampNeg = 15) {post : Int32 → SX → Prop} (h : post 0 (oc, nI n, cp, lc, nI s.length, kc, dp, vc, er, ep, uu, cls, num, lnk, lsz, lit, fb, tk, tv, rk, rl, ro, ra, rt, rp, oo, co, sk, kd, fr, fn, fi, vs, ll, li, lt)) : wpX_wantAfter post (oc, nI n, cp, lc, nI s.length, kc, dp, vc, er, ep, uu, cls, num, lnk, lsz, lit, fb, tk, tv, rk, rl, ro, ra, rt, rp, oo, co, sk, kd, fr, fn, fi, vs, ll, li, lt) (nI i) 1 := by
  have inn : vp_in (nI i) 40 := vp_in_nI hi (by decide)
  exact br_f (by decide) (br_f (by decide) ⟨inn, nm_r (e' := 15) ek (br_f (by decide) (br_f (by decide) (br_f (by decide) (br_f (by decide) (br_f (by decide) (br_f (by decide) (br_f (by decide) (br_f (by decide) (br_f (by decide) (br_f (by decide) (br_f (by decide) (br_f (by decide) (br_f (by decide) (br_f (by decide) (br_f (by decide) (br_f (by decide) (br_t (by decide) (h))))))))))))))))))⟩)
theorem cx_1_16 (hi : i < 40) (hs : s.length < 40) (ek : tk (nI i).toNatClampNeg = 16) {post : Int32 → SX → Prop} (h : post 0 (oc, nI n, cp, lc, nI s.length, kc, dp, vc, er, ep, uu, cls, num, lnk, lsz, lit, fb, tk, tv, rk, rl, ro, ra, rt, rp, oo, co, sk, kd, fr, fn, fi, vs, ll, li, lt)) : wpX_wantAfter post (oc, nI n, cp, lc, nI s.length, kc, dp, vc, er, ep, uu, cls, num, lnk, lsz, lit, fb, tk, tv, rk, rl, ro, ra, rt, rp, oo, co, sk, kd, fr, fn, fi, vs, ll, li, lt) (nI i) 1 := by
  have inn : vp_in (nI i) 40 := vp_in_nI hi (by decide)
  exact br_f (by decide) (br_f (by decide) ⟨inn, nm_r (e' := 16) ek (br_f (by decide) (br_f (by decide) (br_f (by decide) (br_f (by decide) (br_f (by decide) (br_f (by decide) (br_f (by decide) (br_f (by decide) (br_f (by decide) (br_f (by decide) (br_f (by decide) (br_f (by decide) (br_f (by decide) (br_f (by decide) (br_f (by decide) (br_f (by decide) (br_f (by decide) (br_t (by decide) (h)))))))))))))))))))⟩)
theorem cx_1_17 (hi : i < 40) (hs : s.length < 40) (ek : tk (nI i).toNatClampNeg = 17) {post : Int32 → SX → Prop} (h : post 0 (oc, nI n, cp, lc, nI s.length, kc, dp, vc, er, ep, uu, cls, num, lnk, lsz, lit, fb, tk, tv, rk, rl, ro, ra, rt, rp, oo, co, sk, kd, fr, fn, fi, vs, ll, li, lt)) : wpX_wantAfter post (oc, nI n, cp, lc, nI s.length, kc, dp, vc, er, ep, uu, cls, num, lnk, lsz, lit, fb, tk, tv, rk, rl, ro, ra, rt, rp, oo, co, sk, kd, fr, fn, fi, vs, ll, li, lt) (nI i) 1 := by
  have inn : vp_in (nI i) 40 := vp_in_nI hi (by decide)
  exact br_f (by decide) (br_f (by decide) ⟨inn, nm_r (e' := 17) ek (br_f (by decide) (br_f (by decide) (br_f (by decide) (br_f (by decide) (br_f (by decide) (br_f (by decide) (br_f (by decide) (br_f (by decide) (br_f (by decide) (br_f (by decide) (br_f (by decide) (br_f (by decide) (br_f (by decide) (br_f (by decide) (br_f (by decide) (br_f (by decide) (br_f (by decide) (br_f (by decide) (br_t (by decide) (h))))))))))))))))))))⟩)
theorem cx_1_18 (hi : i < 40) (hs : s.length < 40) (ek : tk (nI i).toNatClampNeg = 18) {post : Int32 → SX → Prop} (h : post 0 (oc, nI n, cp, lc, nI s.length, kc, dp, vc, er, ep, uu, cls, num, lnk, lsz, lit, fb, tk, tv, rk, rl, ro, ra, rt, rp, oo, co, sk, kd, fr, fn, fi, vs, ll, li, lt)) : wpX_wantAfter post (oc, nI n, cp, lc, nI s.length, kc, dp, vc, er, ep, uu, cls, num, lnk, lsz, lit, fb, tk, tv, rk, rl, ro, ra, rt, rp, oo, co, sk, kd, fr, fn, fi, vs, ll, li, lt) (nI i) 1 := by
  have inn : vp_in (nI i) 40 := vp_in_nI hi (by decide)
  exact br_f (by decide) (br_f (by decide) ⟨inn, nm_r (e' := 18) ek (br_f (by decide) (br_f (by decide) (br_f (by decide) (br_f (by decide) (br_f (by decide) (br_f (by decide) (br_f (by decide) (br_f (by decide) (br_f (by decide) (br_f (by decide) (br_f (by decide) (br_f (by decide) (br_f (by decide) (br_f (by decide) (br_f (by decide) (br_f (by decide) (br_f (by decide) (br_f (by decide) (br_f (by decide) (br_t (by decide) (h)))))))))))))))))))))⟩)
theorem cx_1_19 (hi : i < 40) (hs : s.length < 40) (ek : tk (nI i).toNatClampNeg = 19) {post : Int32 → SX → Prop} (h : post 3 (oc, nI n, cp, lc, nI s.length, kc, dp, vc, er, ep, uu, cls, num, lnk, lsz, lit, fb, tk, tv, rk, rl, ro, ra, rt, rp, oo, co, sk, kd, fr, fn, fi, vs, ll, li, lt)) : wpX_wantAfter post (oc, nI n, cp, lc, nI s.length, kc, dp, vc, er, ep, uu, cls, num, lnk, lsz, lit, fb, tk, tv, rk, rl, ro, ra, rt, rp, oo, co, sk, kd, fr, fn, fi, vs, ll, li, lt) (nI i) 1 := by
  have inn : vp_in (nI i) 40 := vp_in_nI hi (by decide)
  exact br_f (by decide) (br_f (by decide) ⟨inn, nm_r (e' := 19) ek (br_f (by decide) (br_t (by decide) (h)))⟩)
theorem cx_1_20 (hi : i < 40) (hs : s.length < 40) (ek : tk (nI i).toNatClampNeg = 20) {post : Int32 → SX → Prop} (h : post 3 (oc, nI n, cp, lc, nI s.length, kc, dp, vc, er, ep, uu, cls, num, lnk, lsz, lit, fb, tk, tv, rk, rl, ro, ra, rt, rp, oo, co, sk, kd, fr, fn, fi, vs, ll, li, lt)) : wpX_wantAfter post (oc, nI n, cp, lc, nI s.length, kc, dp, vc, er, ep, uu, cls, num, lnk, lsz, lit, fb, tk, tv, rk, rl, ro, ra, rt, rp, oo, co, sk, kd, fr, fn, fi, vs, ll, li, lt) (nI i) 1 := by
  have inn : vp_in (nI i) 40 := vp_in_nI hi (by decide)
  exact br_f (by decide) (br_f (by decide) ⟨inn, nm_r (e' := 20) ek (br_f (by decide) (br_t (by decide) (h)))⟩)
theorem cx_1_21 (hi : i < 40) (hs : s.length < 40) (ek : tk (nI i).toNatClampNeg = 21) {post : Int32 → SX → Prop} (h : post 3 (oc, nI n, cp, lc, nI s.length, kc, dp, vc, er, ep, uu, cls, num, lnk, lsz, lit, fb, tk, tv, rk, rl, ro, ra, rt, rp, oo, co, sk, kd, fr, fn, fi, vs, ll, li, lt)) : wpX_wantAfter post (oc, nI n, cp, lc, nI s.length, kc, dp, vc, er, ep, uu, cls, num, lnk, lsz, lit, fb, tk, tv, rk, rl, ro, ra, rt, rp, oo, co, sk, kd, fr, fn, fi, vs, ll, li, lt) (nI i) 1 := by
  have inn : vp_in (nI i) 40 := vp_in_nI hi (by decide)
  exact br_f (by decide) (br_f (by decide) ⟨inn, nm_r (e' := 21) ek (br_f (by decide) (br_t (by decide) (h)))⟩)
theorem cx_1_22 (hi : i < 40) (hs : s.length < 40) (ek : tk (nI i).toNatClampNeg = 22) {post : Int32 → SX → Prop} (h : post 3 (oc, nI n, cp, lc, nI s.length, kc, dp, vc, er, ep, uu, cls, num, lnk, lsz, lit, fb, tk, tv, rk, rl, ro, ra, rt, rp, oo, co, sk, kd, fr, fn, fi, vs, ll, li, lt)) : wpX_wantAfter post (oc, nI n, cp, lc, nI s.length, kc, dp, vc, er, ep, uu, cls, num, lnk, lsz, lit, fb, tk, tv, rk, rl, ro, ra, rt, rp, oo, co, sk, kd, fr, fn, fi, vs, ll, li, lt) (nI i) 1 := by
  have inn : vp_in (nI i) 40 := vp_in_nI hi (by decide)
  exact br_f (by decide) (br_f (by decide) ⟨inn, nm_r (e' := 22) ek (br_f (by decide) (br_t (by decide) (h)))⟩)
theorem cx_2_x (hi : i < 40) (hs : s.length < 40) (ek : ¬ tk (nI i).toNatClampNeg = 6) {post : Int32 → SX → Prop} (h : post 3 (oc, nI n, cp, lc, nI s.length, kc, dp, vc, er, ep, uu, cls, num, lnk, lsz, lit, fb, tk, tv, rk, rl, ro, ra, rt, rp, oo, co, sk, kd, fr, fn, fi, vs, ll, li, lt)) : wpX_wantAfter post (oc, nI n, cp, lc, nI s.length, kc, dp, vc, er, ep, uu, cls, num, lnk, lsz, lit, fb, tk, tv, rk, rl, ro, ra, rt, rp, oo, co, sk, kd, fr, fn, fi, vs, ll, li, lt) (nI i) 2 := by
  have inn : vp_in (nI i) 40 := vp_in_nI hi (by decide)
  exact br_t rfl ⟨inn, br_f ek h⟩
theorem cx_2_6 (hi : i < 40) (hs : s.length < 40) (ek : tk (nI i).toNatClampNeg = 6) {post : Int32 → SX → Prop} (h : post 0 (oc, nI n, cp, lc, nI s.length, kc, dp, vc, er, ep, uu, cls, num, lnk, lsz, lit, fb, tk, tv, rk, rl, ro, ra, rt, rp, oo, co, sk, kd, fr, fn, fi, vs, ll, li, lt)) : wpX_wantAfter post (oc, nI n, cp, lc, nI s.length, kc, dp, vc, er, ep, uu, cls, num, lnk, lsz, lit, fb, tk, tv, rk, rl, ro, ra, rt, rp, oo, co, sk, kd, fr, fn, fi, vs, ll, li, lt) (nI i) 2 := by
  have inn : vp_in (nI i) 40 := vp_in_nI hi (by decide)
  exact br_t rfl ⟨inn, br_t ek h⟩
theorem cx_close0 (hi : i < 40) (ek : tk (nI i).toNatClampNeg = 7) {post : Int32 → SX → Prop} (h : post 3 (oc, nI n, cp, lc, 0, kc, dp, vc, er, ep, uu, cls, num, lnk, lsz, lit, fb, tk, tv, rk, rl, ro, ra, rt, rp, oo, co, sk, kd, fr, fn, fi, vs, ll, li, lt)) : wpX_wantAfter post (oc, nI n, cp, lc, 0, kc, dp, vc, er, ep, uu, cls, num, lnk, lsz, lit, fb, tk, tv, rk, rl, ro, ra, rt, rp, oo, co, sk, kd, fr, fn, fi, vs, ll, li, lt) (nI i) 1 := by
  have inn : vp_in (nI i) 40 := vp_in_nI hi (by decide)
  exact br_f (by decide) (br_f (by decide) ⟨inn, nm_r (e' := 7) ek (br_f (by decide) (br_f (by decide) (br_f (by decide) (br_f (by decide) (br_f (by decide) (br_f (by decide) (br_f (by decide) (br_f (by decide) (br_t (by decide) (br_t rfl h))))))))))⟩)
theorem cx_close {e : Nat × Nat} {r : List (Nat × Nat)} (hi : i < 40) (hs : r.length < 40) (ek : tk (nI i).toNatClampNeg = 7) (hR : ca_RX T oo sk i (e :: r)) (hT : tk e.1 = nI (T e.1)) (hT2 : T e.1 < 23) {post : Int32 → SX → Prop} (h1 : (T e.1 = 9 ∨ T e.1 = 6 ∨ T e.1 = 5) → post 1 (oc, nI n, cp, lc, nI r.length, kc, dp, vc, er, ep, uu, cls, num, lnk, lsz, lit, fb, tk, tv, rk, rl, ro, ra, rt, rp, upd oo i (nI e.2), co, sk, kd, fr, fn, fi, vs, ll, li, lt)) (h3 : ¬ (T e.1 = 9 ∨ T e.1 = 6 ∨ T e.1 = 5) → post 3 (oc, nI n, cp, lc, nI r.length, kc, dp, vc, er, ep, uu, cls, num, lnk, lsz, lit, fb, tk, tv, rk, rl, ro, ra, rt, rp, upd oo i (nI e.2), co, sk, kd, fr, fn, fi, vs, ll, li, lt)) : wpX_wantAfter post (oc, nI n, cp, lc, nI (r.length + 1), kc, dp, vc, er, ep, uu, cls, num, lnk, lsz, lit, fb, tk, tv, rk, rl, ro, ra, rt, rp, oo, co, sk, kd, fr, fn, fi, vs, ll, li, lt) (nI i) 1 := by
  have inn : vp_in (nI i) 40 := vp_in_nI hi (by decide)
  obtain ⟨r1, r2, r3, r4, r5, rc, r6⟩ := hR
  have ce : (nI e.1).toNatClampNeg = e.1 := nI_clamp (by omega)
  have ie : vp_in (nI e.1) 40 := vp_in_nI (by omega) (by decide)
  have ne : ∀ b, b < 23 → T e.1 ≠ b → ¬ nI (T e.1) = nI b := fun b hb z y => z ((nI_eq (by omega) (by omega)).1 y)
  refine br_f (by decide) (br_f (by decide) ⟨inn, nm_r (e' := 7) ek (br_f (by decide) (br_f (by decide) (br_f (by decide) (br_f (by decide) (br_f (by decide) (br_f (by decide) (br_f (by decide) (br_f (by decide) (br_t (by decide) (?_))))))))))⟩)
  refine br_f (nI_ne0 (by omega) (by omega)) (nm_r (nI_pred _) ⟨vp_in_nI hs (by decide), nm_r (e' := nI e.1) (by rw [nI_clamp (by omega)]; exact r1) ⟨ie, nm_r (e' := nI (T e.1)) (by rw [ce]; exact hT) ?_⟩⟩)
  have fin : ∀ x : Int32, x = nI e.2 → wX_readClose_57 post (nI (T e.1)) x (nI i) oc (nI n) cp lc (nI r.length) kc dp vc er ep uu cls num lnk lsz lit fb tk tv rk rl ro ra rt rp oo co sk kd fr fn fi vs ll li lt := by
    intro x hx
    refine ⟨inn, nm_r (e' := upd oo i (nI e.2)) (by rw [nI_clamp (by omega), hx]) ?_⟩
    by_cases z9 : T e.1 = 9
    · exact br_t (by rw [z9]; rfl) (h1 (Or.inl z9))
    · refine br_f (ne 9 (by decide) z9) ?_
      by_cases z6 : T e.1 = 6
      · exact br_t (by rw [z6]; rfl) (h1 (Or.inr (Or.inl z6)))
      · refine br_f (ne 6 (by decide) z6) ?_
        by_cases z5 : T e.1 = 5
        · exact br_t (by rw [z5]; rfl) (h1 (Or.inr (Or.inr z5)))
        · exact br_f (ne 5 (by decide) z5) (h3 (fun y => by rcases y with y | y | y <;> contradiction))
  by_cases z9 : T e.1 = 9
  · refine br_t (by rw [z9]; rfl) ⟨ie, fin _ ?_⟩
    rw [ce]; exact r4 z9
  · exact br_f (ne 9 (by decide) z9) (fin _ (by rw [r5 z9]))
theorem cx_colon0 (hi : i < 40) (ek : tk (nI i).toNatClampNeg = 9) {post : Int32 → SX → Prop} (h : post 3 (oc, nI n, cp, lc, 0, kc, dp, vc, er, ep, uu, cls, num, lnk, lsz, lit, fb, tk, tv, rk, rl, ro, ra, rt, rp, oo, co, sk, kd, fr, fn, fi, vs, ll, li, lt)) : wpX_wantAfter post (oc, nI n, cp, lc, 0, kc, dp, vc, er, ep, uu, cls, num, lnk, lsz, lit, fb, tk, tv, rk, rl, ro, ra, rt, rp, oo, co, sk, kd, fr, fn, fi, vs, ll, li, lt) (nI i) 1 := by
  have inn : vp_in (nI i) 40 := vp_in_nI hi (by decide)
  exact br_f (by decide) (br_f (by decide) ⟨inn, nm_r (e' := 9) ek (br_f (by decide) (br_f (by decide) (br_f (by decide) (br_f (by decide) (br_f (by decide) (br_f (by decide) (br_f (by decide) (br_f (by decide) (br_f (by decide) (br_f (by decide) (br_t (by decide) (br_t rfl h))))))))))))⟩)
theorem cx_colon {e : Nat × Nat} {r : List (Nat × Nat)} (hi : i < 40) (hs : r.length < 40) (ek : tk (nI i).toNatClampNeg = 9) (hR : ca_RX T oo sk i (e :: r)) (hT : tk e.1 = nI (T e.1)) (hT2 : T e.1 < 23) {post : Int32 → SX → Prop} (h8 : T e.1 = 8 → post 0 (oc, nI n, cp, lc, nI r.length, kc, dp, vc, er, ep, uu, cls, num, lnk, lsz, lit, fb, tk, tv, rk, rl, ro, ra, rt, rp, upd oo i (nI e.1), co, sk, kd, fr, fn, fi, vs, ll, li, lt)) (hq : 20 ≤ T e.1 → post 0 (oc, nI n, cp, lc, nI (r.length + 1), kc, dp, vc, er, ep, uu, cls, num, lnk, lsz, lit, fb, tk, tv, rk, rl, ro, ra, rt, rp, upd oo i (nI e.1), co, upd sk r.length (nI i), kd, fr, fn, fi, vs, ll, li, lt)) (h3 : ¬ T e.1 = 8 → ¬ 20 ≤ T e.1 → post 3 (oc, nI n, cp, lc, nI (r.length + 1), kc, dp, vc, er, ep, uu, cls, num, lnk, lsz, lit, fb, tk, tv, rk, rl, ro, ra, rt, rp, upd oo i (nI e.1), co, sk, kd, fr, fn, fi, vs, ll, li, lt)) : wpX_wantAfter post (oc, nI n, cp, lc, nI (r.length + 1), kc, dp, vc, er, ep, uu, cls, num, lnk, lsz, lit, fb, tk, tv, rk, rl, ro, ra, rt, rp, oo, co, sk, kd, fr, fn, fi, vs, ll, li, lt) (nI i) 1 := by
  have inn : vp_in (nI i) 40 := vp_in_nI hi (by decide)
  obtain ⟨r1, r2, r3, r4, r5, rc, r6⟩ := hR
  have ce : (nI e.1).toNatClampNeg = e.1 := nI_clamp (by omega)
  have ie : vp_in (nI e.1) 40 := vp_in_nI (by omega) (by decide)
  have cr : (nI (r.length + 1) - 1).toNatClampNeg = r.length := by rw [nI_pred, nI_clamp (by omega)]
  have ir : vp_in (nI (r.length + 1) - 1) 40 := by rw [nI_pred]; exact vp_in_nI hs (by decide)
  have tke : tk (nI e.1).toNatClampNeg = nI (T e.1) := by rw [ce]; exact hT
  refine br_f (by decide) (br_f (by decide) ⟨inn, nm_r (e' := 9) ek (br_f (by decide) (br_f (by decide) (br_f (by decide) (br_f (by decide) (br_f (by decide) (br_f (by decide) (br_f (by decide) (br_f (by decide) (br_f (by decide) (br_f (by decide) (br_t (by decide) (?_))))))))))))⟩)
  refine br_f (nI_ne0 (by omega) (by omega)) ⟨ir, nm_r (e' := nI e.1) (by rw [cr]; exact r1) ⟨inn, nm_r (e' := upd oo i (nI e.1)) (by rw [nI_clamp (by omega)]) ⟨ie, ?_⟩⟩⟩
  by_cases z8 : T e.1 = 8
  · exact br_t (by rw [tke, z8]; rfl) (nm_r (nI_pred _) (h8 z8))
  · refine br_f (fun z => z8 ((nI_eq (b := 8) (by omega) (by decide)).1 (tke.symm.trans z))) ⟨ie, ?_⟩
    by_cases z20 : 20 ≤ T e.1
    · refine br_f (by rw [tke]; exact nI_nlt (b := 20) z20 (by omega)) (br_f (by decide) ⟨ir, nm_r (by rw [cr]) (hq z20)⟩)
    · exact br_t (by rw [tke]; exact nI_lt (b := 20) (by omega) (by decide)) (br_t rfl (h3 z8 z20))
end
end
section
section
variable {ob pl nds sts res era usd sp lv ret out : Int32} {ycls prp lst siz dnd yrk rn op nm ay prt ylo yhi sN sP sX sK it vr tk tv opd : Nat → Int32} {n i m : Nat} {post : Int32 → SY → Prop} {J6 : Int32 → Int32 → Int32 → (Nat → Int32) → (Nat → Int32) → (Nat → Int32) → (Nat → Int32) → (Nat → Int32) → (Nat → Int32) → (Nat → Int32) → (Nat → Int32) → (Nat → Int32) → (Nat → Int32) → (Nat → Int32) → (Nat → Int32) → (Nat → Int32) → (Nat → Int32) → (Nat → Int32) → (Nat → Int32) → (Nat → Int32) → (Nat → Int32) → (Nat → Int32) → (Nat → Int32) → (Nat → Int32) → (Nat → Int32) → Prop}
theorem and41_ {m : Nat} {P : Prop} (hm : m < 41) (h : P) : vp_in (nI m) 41 ∧ P := ⟨vp_in_nI hm (by decide), h⟩
theorem cy_0_0 {z0 : Int32} (hm : m < 41) (h : J6 1 (nI m) (nI (i + 1)) ycls prp lst siz dnd (tk) (tv) (opd) yrk rn op nm ay prt ylo yhi sN sP sX sK it vr) : wY_misfit_38 post J6 0 (nI m) (nI i) 0 z0 ob (nI n) pl nds sts res era usd sp lv ret out ycls prp lst siz dnd (tk) (tv) opd yrk rn op nm ay prt ylo yhi sN sP sX sK it vr :=
  br_f (by decide) (br_t (by decide) (br_t (by decide) (br_f (by decide) (br_f (by decide) (br_f (by decide) (br_f (by decide) (br_t (by decide) (br_f (by decide) (br_f (by decide) (br_f (by decide) (br_t (by decide) (nm_r (nI_1 i) (h)))))))))))))
theorem cy_0_1 {z0 : Int32} (hm : m < 41) (h : post (nI i) (ob, nI n, pl, nds, sts, res, era, usd, sp, lv, ret, out, ycls, prp, lst, siz, dnd, tk, tv, opd, yrk, rn, op, nm, ay, prt, ylo, yhi, sN, sP, sX, sK, it, vr)) : wY_misfit_38 post J6 0 (nI m) (nI i) 1 z0 ob (nI n) pl nds sts res era usd sp lv ret out ycls prp lst siz dnd (tk) (tv) opd yrk rn op nm ay prt ylo yhi sN sP sX sK it vr :=
  br_f (by decide) (br_t (by decide) (br_f (by decide) (br_f (by decide) (br_f (by decide) (br_f (by decide) (br_f (by decide) (br_f (by decide) (br_f (by decide) (br_f (by decide) (br_t (by decide) (br_f (by decide) (br_f (by decide) (br_f (by decide) (br_f (by decide) (h)))))))))))))))
theorem cy_0_2 {z0 : Int32} (hm : m < 41) (h : post (nI i) (ob, nI n, pl, nds, sts, res, era, usd, sp, lv, ret, out, ycls, prp, lst, siz, dnd, tk, tv, opd, yrk, rn, op, nm, ay, prt, ylo, yhi, sN, sP, sX, sK, it, vr)) : wY_misfit_38 post J6 0 (nI m) (nI i) 2 z0 ob (nI n) pl nds sts res era usd sp lv ret out ycls prp lst siz dnd (tk) (tv) opd yrk rn op nm ay prt ylo yhi sN sP sX sK it vr :=
  br_f (by decide) (br_t (by decide) (br_f (by decide) (br_f (by decide) (br_f (by decide) (br_f (by decide) (br_f (by decide) (br_f (by decide) (br_f (by decide) (br_f (by decide) (br_t (by decide) (br_f (by decide) (br_f (by decide) (br_f (by decide) (br_f (by decide) (h)))))))))))))))
theorem cy_0_3 {z0 : Int32} (hm : m < 41) (h : J6 1 (nI m) (nI (i + 1)) ycls prp lst siz dnd (tk) (tv) (opd) yrk rn op nm ay prt ylo yhi sN sP sX sK it vr) : wY_misfit_38 post J6 0 (nI m) (nI i) 3 z0 ob (nI n) pl nds sts res era usd sp lv ret out ycls prp lst siz dnd (tk) (tv) opd yrk rn op nm ay prt ylo yhi sN sP sX sK it vr :=
  br_f (by decide) (br_t (by decide) (br_f (by decide) (br_t (by decide) (br_f (by decide) (br_f (by decide) (br_f (by decide) (br_f (by decide) (br_t (by decide) (br_f (by decide) (br_f (by decide) (br_f (by decide) (br_t (by decide) (nm_r (nI_1 i) (h))))))))))))))
theorem cy_0_4 {z0 : Int32} (hm : m < 41) (h : J6 1 (nI m) (nI (i + 1)) ycls prp lst siz dnd (tk) (tv) (opd) yrk rn op nm ay prt ylo yhi sN sP sX sK it vr) : wY_misfit_38 post J6 0 (nI m) (nI i) 4 z0 ob (nI n) pl nds sts res era usd sp lv ret out ycls prp lst siz dnd (tk) (tv) opd yrk rn op nm ay prt ylo yhi sN sP sX sK it vr :=
  br_f (by decide) (br_t (by decide) (br_f (by decide) (br_f (by decide) (br_t (by decide) (br_f (by decide) (br_f (by decide) (br_f (by decide) (br_f (by decide) (br_t (by decide) (br_f (by decide) (br_f (by decide) (br_f (by decide) (br_t (by decide) (nm_r (nI_1 i) (h)))))))))))))))
theorem cy_0_5 {z0 : Int32} (hm : m < 41) (h : J6 2 (nI (m + 1)) (nI (i + 1)) ycls prp lst siz dnd (tk) (tv) (upd opd m 6) yrk rn op nm ay prt ylo yhi sN sP sX sK it vr) : wY_misfit_38 post J6 0 (nI m) (nI i) 5 z0 ob (nI n) pl nds sts res era usd sp lv ret out ycls prp lst siz dnd (tk) (tv) opd yrk rn op nm ay prt ylo yhi sN sP sX sK it vr :=
  br_f (by decide) (br_t (by decide) (br_f (by decide) (br_f (by decide) (br_f (by decide) (br_f (by decide) (br_f (by decide) (br_f (by decide) (br_f (by decide) (br_t (by decide) (br_t (by decide) (nm_r (nI_1 m) (br_t (by decide) (and41_ hm (nm_r (e' := upd opd m 6) (by rw [nI_clamp (by omega)]) (br_t (by decide) (nm_r (nI_1 i) (h)))))))))))))))))
theorem cy_0_6 {z0 : Int32} (hm : m < 41) (h : J6 0 (nI (m + 1)) (nI (i + 1)) ycls prp lst siz dnd (tk) (tv) (upd opd m 6) yrk rn op nm ay prt ylo yhi sN sP sX sK it vr) : wY_misfit_38 post J6 0 (nI m) (nI i) 6 z0 ob (nI n) pl nds sts res era usd sp lv ret out ycls prp lst siz dnd (tk) (tv) opd yrk rn op nm ay prt ylo yhi sN sP sX sK it vr :=
  br_f (by decide) (br_t (by decide) (br_f (by decide) (br_f (by decide) (br_f (by decide) (br_f (by decide) (br_f (by decide) (br_f (by decide) (br_t (by decide) (br_f (by decide) (br_t (by decide) (br_f (by decide) (br_f (by decide) (br_t (by decide) (nm_r (nI_1 m) (br_t (by decide) (and41_ hm (nm_r (e' := upd opd m 6) (by rw [nI_clamp (by omega)]) (br_t (by decide) (nm_r (nI_1 i) (h))))))))))))))))))))
theorem cy_0_7 {z0 : Int32} (hm : m < 41) (h : post (nI i) (ob, nI n, pl, nds, sts, res, era, usd, sp, lv, ret, out, ycls, prp, lst, siz, dnd, tk, tv, opd, yrk, rn, op, nm, ay, prt, ylo, yhi, sN, sP, sX, sK, it, vr)) : wY_misfit_38 post J6 0 (nI m) (nI i) 7 z0 ob (nI n) pl nds sts res era usd sp lv ret out ycls prp lst siz dnd (tk) (tv) opd yrk rn op nm ay prt ylo yhi sN sP sX sK it vr :=
  br_f (by decide) (br_t (by decide) (br_f (by decide) (br_f (by decide) (br_f (by decide) (br_f (by decide) (br_f (by decide) (br_f (by decide) (br_f (by decide) (br_f (by decide) (br_t (by decide) (br_f (by decide) (br_f (by decide) (br_f (by decide) (br_f (by decide) (h)))))))))))))))
theorem cy_0_8 {z0 : Int32} (hm : m < 41) (h : post (nI i) (ob, nI n, pl, nds, sts, res, era, usd, sp, lv, ret, out, ycls, prp, lst, siz, dnd, tk, tv, opd, yrk, rn, op, nm, ay, prt, ylo, yhi, sN, sP, sX, sK, it, vr)) : wY_misfit_38 post J6 0 (nI m) (nI i) 8 z0 ob (nI n) pl nds sts res era usd sp lv ret out ycls prp lst siz dnd (tk) (tv) opd yrk rn op nm ay prt ylo yhi sN sP sX sK it vr :=
  br_f (by decide) (br_t (by decide) (br_f (by decide) (br_f (by decide) (br_f (by decide) (br_f (by decide) (br_f (by decide) (br_f (by decide) (br_f (by decide) (br_f (by decide) (br_t (by decide) (br_f (by decide) (br_f (by decide) (br_f (by decide) (br_f (by decide) (h)))))))))))))))
theorem cy_0_9 {z0 : Int32} (hm : m < 41) (h : post (nI i) (ob, nI n, pl, nds, sts, res, era, usd, sp, lv, ret, out, ycls, prp, lst, siz, dnd, tk, tv, opd, yrk, rn, op, nm, ay, prt, ylo, yhi, sN, sP, sX, sK, it, vr)) : wY_misfit_38 post J6 0 (nI m) (nI i) 9 z0 ob (nI n) pl nds sts res era usd sp lv ret out ycls prp lst siz dnd (tk) (tv) opd yrk rn op nm ay prt ylo yhi sN sP sX sK it vr :=
  br_f (by decide) (br_t (by decide) (br_f (by decide) (br_f (by decide) (br_f (by decide) (br_f (by decide) (br_f (by decide) (br_f (by decide) (br_f (by decide) (br_f (by decide) (br_t (by decide) (br_f (by decide) (br_f (by decide) (br_f (by decide) (br_f (by decide) (h)))))))))))))))
theorem cy_0_10 {z0 : Int32} (hm : m < 41) (h : post (nI i) (ob, nI n, pl, nds, sts, res, era, usd, sp, lv, ret, out, ycls, prp, lst, siz, dnd, tk, tv, opd, yrk, rn, op, nm, ay, prt, ylo, yhi, sN, sP, sX, sK, it, vr)) : wY_misfit_38 post J6 0 (nI m) (nI i) 10 z0 ob (nI n) pl nds sts res era usd sp lv ret out ycls prp lst siz dnd (tk) (tv) opd yrk rn op nm ay prt ylo yhi sN sP sX sK it vr :=
  br_f (by decide) (br_t (by decide) (br_f (by decide) (br_f (by decide) (br_f (by decide) (br_f (by decide) (br_f (by decide) (br_f (by decide) (br_f (by decide) (br_f (by decide) (br_t (by decide) (br_f (by decide) (br_f (by decide) (br_f (by decide) (br_f (by decide) (h)))))))))))))))
theorem cy_0_11 {z0 : Int32} (hm : m < 41) (h : post (nI i) (ob, nI n, pl, nds, sts, res, era, usd, sp, lv, ret, out, ycls, prp, lst, siz, dnd, tk, tv, opd, yrk, rn, op, nm, ay, prt, ylo, yhi, sN, sP, sX, sK, it, vr)) : wY_misfit_38 post J6 0 (nI m) (nI i) 11 z0 ob (nI n) pl nds sts res era usd sp lv ret out ycls prp lst siz dnd (tk) (tv) opd yrk rn op nm ay prt ylo yhi sN sP sX sK it vr :=
  br_f (by decide) (br_t (by decide) (br_f (by decide) (br_f (by decide) (br_f (by decide) (br_f (by decide) (br_f (by decide) (br_f (by decide) (br_f (by decide) (br_f (by decide) (br_t (by decide) (br_f (by decide) (br_f (by decide) (br_f (by decide) (br_f (by decide) (h)))))))))))))))
theorem cy_0_12 {z0 : Int32} (hm : m < 41) (h : J6 0 (nI m) (nI (i + 1)) ycls prp lst siz dnd (tk) (tv) (opd) yrk rn op nm ay prt ylo yhi sN sP sX sK it vr) : wY_misfit_38 post J6 0 (nI m) (nI i) 12 z0 ob (nI n) pl nds sts res era usd sp lv ret out ycls prp lst siz dnd (tk) (tv) opd yrk rn op nm ay prt ylo yhi sN sP sX sK it vr :=
  br_f (by decide) (br_t (by decide) (br_f (by decide) (br_f (by decide) (br_f (by decide) (br_f (by decide) (br_f (by decide) (br_t (by decide) (br_f (by decide) (br_t (by decide) (br_f (by decide) (br_f (by decide) (br_f (by decide) (br_t (by decide) (nm_r (nI_1 i) (h)))))))))))))))
theorem cy_0_13 {z0 : Int32} (hm : m < 41) (h : post (nI i) (ob, nI n, pl, nds, sts, res, era, usd, sp, lv, ret, out, ycls, prp, lst, siz, dnd, tk, tv, opd, yrk, rn, op, nm, ay, prt, ylo, yhi, sN, sP, sX, sK, it, vr)) : wY_misfit_38 post J6 0 (nI m) (nI i) 13 z0 ob (nI n) pl nds sts res era usd sp lv ret out ycls prp lst siz dnd (tk) (tv) opd yrk rn op nm ay prt ylo yhi sN sP sX sK it vr :=
  br_f (by decide) (br_t (by decide) (br_f (by decide) (br_f (by decide) (br_f (by decide) (br_f (by decide) (br_f (by decide) (br_f (by decide) (br_f (by decide) (br_f (by decide) (br_t (by decide) (br_f (by decide) (br_f (by decide) (br_f (by decide) (br_f (by decide) (h)))))))))))))))
theorem cy_0_14 {z0 : Int32} (hm : m < 41) (h : post (nI i) (ob, nI n, pl, nds, sts, res, era, usd, sp, lv, ret, out, ycls, prp, lst, siz, dnd, tk, tv, opd, yrk, rn, op, nm, ay, prt, ylo, yhi, sN, sP, sX, sK, it, vr)) : wY_misfit_38 post J6 0 (nI m) (nI i) 14 z0 ob (nI n) pl nds sts res era usd sp lv ret out ycls prp lst siz dnd (tk) (tv) opd yrk rn op nm ay prt ylo yhi sN sP sX sK it vr :=
  br_f (by decide) (br_t (by decide) (br_f (by decide) (br_f (by decide) (br_f (by decide) (br_f (by decide) (br_f (by decide) (br_f (by decide) (br_f (by decide) (br_f (by decide) (br_t (by decide) (br_f (by decide) (br_f (by decide) (br_f (by decide) (br_f (by decide) (h)))))))))))))))
theorem cy_0_15 {z0 : Int32} (hm : m < 41) (h : post (nI i) (ob, nI n, pl, nds, sts, res, era, usd, sp, lv, ret, out, ycls, prp, lst, siz, dnd, tk, tv, opd, yrk, rn, op, nm, ay, prt, ylo, yhi, sN, sP, sX, sK, it, vr)) : wY_misfit_38 post J6 0 (nI m) (nI i) 15 z0 ob (nI n) pl nds sts res era usd sp lv ret out ycls prp lst siz dnd (tk) (tv) opd yrk rn op nm ay prt ylo yhi sN sP sX sK it vr :=
  br_f (by decide) (br_t (by decide) (br_f (by decide) (br_f (by decide) (br_f (by decide) (br_f (by decide) (br_f (by decide) (br_f (by decide) (br_f (by decide) (br_f (by decide) (br_t (by decide) (br_f (by decide) (br_f (by decide) (br_f (by decide) (br_f (by decide) (h)))))))))))))))
theorem cy_0_16 {z0 : Int32} (hm : m < 41) (h : J6 0 (nI m) (nI (i + 1)) ycls prp lst siz dnd (tk) (tv) (opd) yrk rn op nm ay prt ylo yhi sN sP sX sK it vr) : wY_misfit_38 post J6 0 (nI m) (nI i) 16 z0 ob (nI n) pl nds sts res era usd sp lv ret out ycls prp lst siz dnd (tk) (tv) opd yrk rn op nm ay prt ylo yhi sN sP sX sK it vr :=
  br_f (by decide) (br_t (by decide) (br_f (by decide) (br_f (by decide) (br_f (by decide) (br_f (by decide) (br_t (by decide) (br_f (by decide) (br_t (by decide) (br_f (by decide) (br_f (by decide) (br_f (by decide) (br_t (by decide) (nm_r (nI_1 i) (h))))))))))))))
theorem cy_0_17 {z0 : Int32} (hm : m < 41) (h : post (nI i) (ob, nI n, pl, nds, sts, res, era, usd, sp, lv, ret, out, ycls, prp, lst, siz, dnd, tk, tv, opd, yrk, rn, op, nm, ay, prt, ylo, yhi, sN, sP, sX, sK, it, vr)) : wY_misfit_38 post J6 0 (nI m) (nI i) 17 z0 ob (nI n) pl nds sts res era usd sp lv ret out ycls prp lst siz dnd (tk) (tv) opd yrk rn op nm ay prt ylo yhi sN sP sX sK it vr :=
  br_f (by decide) (br_t (by decide) (br_f (by decide) (br_f (by decide) (br_f (by decide) (br_f (by decide) (br_f (by decide) (br_f (by decide) (br_f (by decide) (br_f (by decide) (br_t (by decide) (br_f (by decide) (br_f (by decide) (br_f (by decide) (br_f (by decide) (h)))))))))))))))
theorem cy_0_18 {z0 : Int32} (hm : m < 41) (h : post (nI i) (ob, nI n, pl, nds, sts, res, era, usd, sp, lv, ret, out, ycls, prp, lst, siz, dnd, tk, tv, opd, yrk, rn, op, nm, ay, prt, ylo, yhi, sN, sP, sX, sK, it, vr)) : wY_misfit_38 post J6 0 (nI m) (nI i) 18 z0 ob (nI n) pl nds sts res era usd sp lv ret out ycls prp lst siz dnd (tk) (tv) opd yrk rn op nm ay prt ylo yhi sN sP sX sK it vr :=
  br_f (by decide) (br_t (by decide) (br_f (by decide) (br_f (by decide) (br_f (by decide) (br_f (by decide) (br_f (by decide) (br_f (by decide) (br_f (by decide) (br_f (by decide) (br_t (by decide) (br_f (by decide) (br_f (by decide) (br_f (by decide) (br_f (by decide) (h)))))))))))))))
theorem cy_0_19 {z0 : Int32} (hm : m < 41) (h : J6 1 (nI m) (nI (i + 1)) ycls prp lst siz dnd (tk) (tv) (opd) yrk rn op nm ay prt ylo yhi sN sP sX sK it vr) : wY_misfit_38 post J6 0 (nI m) (nI i) 19 z0 ob (nI n) pl nds sts res era usd sp lv ret out ycls prp lst siz dnd (tk) (tv) opd yrk rn op nm ay prt ylo yhi sN sP sX sK it vr :=
  br_f (by decide) (br_t (by decide) (br_f (by decide) (br_f (by decide) (br_f (by decide) (br_t (by decide) (br_f (by decide) (br_f (by decide) (br_f (by decide) (br_f (by decide) (br_t (by decide) (br_f (by decide) (br_f (by decide) (br_f (by decide) (br_t (by decide) (nm_r (nI_1 i) (h))))))))))))))))
theorem cy_0_20 {z0 : Int32} (hm : m < 41) (h : J6 2 (nI (m + 1)) (nI (i + 1)) ycls prp lst siz dnd (tk) (tv) (upd opd m 20) yrk rn op nm ay prt ylo yhi sN sP sX sK it vr) : wY_misfit_38 post J6 0 (nI m) (nI i) 20 z0 ob (nI n) pl nds sts res era usd sp lv ret out ycls prp lst siz dnd (tk) (tv) opd yrk rn op nm ay prt ylo yhi sN sP sX sK it vr :=
  br_f (by decide) (br_t (by decide) (br_f (by decide) (br_f (by decide) (br_f (by decide) (br_f (by decide) (br_f (by decide) (br_f (by decide) (br_f (by decide) (br_f (by decide) (br_f (by decide) (br_f (by decide) (br_t (by decide) (nm_r (nI_1 m) (br_f (by decide) (and41_ hm (nm_r (e' := upd opd m 20) (by rw [nI_clamp (by omega)]) (br_t (by decide) (nm_r (nI_1 i) (h)))))))))))))))))))
theorem cy_0_21 {z0 : Int32} (hm : m < 41) (h : J6 2 (nI (m + 1)) (nI (i + 1)) ycls prp lst siz dnd (tk) (tv) (upd opd m 20) yrk rn op nm ay prt ylo yhi sN sP sX sK it vr) : wY_misfit_38 post J6 0 (nI m) (nI i) 21 z0 ob (nI n) pl nds sts res era usd sp lv ret out ycls prp lst siz dnd (tk) (tv) opd yrk rn op nm ay prt ylo yhi sN sP sX sK it vr :=
  br_f (by decide) (br_t (by decide) (br_f (by decide) (br_f (by decide) (br_f (by decide) (br_f (by decide) (br_f (by decide) (br_f (by decide) (br_f (by decide) (br_f (by decide) (br_f (by decide) (br_f (by decide) (br_t (by decide) (nm_r (nI_1 m) (br_f (by decide) (and41_ hm (nm_r (e' := upd opd m 20) (by rw [nI_clamp (by omega)]) (br_t (by decide) (nm_r (nI_1 i) (h)))))))))))))))))))
theorem cy_0_22 {z0 : Int32} (hm : m < 41) (h : J6 2 (nI (m + 1)) (nI (i + 1)) ycls prp lst siz dnd (tk) (tv) (upd opd m 20) yrk rn op nm ay prt ylo yhi sN sP sX sK it vr) : wY_misfit_38 post J6 0 (nI m) (nI i) 22 z0 ob (nI n) pl nds sts res era usd sp lv ret out ycls prp lst siz dnd (tk) (tv) opd yrk rn op nm ay prt ylo yhi sN sP sX sK it vr :=
  br_f (by decide) (br_t (by decide) (br_f (by decide) (br_f (by decide) (br_f (by decide) (br_f (by decide) (br_f (by decide) (br_f (by decide) (br_f (by decide) (br_f (by decide) (br_f (by decide) (br_f (by decide) (br_t (by decide) (nm_r (nI_1 m) (br_f (by decide) (and41_ hm (nm_r (e' := upd opd m 20) (by rw [nI_clamp (by omega)]) (br_t (by decide) (nm_r (nI_1 i) (h)))))))))))))))))))
theorem cy_1_0 {z0 : Int32} (hm : m < 41) (h : post (nI i) (ob, nI n, pl, nds, sts, res, era, usd, sp, lv, ret, out, ycls, prp, lst, siz, dnd, tk, tv, opd, yrk, rn, op, nm, ay, prt, ylo, yhi, sN, sP, sX, sK, it, vr)) : wY_misfit_38 post J6 1 (nI m) (nI i) 0 z0 ob (nI n) pl nds sts res era usd sp lv ret out ycls prp lst siz dnd (tk) (tv) opd yrk rn op nm ay prt ylo yhi sN sP sX sK it vr :=
  br_f (by decide) (br_f (by decide) (br_f (by decide) (br_f (by decide) (br_t (by decide) (br_f (by decide) (br_f (by decide) (br_f (by decide) (br_f (by decide) (br_t (by decide) (br_t (by decide) (br_f (by decide) (h))))))))))))
theorem cy_1_1 {z0 : Int32} (hm : m < 41) (h : J6 1 (nI m) (nI (i + 1)) ycls prp lst siz dnd (tk) (tv) (opd) yrk rn op nm ay prt ylo yhi sN sP sX sK it vr) : wY_misfit_38 post J6 1 (nI m) (nI i) 1 z0 ob (nI n) pl nds sts res era usd sp lv ret out ycls prp lst siz dnd (tk) (tv) opd yrk rn op nm ay prt ylo yhi sN sP sX sK it vr :=
  br_f (by decide) (br_f (by decide) (br_t (by decide) (br_t (by decide) (br_f (by decide) (br_f (by decide) (br_f (by decide) (br_f (by decide) (br_f (by decide) (br_f (by decide) (br_f (by decide) (br_f (by decide) (br_f (by decide) (br_t (by decide) (nm_r (nI_1 i) (h)))))))))))))))
theorem cy_1_2 {z0 : Int32} (hm : m < 41) (h : J6 1 (nI m) (nI (i + 1)) ycls prp lst siz dnd (tk) (tv) (opd) yrk rn op nm ay prt ylo yhi sN sP sX sK it vr) : wY_misfit_38 post J6 1 (nI m) (nI i) 2 z0 ob (nI n) pl nds sts res era usd sp lv ret out ycls prp lst siz dnd (tk) (tv) opd yrk rn op nm ay prt ylo yhi sN sP sX sK it vr :=
  br_f (by decide) (br_f (by decide) (br_f (by decide) (br_t (by decide) (br_t (by decide) (br_f (by decide) (br_f (by decide) (br_f (by decide) (br_f (by decide) (br_f (by decide) (br_f (by decide) (br_f (by decide) (br_f (by decide) (br_f (by decide) (br_t (by decide) (nm_r (nI_1 i) (h))))))))))))))))
theorem cy_1_3 {z0 : Int32} (hm : m < 41) (h : post (nI i) (ob, nI n, pl, nds, sts, res, era, usd, sp, lv, ret, out, ycls, prp, lst, siz, dnd, tk, tv, opd, yrk, rn, op, nm, ay, prt, ylo, yhi, sN, sP, sX, sK, it, vr)) : wY_misfit_38 post J6 1 (nI m) (nI i) 3 z0 ob (nI n) pl nds sts res era usd sp lv ret out ycls prp lst siz dnd (tk) (tv) opd yrk rn op nm ay prt ylo yhi sN sP sX sK it vr :=
  br_f (by decide) (br_f (by decide) (br_f (by decide) (br_f (by decide) (br_t (by decide) (br_f (by decide) (br_f (by decide) (br_f (by decide) (br_f (by decide) (br_t (by decide) (br_t (by decide) (br_f (by decide) (h))))))))))))
theorem cy_1_4 {z0 : Int32} (hm : m < 41) (h : post (nI i) (ob, nI n, pl, nds, sts, res, era, usd, sp, lv, ret, out, ycls, prp, lst, siz, dnd, tk, tv, opd, yrk, rn, op, nm, ay, prt, ylo, yhi, sN, sP, sX, sK, it, vr)) : wY_misfit_38 post J6 1 (nI m) (nI i) 4 z0 ob (nI n) pl nds sts res era usd sp lv ret out ycls prp lst siz dnd (tk) (tv) opd yrk rn op nm ay prt ylo yhi sN sP sX sK it vr :=
  br_f (by decide) (br_f (by decide) (br_f (by decide) (br_f (by decide) (br_t (by decide) (br_f (by decide) (br_f (by decide) (br_f (by decide) (br_f (by decide) (br_t (by decide) (br_t (by decide) (br_f (by decide) (h))))))))))))
theorem cy_1_5 {z0 : Int32} (hm : m < 41) (h : post (nI i) (ob, nI n, pl, nds, sts, res, era, usd, sp, lv, ret, out, ycls, prp, lst, siz, dnd, tk, tv, opd, yrk, rn, op, nm, ay, prt, ylo, yhi, sN, sP, sX, sK, it, vr)) : wY_misfit_38 post J6 1 (nI m) (nI i) 5 z0 ob (nI n) pl nds sts res era usd sp lv ret out ycls prp lst siz dnd (tk) (tv) opd yrk rn op nm ay prt ylo yhi sN sP sX sK it vr :=
  br_f (by decide) (br_f (by decide) (br_f (by decide) (br_f (by decide) (br_t (by decide) (br_f (by decide) (br_f (by decide) (br_f (by decide) (br_f (by decide) (br_t (by decide) (br_t (by decide) (br_f (by decide) (h))))))))))))
theorem cy_1_6 {z0 : Int32} (hm : m < 41) (h : post (nI i) (ob, nI n, pl, nds, sts, res, era, usd, sp, lv, ret, out, ycls, prp, lst, siz, dnd, tk, tv, opd, yrk, rn, op, nm, ay, prt, ylo, yhi, sN, sP, sX, sK, it, vr)) : wY_misfit_38 post J6 1 (nI m) (nI i) 6 z0 ob (nI n) pl nds sts res era usd sp lv ret out ycls prp lst siz dnd (tk) (tv) opd yrk rn op nm ay prt ylo yhi sN sP sX sK it vr :=
  br_f (by decide) (br_f (by decide) (br_f (by decide) (br_f (by decide) (br_t (by decide) (br_f (by decide) (br_f (by decide) (br_f (by decide) (br_f (by decide) (br_t (by decide) (br_t (by decide) (br_f (by decide) (h))))))))))))
theorem cy_1_8 {z0 : Int32} (hm : m < 41) (h : J6 0 (nI (m + 1)) (nI (i + 1)) ycls prp lst siz dnd (tk) (tv) (upd opd m 8) yrk rn op nm ay prt ylo yhi sN sP sX sK it vr) : wY_misfit_38 post J6 1 (nI m) (nI i) 8 z0 ob (nI n) pl nds sts res era usd sp lv ret out ycls prp lst siz dnd (tk) (tv) opd yrk rn op nm ay prt ylo yhi sN sP sX sK it vr :=
  br_f (by decide) (br_f (by decide) (br_f (by decide) (br_f (by decide) (br_t (by decide) (br_t (by decide) (br_t (by decide) (nm_r (nI_1 m) (and41_ hm (nm_r (e' := upd opd m 8) (by rw [nI_clamp (by omega)]) (br_f (by decide) (br_f (by decide) (br_f (by decide) (br_f (by decide) (br_f (by decide) (br_f (by decide) (br_f (by decide) (br_t (by decide) (nm_r (nI_1 i) (h)))))))))))))))))))
theorem cy_1_10 {z0 : Int32} (hm : m < 41) (h : J6 0 (nI m) (nI (i + 1)) ycls prp lst siz dnd (tk) (tv) (opd) yrk rn op nm ay prt ylo yhi sN sP sX sK it vr) : wY_misfit_38 post J6 1 (nI m) (nI i) 10 z0 ob (nI n) pl nds sts res era usd sp lv ret out ycls prp lst siz dnd (tk) (tv) opd yrk rn op nm ay prt ylo yhi sN sP sX sK it vr :=
  br_f (by decide) (br_f (by decide) (br_f (by decide) (br_f (by decide) (br_f (by decide) (br_f (by decide) (br_f (by decide) (br_f (by decide) (br_f (by decide) (br_f (by decide) (br_f (by decide) (br_f (by decide) (br_f (by decide) (br_f (by decide) (br_f (by decide) (br_t (by decide) (nm_r (nI_1 i) (h)))))))))))))))))
theorem cy_1_11 {z0 : Int32} (hm : m < 41) (h : J6 0 (nI m) (nI (i + 1)) ycls prp lst siz dnd (tk) (tv) (opd) yrk rn op nm ay prt ylo yhi sN sP sX sK it vr) : wY_misfit_38 post J6 1 (nI m) (nI i) 11 z0 ob (nI n) pl nds sts res era usd sp lv ret out ycls prp lst siz dnd (tk) (tv) opd yrk rn op nm ay prt ylo yhi sN sP sX sK it vr :=
  br_f (by decide) (br_f (by decide) (br_f (by decide) (br_f (by decide) (br_f (by decide) (br_f (by decide) (br_f (by decide) (br_f (by decide) (br_f (by decide) (br_f (by decide) (br_f (by decide) (br_f (by decide) (br_f (by decide) (br_f (by decide) (br_f (by decide) (br_t (by decide) (nm_r (nI_1 i) (h)))))))))))))))))
theorem cy_1_12 {z0 : Int32} (hm : m < 41) (h : post (nI i) (ob, nI n, pl, nds, sts, res, era, usd, sp, lv, ret, out, ycls, prp, lst, siz, dnd, tk, tv, opd, yrk, rn, op, nm, ay, prt, ylo, yhi, sN, sP, sX, sK, it, vr)) : wY_misfit_38 post J6 1 (nI m) (nI i) 12 z0 ob (nI n) pl nds sts res era usd sp lv ret out ycls prp lst siz dnd (tk) (tv) opd yrk rn op nm ay prt ylo yhi sN sP sX sK it vr :=
  br_f (by decide) (br_f (by decide) (br_f (by decide) (br_f (by decide) (br_f (by decide) (br_f (by decide) (br_t (by decide) (br_f (by decide) (br_f (by decide) (br_f (by decide) (br_f (by decide) (br_t (by decide) (br_t (by decide) (br_f (by decide) (h))))))))))))))
theorem cy_1_13 {z0 : Int32} (hm : m < 41) (h : J6 0 (nI m) (nI (i + 1)) ycls prp lst siz dnd (tk) (tv) (opd) yrk rn op nm ay prt ylo yhi sN sP sX sK it vr) : wY_misfit_38 post J6 1 (nI m) (nI i) 13 z0 ob (nI n) pl nds sts res era usd sp lv ret out ycls prp lst siz dnd (tk) (tv) opd yrk rn op nm ay prt ylo yhi sN sP sX sK it vr :=
  br_f (by decide) (br_f (by decide) (br_f (by decide) (br_f (by decide) (br_f (by decide) (br_f (by decide) (br_f (by decide) (br_f (by decide) (br_f (by decide) (br_f (by decide) (br_f (by decide) (br_f (by decide) (br_f (by decide) (br_f (by decide) (br_f (by decide) (br_t (by decide) (nm_r (nI_1 i) (h)))))))))))))))))
theorem cy_1_14 {z0 : Int32} (hm : m < 41) (h : J6 0 (nI m) (nI (i + 1)) ycls prp lst siz dnd (tk) (tv) (opd) yrk rn op nm ay prt ylo yhi sN sP sX sK it vr) : wY_misfit_38 post J6 1 (nI m) (nI i) 14 z0 ob (nI n) pl nds sts res era usd sp lv ret out ycls prp lst siz dnd (tk) (tv) opd yrk rn op nm ay prt ylo yhi sN sP sX sK it vr :=
  br_f (by decide) (br_f (by decide) (br_f (by decide) (br_f (by decide) (br_f (by decide) (br_f (by decide) (br_f (by decide) (br_f (by decide) (br_f (by decide) (br_f (by decide) (br_f (by decide) (br_f (by decide) (br_f (by decide) (br_f (by decide) (br_f (by decide) (br_t (by decide) (nm_r (nI_1 i) (h)))))))))))))))))
theorem cy_1_15 {z0 : Int32} (hm : m < 41) (h : J6 0 (nI m) (nI (i + 1)) ycls prp lst siz dnd (tk) (tv) (opd) yrk rn op nm ay prt ylo yhi sN sP sX sK it vr) : wY_misfit_38 post J6 1 (nI m) (nI i) 15 z0 ob (nI n) pl nds sts res era usd sp lv ret out ycls prp lst siz dnd (tk) (tv) opd yrk rn op nm ay prt ylo yhi sN sP sX sK it vr :=
  br_f (by decide) (br_f (by decide) (br_f (by decide) (br_f (by decide) (br_f (by decide) (br_f (by decide) (br_f (by decide) (br_f (by decide) (br_f (by decide) (br_f (by decide) (br_f (by decide) (br_f (by decide) (br_f (by decide) (br_f (by decide) (br_f (by decide) (br_t (by decide) (nm_r (nI_1 i) (h)))))))))))))))))
theorem cy_1_16 {z0 : Int32} (hm : m < 41) (h : J6 0 (nI m) (nI (i + 1)) ycls prp lst siz dnd (tk) (tv) (opd) yrk rn op nm ay prt ylo yhi sN sP sX sK it vr) : wY_misfit_38 post J6 1 (nI m) (nI i) 16 z0 ob (nI n) pl nds sts res era usd sp lv ret out ycls prp lst siz dnd (tk) (tv) opd yrk rn op nm ay prt ylo yhi sN sP sX sK it vr :=
  br_f (by decide) (br_f (by decide) (br_f (by decide) (br_f (by decide) (br_f (by decide) (br_f (by decide) (br_f (by decide) (br_f (by decide) (br_f (by decide) (br_f (by decide) (br_f (by decide) (br_f (by decide) (br_f (by decide) (br_f (by decide) (br_f (by decide) (br_t (by decide) (nm_r (nI_1 i) (h)))))))))))))))))
theorem cy_1_17 {z0 : Int32} (hm : m < 41) (h : J6 0 (nI m) (nI (i + 1)) ycls prp lst siz dnd (tk) (tv) (opd) yrk rn op nm ay prt ylo yhi sN sP sX sK it vr) : wY_misfit_38 post J6 1 (nI m) (nI i) 17 z0 ob (nI n) pl nds sts res era usd sp lv ret out ycls prp lst siz dnd (tk) (tv) opd yrk rn op nm ay prt ylo yhi sN sP sX sK it vr :=
  br_f (by decide) (br_f (by decide) (br_f (by decide) (br_f (by decide) (br_f (by decide) (br_f (by decide) (br_f (by decide) (br_f (by decide) (br_f (by decide) (br_f (by decide) (br_f (by decide) (br_f (by decide) (br_f (by decide) (br_f (by decide) (br_f (by decide) (br_t (by decide) (nm_r (nI_1 i) (h)))))))))))))))))
theorem cy_1_18 {z0 : Int32} (hm : m < 41) (h : J6 0 (nI m) (nI (i + 1)) ycls prp lst siz dnd (tk) (tv) (opd) yrk rn op nm ay prt ylo yhi sN sP sX sK it vr) : wY_misfit_38 post J6 1 (nI m) (nI i) 18 z0 ob (nI n) pl nds sts res era usd sp lv ret out ycls prp lst siz dnd (tk) (tv) opd yrk rn op nm ay prt ylo yhi sN sP sX sK it vr :=
  br_f (by decide) (br_f (by decide) (br_f (by decide) (br_f (by decide) (br_f (by decide) (br_f (by decide) (br_f (by decide) (br_f (by decide) (br_f (by decide) (br_f (by decide) (br_f (by decide) (br_f (by decide) (br_f (by decide) (br_f (by decide) (br_f (by decide) (br_t (by decide) (nm_r (nI_1 i) (h)))))))))))))))))
theorem cy_1_19 {z0 : Int32} (hm : m < 41) (h : post (nI i) (ob, nI n, pl, nds, sts, res, era, usd, sp, lv, ret, out, ycls, prp, lst, siz, dnd, tk, tv, opd, yrk, rn, op, nm, ay, prt, ylo, yhi, sN, sP, sX, sK, it, vr)) : wY_misfit_38 post J6 1 (nI m) (nI i) 19 z0 ob (nI n) pl nds sts res era usd sp lv ret out ycls prp lst siz dnd (tk) (tv) opd yrk rn op nm ay prt ylo yhi sN sP sX sK it vr :=
  br_f (by decide) (br_f (by decide) (br_f (by decide) (br_f (by decide) (br_f (by decide) (br_t (by decide) (br_f (by decide) (br_f (by decide) (br_f (by decide) (br_f (by decide) (br_t (by decide) (br_t (by decide) (br_f (by decide) (h)))))))))))))
theorem cy_1_20 {z0 : Int32} (hm : m < 41) (h : post (nI i) (ob, nI n, pl, nds, sts, res, era, usd, sp, lv, ret, out, ycls, prp, lst, siz, dnd, tk, tv, opd, yrk, rn, op, nm, ay, prt, ylo, yhi, sN, sP, sX, sK, it, vr)) : wY_misfit_38 post J6 1 (nI m) (nI i) 20 z0 ob (nI n) pl nds sts res era usd sp lv ret out ycls prp lst siz dnd (tk) (tv) opd yrk rn op nm ay prt ylo yhi sN sP sX sK it vr :=
  br_f (by decide) (br_f (by decide) (br_f (by decide) (br_f (by decide) (br_f (by decide) (br_t (by decide) (br_f (by decide) (br_f (by decide) (br_f (by decide) (br_f (by decide) (br_t (by decide) (br_t (by decide) (br_f (by decide) (h)))))))))))))
theorem cy_1_21 {z0 : Int32} (hm : m < 41) (h : post (nI i) (ob, nI n, pl, nds, sts, res, era, usd, sp, lv, ret, out, ycls, prp, lst, siz, dnd, tk, tv, opd, yrk, rn, op, nm, ay, prt, ylo, yhi, sN, sP, sX, sK, it, vr)) : wY_misfit_38 post J6 1 (nI m) (nI i) 21 z0 ob (nI n) pl nds sts res era usd sp lv ret out ycls prp lst siz dnd (tk) (tv) opd yrk rn op nm ay prt ylo yhi sN sP sX sK it vr :=
  br_f (by decide) (br_f (by decide) (br_f (by decide) (br_f (by decide) (br_f (by decide) (br_t (by decide) (br_f (by decide) (br_f (by decide) (br_f (by decide) (br_f (by decide) (br_t (by decide) (br_t (by decide) (br_f (by decide) (h)))))))))))))
theorem cy_1_22 {z0 : Int32} (hm : m < 41) (h : post (nI i) (ob, nI n, pl, nds, sts, res, era, usd, sp, lv, ret, out, ycls, prp, lst, siz, dnd, tk, tv, opd, yrk, rn, op, nm, ay, prt, ylo, yhi, sN, sP, sX, sK, it, vr)) : wY_misfit_38 post J6 1 (nI m) (nI i) 22 z0 ob (nI n) pl nds sts res era usd sp lv ret out ycls prp lst siz dnd (tk) (tv) opd yrk rn op nm ay prt ylo yhi sN sP sX sK it vr :=
  br_f (by decide) (br_f (by decide) (br_f (by decide) (br_f (by decide) (br_f (by decide) (br_t (by decide) (br_f (by decide) (br_f (by decide) (br_f (by decide) (br_f (by decide) (br_t (by decide) (br_t (by decide) (br_f (by decide) (h)))))))))))))
theorem cy_2_6 {z0 : Int32} (hm : m < 41) (h : J6 0 (nI m) (nI (i + 1)) ycls prp lst siz dnd (tk) (tv) (opd) yrk rn op nm ay prt ylo yhi sN sP sX sK it vr) : wY_misfit_38 post J6 2 (nI m) (nI i) 6 z0 ob (nI n) pl nds sts res era usd sp lv ret out ycls prp lst siz dnd (tk) (tv) opd yrk rn op nm ay prt ylo yhi sN sP sX sK it vr :=
  br_t (by decide) (br_t (by decide) (br_t (by decide) (nm_r (nI_1 i) (h))))
theorem cy_2_x {z0 t : Int32} (ht : ¬ t = 6) (h : post (nI i) (ob, nI n, pl, nds, sts, res, era, usd, sp, lv, ret, out, ycls, prp, lst, siz, dnd, tk, tv, opd, yrk, rn, op, nm, ay, prt, ylo, yhi, sN, sP, sX, sK, it, vr)) : wY_misfit_38 post J6 2 (nI m) (nI i) t z0 ob (nI n) pl nds sts res era usd sp lv ret out ycls prp lst siz dnd (tk) (tv) opd yrk rn op nm ay prt ylo yhi sN sP sX sK it vr :=
  br_t (by decide) (br_f ht (br_f (by decide) h))
theorem cy_7_8 (hm : m < 41) (h : post (nI i) (ob, nI n, pl, nds, sts, res, era, usd, sp, lv, ret, out, ycls, prp, lst, siz, dnd, tk, tv, opd, yrk, rn, op, nm, ay, prt, ylo, yhi, sN, sP, sX, sK, it, vr)) : wY_misfit_38 post J6 1 (nI (m + 1)) (nI i) 7 8 ob (nI n) pl nds sts res era usd sp lv ret out ycls prp lst siz dnd (tk) (tv) opd yrk rn op nm ay prt ylo yhi sN sP sX sK it vr :=
  br_f (by decide) (br_f (by decide) (br_f (by decide) (br_f (by decide) (br_t (by decide) (br_f (by decide) (br_f (by decide) (br_f (by decide) (br_t (by decide) (br_f (by decide) (br_t (by decide) (br_t (by decide) (br_f (by decide) (h)))))))))))))
theorem cy_7_20 (hm : m < 41) (h : post (nI i) (ob, nI n, pl, nds, sts, res, era, usd, sp, lv, ret, out, ycls, prp, lst, siz, dnd, tk, tv, opd, yrk, rn, op, nm, ay, prt, ylo, yhi, sN, sP, sX, sK, it, vr)) : wY_misfit_38 post J6 1 (nI (m + 1)) (nI i) 7 20 ob (nI n) pl nds sts res era usd sp lv ret out ycls prp lst siz dnd (tk) (tv) opd yrk rn op nm ay prt ylo yhi sN sP sX sK it vr :=
  br_f (by decide) (br_f (by decide) (br_f (by decide) (br_f (by decide) (br_t (by decide) (br_f (by decide) (br_f (by decide) (br_f (by decide) (br_t (by decide) (br_f (by decide) (br_t (by decide) (br_t (by decide) (br_f (by decide) (h)))))))))))))
theorem cy_7_6 (hm : m < 41) (h : J6 1 (nI m) (nI (i + 1)) ycls prp lst siz dnd (tk) (tv) (opd) yrk rn op nm ay prt ylo yhi sN sP sX sK it vr) : wY_misfit_38 post J6 1 (nI (m + 1)) (nI i) 7 6 ob (nI n) pl nds sts res era usd sp lv ret out ycls prp lst siz dnd (tk) (tv) opd yrk rn op nm ay prt ylo yhi sN sP sX sK it vr :=
  br_f (by decide) (br_f (by decide) (br_f (by decide) (br_f (by decide) (br_t (by decide) (br_f (by decide) (br_f (by decide) (br_f (by decide) (br_t (by decide) (br_t rfl (br_f (by decide) (br_f (by decide) (br_t (by decide) (nm_r (pk_m1 m) (br_f (by decide) (br_f (by decide) (br_t (by decide) (nm_r (nI_1 i) (h))))))))))))))))))
theorem cy_7_e (hm : m < 41) (h : post (nI i) (ob, nI n, pl, nds, sts, res, era, usd, sp, lv, ret, out, ycls, prp, lst, siz, dnd, tk, tv, opd, yrk, rn, op, nm, ay, prt, ylo, yhi, sN, sP, sX, sK, it, vr)) : wY_misfit_38 post J6 1 (nI 0) (nI i) 7 (-1) ob (nI n) pl nds sts res era usd sp lv ret out ycls prp lst siz dnd (tk) (tv) opd yrk rn op nm ay prt ylo yhi sN sP sX sK it vr :=
  br_f (by decide) (br_f (by decide) (br_f (by decide) (br_f (by decide) (br_t (by decide) (br_f (by decide) (br_f (by decide) (br_f (by decide) (br_t (by decide) (br_f (by decide) (br_t (by decide) (br_t (by decide) (br_f (by decide) (h)))))))))))))
theorem cy_9_8 (hm : m < 41) (h : J6 0 (nI m) (nI (i + 1)) ycls prp lst siz dnd (tk) (tv) (opd) yrk rn op nm ay prt ylo yhi sN sP sX sK it vr) : wY_misfit_38 post J6 1 (nI (m + 1)) (nI i) 9 8 ob (nI n) pl nds sts res era usd sp lv ret out ycls prp lst siz dnd (tk) (tv) opd yrk rn op nm ay prt ylo yhi sN sP sX sK it vr :=
  br_f (by decide) (br_f (by decide) (br_f (by decide) (br_f (by decide) (br_t (by decide) (br_f (by decide) (br_f (by decide) (br_t (by decide) (br_t rfl (br_f (by decide) (br_f (by decide) (br_t (by decide) (nm_r (pk_m1 m) (br_f (by decide) (br_t (by decide) (br_f (by decide) (br_t (by decide) (nm_r (nI_1 i) (h))))))))))))))))))
theorem cy_9_20 (hm : m < 41) (h : J6 0 (nI (m + 1)) (nI (i + 1)) ycls prp lst siz dnd (tk) (tv) (upd opd m 6) yrk rn op nm ay prt ylo yhi sN sP sX sK it vr) : wY_misfit_38 post J6 1 (nI (m + 1)) (nI i) 9 20 ob (nI n) pl nds sts res era usd sp lv ret out ycls prp lst siz dnd (tk) (tv) opd yrk rn op nm ay prt ylo yhi sN sP sX sK it vr :=
  br_f (by decide) (br_f (by decide) (br_f (by decide) (br_f (by decide) (br_t (by decide) (br_f (by decide) (br_f (by decide) (br_t (by decide) (br_f (by decide) (br_t rfl (br_f (by decide) (br_f (by decide) (br_t (by decide) (nm_r (pk_m1 m) (br_f (by decide) (br_t (by decide) (br_t rfl (nm_r (nI_1 m) (and41_ hm (nm_r (e' := upd opd m 6) (by rw [nI_clamp (by omega)]) (br_t (by decide) (nm_r (nI_1 i) (h))))))))))))))))))))))
theorem cy_9_6 (hm : m < 41) (h : post (nI i) (ob, nI n, pl, nds, sts, res, era, usd, sp, lv, ret, out, ycls, prp, lst, siz, dnd, tk, tv, opd, yrk, rn, op, nm, ay, prt, ylo, yhi, sN, sP, sX, sK, it, vr)) : wY_misfit_38 post J6 1 (nI (m + 1)) (nI i) 9 6 ob (nI n) pl nds sts res era usd sp lv ret out ycls prp lst siz dnd (tk) (tv) opd yrk rn op nm ay prt ylo yhi sN sP sX sK it vr :=
  br_f (by decide) (br_f (by decide) (br_f (by decide) (br_f (by decide) (br_t (by decide) (br_f (by decide) (br_f (by decide) (br_t (by decide) (br_f (by decide) (br_f (by decide) (br_f (by decide) (br_t (by decide) (br_t (by decide) (br_f (by decide) (h))))))))))))))
theorem cy_9_e (hm : m < 41) (h : post (nI i) (ob, nI n, pl, nds, sts, res, era, usd, sp, lv, ret, out, ycls, prp, lst, siz, dnd, tk, tv, opd, yrk, rn, op, nm, ay, prt, ylo, yhi, sN, sP, sX, sK, it, vr)) : wY_misfit_38 post J6 1 (nI 0) (nI i) 9 (-1) ob (nI n) pl nds sts res era usd sp lv ret out ycls prp lst siz dnd (tk) (tv) opd yrk rn op nm ay prt ylo yhi sN sP sX sK it vr :=
  br_f (by decide) (br_f (by decide) (br_f (by decide) (br_f (by decide) (br_t (by decide) (br_f (by decide) (br_f (by decide) (br_t (by decide) (br_f (by decide) (br_f (by decide) (br_f (by decide) (br_t (by decide) (br_t (by decide) (br_f (by decide) (h))))))))))))))
end
end
section
section
variable {oc cp lc kc dp vc er ep uu : Int32} {cls num lnk lsz lit fb rk rl ro ra rt rp co kd fr fn fi vs ll li lt : Nat → Int32} {ob pl nds sts res era usd sp lv ret out : Int32} {ycls prp lst siz dnd yrk rn op nm ay prt ylo yhi sN sP sX sK it vr : Nat → Int32} {tk tv : Nat → Int32} {n : Nat} {T : Nat → Nat}
theorem ca_stepX7 (hK : ∀ i, i < n → tk i = nI (T i) ∧ T i < 23) {i : Nat} {s : List (Nat × Nat)} {oo sk opd : Nat → Int32} {z0 : Int32} (hi : i < n) (hs40 : s.length < 40) (hm : s.length < 41) (hl : s.length ≤ i) (hR : ca_RX T oo sk i s) (hY : ca_RY T opd s) (hz0 : s = [] → z0 = -1) (hz1 : ∀ e r, s = e :: r → z0 = ca_cl (T e.1)) (ht : T i = 7) (ek : tk (nI i).toNatClampNeg = 7) (hi40 : i < 40) :
  (ca_st T i 1 s = none ∧ (∃ (sc' : Int32) (oo' sk' : Nat → Int32), ∀ post : Int32 → SX → Prop, post 3 (oc, nI n, cp, lc, sc', kc, dp, vc, er, ep, uu, cls, num, lnk, lsz, lit, fb, tk, tv, rk, rl, ro, ra, rt, rp, oo', co, sk', kd, fr, fn, fi, vs, ll, li, lt) → wpX_wantAfter post (oc, nI n, cp, lc, nI s.length, kc, dp, vc, er, ep, uu, cls, num, lnk, lsz, lit, fb, tk, tv, rk, rl, ro, ra, rt, rp, oo, co, sk, kd, fr, fn, fi, vs, ll, li, lt) (nI i) 1) ∧ (∃ opd' : Nat → Int32, ∀ (post : Int32 → SY → Prop) (J6 : Int32 → Int32 → Int32 → (Nat → Int32) → (Nat → Int32) → (Nat → Int32) → (Nat → Int32) → (Nat → Int32) → (Nat → Int32) → (Nat → Int32) → (Nat → Int32) → (Nat → Int32) → (Nat → Int32) → (Nat → Int32) → (Nat → Int32) → (Nat → Int32) → (Nat → Int32) → (Nat → Int32) → (Nat → Int32) → (Nat → Int32) → (Nat → Int32) → (Nat → Int32) → (Nat → Int32) → (Nat → Int32) → (Nat → Int32) → Prop), post (nI i) (ob, nI n, pl, nds, sts, res, era, usd, sp, lv, ret, out, ycls, prp, lst, siz, dnd, tk, tv, opd', yrk, rn, op, nm, ay, prt, ylo, yhi, sN, sP, sX, sK, it, vr) → wY_misfit_38 post J6 1 (nI s.length) (nI i) 7 z0 ob (nI n) pl nds sts res era usd sp lv ret out ycls prp lst siz dnd (tk) (tv) opd yrk rn op nm ay prt ylo yhi sN sP sX sK it vr)) ∨
  (∃ (w' : Nat) (s' : List (Nat × Nat)), ca_st T i 1 s = some (w', s') ∧ w' < 3 ∧ s'.length ≤ i + 1 ∧ (∃ oo' sk' : Nat → Int32, ca_RX T oo' sk' (i + 1) s' ∧ (∀ j, j < i → oo' j = oo j) ∧ (7 = 7 ∨ 7 = 9 → ∃ e r, s = e :: r ∧ oo' i = nI e.2) ∧ ∀ post : Int32 → SX → Prop, post (nI w') (oc, nI n, cp, lc, nI s'.length, kc, dp, vc, er, ep, uu, cls, num, lnk, lsz, lit, fb, tk, tv, rk, rl, ro, ra, rt, rp, oo', co, sk', kd, fr, fn, fi, vs, ll, li, lt) → wpX_wantAfter post (oc, nI n, cp, lc, nI s.length, kc, dp, vc, er, ep, uu, cls, num, lnk, lsz, lit, fb, tk, tv, rk, rl, ro, ra, rt, rp, oo, co, sk, kd, fr, fn, fi, vs, ll, li, lt) (nI i) 1) ∧
    (∃ opd' : Nat → Int32, ca_RY T opd' s' ∧ ∀ (post : Int32 → SY → Prop) (J6 : Int32 → Int32 → Int32 → (Nat → Int32) → (Nat → Int32) → (Nat → Int32) → (Nat → Int32) → (Nat → Int32) → (Nat → Int32) → (Nat → Int32) → (Nat → Int32) → (Nat → Int32) → (Nat → Int32) → (Nat → Int32) → (Nat → Int32) → (Nat → Int32) → (Nat → Int32) → (Nat → Int32) → (Nat → Int32) → (Nat → Int32) → (Nat → Int32) → (Nat → Int32) → (Nat → Int32) → (Nat → Int32) → (Nat → Int32) → Prop), J6 (nI w') (nI s'.length) (nI (i + 1)) ycls prp lst siz dnd (tk) (tv) (opd') yrk rn op nm ay prt ylo yhi sN sP sX sK it vr → wY_misfit_38 post J6 1 (nI s.length) (nI i) 7 z0 ob (nI n) pl nds sts res era usd sp lv ret out ycls prp lst siz dnd (tk) (tv) opd yrk rn op nm ay prt ylo yhi sN sP sX sK it vr)) := by
  cases s with
  | nil =>
    rw [hz0 rfl]
    exact Or.inl ⟨by unfold ca_st; rw [ht]; rfl, ⟨_, _, _, fun post h => cx_close0 hi40 ek h⟩, ⟨_, fun post J6 h => cy_7_e (m := 0) (by decide) h⟩⟩
  | cons e r =>
    rw [hz1 e r rfl]
    rw [List.length_cons] at hs40 hm hl
    obtain ⟨r1, r2, r3, r4, r5, rc, r6⟩ := id hR
    obtain ⟨q1, q2⟩ := id hY
    obtain ⟨hke, hTe⟩ := hK e.1 (by omega)
    by_cases h3 : T e.1 = 9 ∨ T e.1 = 6 ∨ T e.1 = 5
    · have c6 : ca_cl (T e.1) = 6 := by
        unfold ca_cl; rw [if_neg (by omega), if_neg (by omega)]
      rw [c6]
      refine Or.inr ⟨1, r, by unfold ca_st; rw [ht]; exact if_pos h3, by decide, by omega, ⟨_, sk, ca_RX_i (ca_RX_oo (x := nI e.2) r6), fun j hj => pk_un (by omega), fun _ => ⟨e, r, rfl, pk_us⟩, fun post h => ?_⟩, ⟨opd, q2, fun post J6 h => cy_7_6 (m := r.length) (by omega) h⟩⟩
      exact cx_close hi40 (by omega) ek hR hke hTe (fun _ => h) (fun z => absurd h3 z)
    · refine Or.inl ⟨by unfold ca_st; rw [ht]; exact if_neg h3, ⟨_, _, _, fun post h => cx_close hi40 (by omega) ek hR hke hTe (fun z => absurd z h3) (fun _ => h)⟩, ⟨opd, fun post J6 h => ?_⟩⟩
      by_cases h8 : T e.1 = 8
      · rw [show ca_cl (T e.1) = 8 from if_pos h8]
        exact cy_7_8 (m := r.length) (by omega) h
      · by_cases h20 : 20 ≤ T e.1
        · rw [show ca_cl (T e.1) = 20 from (if_neg h8).trans (if_pos h20)]
          exact cy_7_20 (m := r.length) (by omega) h
        · exact absurd rc (by omega)
theorem ca_stepX9 (hK : ∀ i, i < n → tk i = nI (T i) ∧ T i < 23) {i : Nat} {s : List (Nat × Nat)} {oo sk opd : Nat → Int32} {z0 : Int32} (hi : i < n) (hs40 : s.length < 40) (hm : s.length < 41) (hl : s.length ≤ i) (hR : ca_RX T oo sk i s) (hY : ca_RY T opd s) (hz0 : s = [] → z0 = -1) (hz1 : ∀ e r, s = e :: r → z0 = ca_cl (T e.1)) (ht : T i = 9) (ek : tk (nI i).toNatClampNeg = 9) (hi40 : i < 40) :
  (ca_st T i 1 s = none ∧ (∃ (sc' : Int32) (oo' sk' : Nat → Int32), ∀ post : Int32 → SX → Prop, post 3 (oc, nI n, cp, lc, sc', kc, dp, vc, er, ep, uu, cls, num, lnk, lsz, lit, fb, tk, tv, rk, rl, ro, ra, rt, rp, oo', co, sk', kd, fr, fn, fi, vs, ll, li, lt) → wpX_wantAfter post (oc, nI n, cp, lc, nI s.length, kc, dp, vc, er, ep, uu, cls, num, lnk, lsz, lit, fb, tk, tv, rk, rl, ro, ra, rt, rp, oo, co, sk, kd, fr, fn, fi, vs, ll, li, lt) (nI i) 1) ∧ (∃ opd' : Nat → Int32, ∀ (post : Int32 → SY → Prop) (J6 : Int32 → Int32 → Int32 → (Nat → Int32) → (Nat → Int32) → (Nat → Int32) → (Nat → Int32) → (Nat → Int32) → (Nat → Int32) → (Nat → Int32) → (Nat → Int32) → (Nat → Int32) → (Nat → Int32) → (Nat → Int32) → (Nat → Int32) → (Nat → Int32) → (Nat → Int32) → (Nat → Int32) → (Nat → Int32) → (Nat → Int32) → (Nat → Int32) → (Nat → Int32) → (Nat → Int32) → (Nat → Int32) → (Nat → Int32) → Prop), post (nI i) (ob, nI n, pl, nds, sts, res, era, usd, sp, lv, ret, out, ycls, prp, lst, siz, dnd, tk, tv, opd', yrk, rn, op, nm, ay, prt, ylo, yhi, sN, sP, sX, sK, it, vr) → wY_misfit_38 post J6 1 (nI s.length) (nI i) 9 z0 ob (nI n) pl nds sts res era usd sp lv ret out ycls prp lst siz dnd (tk) (tv) opd yrk rn op nm ay prt ylo yhi sN sP sX sK it vr)) ∨
  (∃ (w' : Nat) (s' : List (Nat × Nat)), ca_st T i 1 s = some (w', s') ∧ w' < 3 ∧ s'.length ≤ i + 1 ∧ (∃ oo' sk' : Nat → Int32, ca_RX T oo' sk' (i + 1) s' ∧ (∀ j, j < i → oo' j = oo j) ∧ (9 = 7 ∨ 9 = 9 → ∃ e r, s = e :: r ∧ oo' i = nI e.2) ∧ ∀ post : Int32 → SX → Prop, post (nI w') (oc, nI n, cp, lc, nI s'.length, kc, dp, vc, er, ep, uu, cls, num, lnk, lsz, lit, fb, tk, tv, rk, rl, ro, ra, rt, rp, oo', co, sk', kd, fr, fn, fi, vs, ll, li, lt) → wpX_wantAfter post (oc, nI n, cp, lc, nI s.length, kc, dp, vc, er, ep, uu, cls, num, lnk, lsz, lit, fb, tk, tv, rk, rl, ro, ra, rt, rp, oo, co, sk, kd, fr, fn, fi, vs, ll, li, lt) (nI i) 1) ∧
    (∃ opd' : Nat → Int32, ca_RY T opd' s' ∧ ∀ (post : Int32 → SY → Prop) (J6 : Int32 → Int32 → Int32 → (Nat → Int32) → (Nat → Int32) → (Nat → Int32) → (Nat → Int32) → (Nat → Int32) → (Nat → Int32) → (Nat → Int32) → (Nat → Int32) → (Nat → Int32) → (Nat → Int32) → (Nat → Int32) → (Nat → Int32) → (Nat → Int32) → (Nat → Int32) → (Nat → Int32) → (Nat → Int32) → (Nat → Int32) → (Nat → Int32) → (Nat → Int32) → (Nat → Int32) → (Nat → Int32) → (Nat → Int32) → Prop), J6 (nI w') (nI s'.length) (nI (i + 1)) ycls prp lst siz dnd (tk) (tv) (opd') yrk rn op nm ay prt ylo yhi sN sP sX sK it vr → wY_misfit_38 post J6 1 (nI s.length) (nI i) 9 z0 ob (nI n) pl nds sts res era usd sp lv ret out ycls prp lst siz dnd (tk) (tv) opd yrk rn op nm ay prt ylo yhi sN sP sX sK it vr)) := by
  cases s with
  | nil =>
    rw [hz0 rfl]
    exact Or.inl ⟨by unfold ca_st; rw [ht]; rfl, ⟨_, _, _, fun post h => cx_colon0 hi40 ek h⟩, ⟨_, fun post J6 h => cy_9_e (m := 0) (by decide) h⟩⟩
  | cons e r =>
    rw [hz1 e r rfl]
    rw [List.length_cons] at hs40 hm hl
    obtain ⟨r1, r2, r3, r4, r5, rc, r6⟩ := id hR
    obtain ⟨q1, q2⟩ := id hY
    obtain ⟨hke, hTe⟩ := hK e.1 (by omega)
    by_cases h8 : T e.1 = 8
    · rw [show ca_cl (T e.1) = 8 from if_pos h8]
      refine Or.inr ⟨0, r, by unfold ca_st; rw [ht]; exact if_pos h8, by decide, by omega, ⟨_, sk, ca_RX_i (ca_RX_oo (x := nI e.1) r6), fun j hj => pk_un (by omega), fun _ => ⟨e, r, rfl, by rw [r5 (by omega)]; exact pk_us⟩, fun post h => ?_⟩, ⟨opd, q2, fun post J6 h => cy_9_8 (m := r.length) (by omega) h⟩⟩
      exact cx_colon hi40 (by omega) ek hR hke hTe (fun _ => h) (fun z => absurd z (by omega)) (fun z => absurd h8 z)
    · by_cases h20 : 20 ≤ T e.1
      · rw [show ca_cl (T e.1) = 20 from (if_neg h8).trans (if_pos h20)]
        refine Or.inr ⟨0, (i, e.2) :: r, by unfold ca_st; rw [ht]; exact (if_neg h8).trans (if_pos h20), by decide, by rw [List.length_cons]; omega, ⟨_, upd sk r.length (nI i), ⟨pk_us, by show i < i + 1; omega, by show e.2 ≤ i; omega, fun _ => ?_, fun z => absurd ht z, by show T i = 5 ∨ T i = 6 ∨ T i = 8 ∨ T i = 9 ∨ 20 ≤ T i; omega, ca_RX_i (ca_RX_sk (Nat.le_refl _) (ca_RX_oo (x := nI e.1) r6))⟩, fun j hj => pk_un (by omega), fun _ => ⟨e, r, rfl, by rw [r5 (by omega)]; exact pk_us⟩, fun post h => ?_⟩, ⟨_, ⟨pk_us.trans (by show _ = ca_cl (T i); rw [ht]; rfl), ca_RY_up (Nat.le_refl _) q2⟩, fun post J6 h => cy_9_20 (m := r.length) (by omega) h⟩⟩
        · rw [r5 (by omega)]; exact pk_us
        · exact cx_colon hi40 (by omega) ek hR hke hTe (fun z => absurd z h8) (fun _ => h) (fun _ z => absurd h20 z)
      · rw [show ca_cl (T e.1) = 6 from (if_neg h8).trans (if_neg h20)]
        exact Or.inl ⟨by unfold ca_st; rw [ht]; exact (if_neg h8).trans (if_neg h20), ⟨_, _, _, fun post h => cx_colon hi40 (by omega) ek hR hke hTe (fun z => absurd z h8) (fun z => absurd z h20) (fun _ _ => h)⟩, ⟨_, fun post J6 h => cy_9_6 (m := r.length) (by omega) h⟩⟩
theorem ca_step (hn : n ≤ 40) (hK : ∀ i, i < n → tk i = nI (T i) ∧ T i < 23) {i w : Nat} {s : List (Nat × Nat)} {oo sk opd : Nat → Int32} {z0 : Int32} (hi : i < n) (hw : w < 3) (hl : s.length ≤ i) (hR : ca_RX T oo sk i s) (hY : ca_RY T opd s) (hz0 : s = [] → z0 = -1) (hz1 : ∀ e r, s = e :: r → z0 = ca_cl (T e.1)) :
  (ca_st T i w s = none ∧ (∃ (sc' : Int32) (oo' sk' : Nat → Int32), ∀ post : Int32 → SX → Prop, post 3 (oc, nI n, cp, lc, sc', kc, dp, vc, er, ep, uu, cls, num, lnk, lsz, lit, fb, tk, tv, rk, rl, ro, ra, rt, rp, oo', co, sk', kd, fr, fn, fi, vs, ll, li, lt) → wpX_wantAfter post (oc, nI n, cp, lc, nI s.length, kc, dp, vc, er, ep, uu, cls, num, lnk, lsz, lit, fb, tk, tv, rk, rl, ro, ra, rt, rp, oo, co, sk, kd, fr, fn, fi, vs, ll, li, lt) (nI i) (nI w)) ∧ (∃ opd' : Nat → Int32, ∀ (post : Int32 → SY → Prop) (J6 : Int32 → Int32 → Int32 → (Nat → Int32) → (Nat → Int32) → (Nat → Int32) → (Nat → Int32) → (Nat → Int32) → (Nat → Int32) → (Nat → Int32) → (Nat → Int32) → (Nat → Int32) → (Nat → Int32) → (Nat → Int32) → (Nat → Int32) → (Nat → Int32) → (Nat → Int32) → (Nat → Int32) → (Nat → Int32) → (Nat → Int32) → (Nat → Int32) → (Nat → Int32) → (Nat → Int32) → (Nat → Int32) → (Nat → Int32) → Prop), post (nI i) (ob, nI n, pl, nds, sts, res, era, usd, sp, lv, ret, out, ycls, prp, lst, siz, dnd, tk, tv, opd', yrk, rn, op, nm, ay, prt, ylo, yhi, sN, sP, sX, sK, it, vr) → wY_misfit_38 post J6 (nI w) (nI s.length) (nI i) (nI (T i)) z0 ob (nI n) pl nds sts res era usd sp lv ret out ycls prp lst siz dnd (tk) (tv) opd yrk rn op nm ay prt ylo yhi sN sP sX sK it vr)) ∨
  (∃ (w' : Nat) (s' : List (Nat × Nat)), ca_st T i w s = some (w', s') ∧ w' < 3 ∧ s'.length ≤ i + 1 ∧ (∃ oo' sk' : Nat → Int32, ca_RX T oo' sk' (i + 1) s' ∧ (∀ j, j < i → oo' j = oo j) ∧ (T i = 7 ∨ T i = 9 → ∃ e r, s = e :: r ∧ oo' i = nI e.2) ∧ ∀ post : Int32 → SX → Prop, post (nI w') (oc, nI n, cp, lc, nI s'.length, kc, dp, vc, er, ep, uu, cls, num, lnk, lsz, lit, fb, tk, tv, rk, rl, ro, ra, rt, rp, oo', co, sk', kd, fr, fn, fi, vs, ll, li, lt) → wpX_wantAfter post (oc, nI n, cp, lc, nI s.length, kc, dp, vc, er, ep, uu, cls, num, lnk, lsz, lit, fb, tk, tv, rk, rl, ro, ra, rt, rp, oo, co, sk, kd, fr, fn, fi, vs, ll, li, lt) (nI i) (nI w)) ∧
    (∃ opd' : Nat → Int32, ca_RY T opd' s' ∧ ∀ (post : Int32 → SY → Prop) (J6 : Int32 → Int32 → Int32 → (Nat → Int32) → (Nat → Int32) → (Nat → Int32) → (Nat → Int32) → (Nat → Int32) → (Nat → Int32) → (Nat → Int32) → (Nat → Int32) → (Nat → Int32) → (Nat → Int32) → (Nat → Int32) → (Nat → Int32) → (Nat → Int32) → (Nat → Int32) → (Nat → Int32) → (Nat → Int32) → (Nat → Int32) → (Nat → Int32) → (Nat → Int32) → (Nat → Int32) → (Nat → Int32) → (Nat → Int32) → Prop), J6 (nI w') (nI s'.length) (nI (i + 1)) ycls prp lst siz dnd (tk) (tv) (opd') yrk rn op nm ay prt ylo yhi sN sP sX sK it vr → wY_misfit_38 post J6 (nI w) (nI s.length) (nI i) (nI (T i)) z0 ob (nI n) pl nds sts res era usd sp lv ret out ycls prp lst siz dnd (tk) (tv) opd yrk rn op nm ay prt ylo yhi sN sP sX sK it vr)) := by
  obtain ⟨hk, hT⟩ := hK i hi
  have hi40 : i < 40 := by omega
  have hs40 : s.length < 40 := by omega
  have hm : s.length < 41 := by omega
  have ek : tk (nI i).toNatClampNeg = nI (T i) := by rw [nI_clamp (by omega)]; exact hk
  have hw3 : w = 0 ∨ w = 1 ∨ w = 2 := by omega
  have ht : T i = 0 ∨ T i = 1 ∨ T i = 2 ∨ T i = 3 ∨ T i = 4 ∨ T i = 5 ∨ T i = 6 ∨ T i = 7 ∨ T i = 8 ∨ T i = 9 ∨ T i = 10 ∨ T i = 11 ∨ T i = 12 ∨ T i = 13 ∨ T i = 14 ∨ T i = 15 ∨ T i = 16 ∨ T i = 17 ∨ T i = 18 ∨ T i = 19 ∨ T i = 20 ∨ T i = 21 ∨ T i = 22 := by omega
  rcases hw3 with rfl | rfl | rfl
  · rcases ht with ht | ht | ht | ht | ht | ht | ht | ht | ht | ht | ht | ht | ht | ht | ht | ht | ht | ht | ht | ht | ht | ht | ht
    · rw [ht] at ek ⊢
      exact Or.inr ⟨1, s, (by unfold ca_st; rw [ht]; rfl), by decide, by omega, ⟨oo, sk, ca_RX_i hR, fun _ _ => rfl, fun z => absurd z (by omega), fun post h => cx_0_0 hi40 hs40 ek h⟩, ⟨opd, hY, fun post J6 h => cy_0_0 hm h⟩⟩
    · rw [ht] at ek ⊢
      exact Or.inl ⟨(by unfold ca_st; rw [ht]; rfl), ⟨_, _, _, fun post h => cx_0_1 hi40 hs40 ek h⟩, ⟨_, fun post J6 h => cy_0_1 hm h⟩⟩
    · rw [ht] at ek ⊢
      exact Or.inl ⟨(by unfold ca_st; rw [ht]; rfl), ⟨_, _, _, fun post h => cx_0_2 hi40 hs40 ek h⟩, ⟨_, fun post J6 h => cy_0_2 hm h⟩⟩
    · rw [ht] at ek ⊢
      exact Or.inr ⟨1, s, (by unfold ca_st; rw [ht]; rfl), by decide, by omega, ⟨oo, sk, ca_RX_i hR, fun _ _ => rfl, fun z => absurd z (by omega), fun post h => cx_0_3 hi40 hs40 ek h⟩, ⟨opd, hY, fun post J6 h => cy_0_3 hm h⟩⟩
    · rw [ht] at ek ⊢
      exact Or.inr ⟨1, s, (by unfold ca_st; rw [ht]; rfl), by decide, by omega, ⟨oo, sk, ca_RX_i hR, fun _ _ => rfl, fun z => absurd z (by omega), fun post h => cx_0_4 hi40 hs40 ek h⟩, ⟨opd, hY, fun post J6 h => cy_0_4 hm h⟩⟩
    · rw [ht] at ek ⊢
      exact Or.inr ⟨2, (i, i) :: s, (by unfold ca_st; rw [ht]; rfl), by decide, by rw [List.length_cons]; omega, ⟨oo, _, ⟨pk_us, by show i < i + 1; omega, Nat.le_refl _, fun z => absurd (ht.symm.trans z) (by decide), fun _ => rfl, by show T i = 5 ∨ T i = 6 ∨ T i = 8 ∨ T i = 9 ∨ 20 ≤ T i; omega, ca_RX_i (ca_RX_sk (Nat.le_refl _) hR)⟩, fun _ _ => rfl, fun z => absurd z (by omega), fun post h => cx_0_5 hi40 hs40 ek h⟩, ⟨_, ⟨pk_us.trans (by show _ = ca_cl (T i); rw [ht]; rfl), ca_RY_up (Nat.le_refl _) hY⟩, fun post J6 h => cy_0_5 hm h⟩⟩
    · rw [ht] at ek ⊢
      exact Or.inr ⟨0, (i, i) :: s, (by unfold ca_st; rw [ht]; rfl), by decide, by rw [List.length_cons]; omega, ⟨oo, _, ⟨pk_us, by show i < i + 1; omega, Nat.le_refl _, fun z => absurd (ht.symm.trans z) (by decide), fun _ => rfl, by show T i = 5 ∨ T i = 6 ∨ T i = 8 ∨ T i = 9 ∨ 20 ≤ T i; omega, ca_RX_i (ca_RX_sk (Nat.le_refl _) hR)⟩, fun _ _ => rfl, fun z => absurd z (by omega), fun post h => cx_0_6 hi40 hs40 ek h⟩, ⟨_, ⟨pk_us.trans (by show _ = ca_cl (T i); rw [ht]; rfl), ca_RY_up (Nat.le_refl _) hY⟩, fun post J6 h => cy_0_6 hm h⟩⟩
    · rw [ht] at ek ⊢
      exact Or.inl ⟨(by unfold ca_st; rw [ht]; rfl), ⟨_, _, _, fun post h => cx_0_7 hi40 hs40 ek h⟩, ⟨_, fun post J6 h => cy_0_7 hm h⟩⟩
    · rw [ht] at ek ⊢
      exact Or.inl ⟨(by unfold ca_st; rw [ht]; rfl), ⟨_, _, _, fun post h => cx_0_8 hi40 hs40 ek h⟩, ⟨_, fun post J6 h => cy_0_8 hm h⟩⟩
    · rw [ht] at ek ⊢
      exact Or.inl ⟨(by unfold ca_st; rw [ht]; rfl), ⟨_, _, _, fun post h => cx_0_9 hi40 hs40 ek h⟩, ⟨_, fun post J6 h => cy_0_9 hm h⟩⟩
    · rw [ht] at ek ⊢
      exact Or.inl ⟨(by unfold ca_st; rw [ht]; rfl), ⟨_, _, _, fun post h => cx_0_10 hi40 hs40 ek h⟩, ⟨_, fun post J6 h => cy_0_10 hm h⟩⟩
    · rw [ht] at ek ⊢
      exact Or.inl ⟨(by unfold ca_st; rw [ht]; rfl), ⟨_, _, _, fun post h => cx_0_11 hi40 hs40 ek h⟩, ⟨_, fun post J6 h => cy_0_11 hm h⟩⟩
    · rw [ht] at ek ⊢
      exact Or.inr ⟨0, s, (by unfold ca_st; rw [ht]; rfl), by decide, by omega, ⟨oo, sk, ca_RX_i hR, fun _ _ => rfl, fun z => absurd z (by omega), fun post h => cx_0_12 hi40 hs40 ek h⟩, ⟨opd, hY, fun post J6 h => cy_0_12 hm h⟩⟩
    · rw [ht] at ek ⊢
      exact Or.inl ⟨(by unfold ca_st; rw [ht]; rfl), ⟨_, _, _, fun post h => cx_0_13 hi40 hs40 ek h⟩, ⟨_, fun post J6 h => cy_0_13 hm h⟩⟩
    · rw [ht] at ek ⊢
      exact Or.inl ⟨(by unfold ca_st; rw [ht]; rfl), ⟨_, _, _, fun post h => cx_0_14 hi40 hs40 ek h⟩, ⟨_, fun post J6 h => cy_0_14 hm h⟩⟩
    · rw [ht] at ek ⊢
      exact Or.inl ⟨(by unfold ca_st; rw [ht]; rfl), ⟨_, _, _, fun post h => cx_0_15 hi40 hs40 ek h⟩, ⟨_, fun post J6 h => cy_0_15 hm h⟩⟩
    · rw [ht] at ek ⊢
      exact Or.inr ⟨0, s, (by unfold ca_st; rw [ht]; rfl), by decide, by omega, ⟨oo, sk, ca_RX_i hR, fun _ _ => rfl, fun z => absurd z (by omega), fun post h => cx_0_16 hi40 hs40 ek h⟩, ⟨opd, hY, fun post J6 h => cy_0_16 hm h⟩⟩
    · rw [ht] at ek ⊢
      exact Or.inl ⟨(by unfold ca_st; rw [ht]; rfl), ⟨_, _, _, fun post h => cx_0_17 hi40 hs40 ek h⟩, ⟨_, fun post J6 h => cy_0_17 hm h⟩⟩
    · rw [ht] at ek ⊢
      exact Or.inl ⟨(by unfold ca_st; rw [ht]; rfl), ⟨_, _, _, fun post h => cx_0_18 hi40 hs40 ek h⟩, ⟨_, fun post J6 h => cy_0_18 hm h⟩⟩
    · rw [ht] at ek ⊢
      exact Or.inr ⟨1, s, (by unfold ca_st; rw [ht]; rfl), by decide, by omega, ⟨oo, sk, ca_RX_i hR, fun _ _ => rfl, fun z => absurd z (by omega), fun post h => cx_0_19 hi40 hs40 ek h⟩, ⟨opd, hY, fun post J6 h => cy_0_19 hm h⟩⟩
    · rw [ht] at ek ⊢
      exact Or.inr ⟨2, (i, i) :: s, (by unfold ca_st; rw [ht]; rfl), by decide, by rw [List.length_cons]; omega, ⟨oo, _, ⟨pk_us, by show i < i + 1; omega, Nat.le_refl _, fun z => absurd (ht.symm.trans z) (by decide), fun _ => rfl, by show T i = 5 ∨ T i = 6 ∨ T i = 8 ∨ T i = 9 ∨ 20 ≤ T i; omega, ca_RX_i (ca_RX_sk (Nat.le_refl _) hR)⟩, fun _ _ => rfl, fun z => absurd z (by omega), fun post h => cx_0_20 hi40 hs40 ek h⟩, ⟨_, ⟨pk_us.trans (by show _ = ca_cl (T i); rw [ht]; rfl), ca_RY_up (Nat.le_refl _) hY⟩, fun post J6 h => cy_0_20 hm h⟩⟩
    · rw [ht] at ek ⊢
      exact Or.inr ⟨2, (i, i) :: s, (by unfold ca_st; rw [ht]; rfl), by decide, by rw [List.length_cons]; omega, ⟨oo, _, ⟨pk_us, by show i < i + 1; omega, Nat.le_refl _, fun z => absurd (ht.symm.trans z) (by decide), fun _ => rfl, by show T i = 5 ∨ T i = 6 ∨ T i = 8 ∨ T i = 9 ∨ 20 ≤ T i; omega, ca_RX_i (ca_RX_sk (Nat.le_refl _) hR)⟩, fun _ _ => rfl, fun z => absurd z (by omega), fun post h => cx_0_21 hi40 hs40 ek h⟩, ⟨_, ⟨pk_us.trans (by show _ = ca_cl (T i); rw [ht]; rfl), ca_RY_up (Nat.le_refl _) hY⟩, fun post J6 h => cy_0_21 hm h⟩⟩
    · rw [ht] at ek ⊢
      exact Or.inr ⟨2, (i, i) :: s, (by unfold ca_st; rw [ht]; rfl), by decide, by rw [List.length_cons]; omega, ⟨oo, _, ⟨pk_us, by show i < i + 1; omega, Nat.le_refl _, fun z => absurd (ht.symm.trans z) (by decide), fun _ => rfl, by show T i = 5 ∨ T i = 6 ∨ T i = 8 ∨ T i = 9 ∨ 20 ≤ T i; omega, ca_RX_i (ca_RX_sk (Nat.le_refl _) hR)⟩, fun _ _ => rfl, fun z => absurd z (by omega), fun post h => cx_0_22 hi40 hs40 ek h⟩, ⟨_, ⟨pk_us.trans (by show _ = ca_cl (T i); rw [ht]; rfl), ca_RY_up (Nat.le_refl _) hY⟩, fun post J6 h => cy_0_22 hm h⟩⟩
  · rcases ht with ht | ht | ht | ht | ht | ht | ht | ht | ht | ht | ht | ht | ht | ht | ht | ht | ht | ht | ht | ht | ht | ht | ht
    · rw [ht] at ek ⊢
      exact Or.inl ⟨(by unfold ca_st; rw [ht]; rfl), ⟨_, _, _, fun post h => cx_1_0 hi40 hs40 ek h⟩, ⟨_, fun post J6 h => cy_1_0 hm h⟩⟩
    · rw [ht] at ek ⊢
      exact Or.inr ⟨1, s, (by unfold ca_st; rw [ht]; rfl), by decide, by omega, ⟨oo, sk, ca_RX_i hR, fun _ _ => rfl, fun z => absurd z (by omega), fun post h => cx_1_1 hi40 hs40 ek h⟩, ⟨opd, hY, fun post J6 h => cy_1_1 hm h⟩⟩
    · rw [ht] at ek ⊢
      exact Or.inr ⟨1, s, (by unfold ca_st; rw [ht]; rfl), by decide, by omega, ⟨oo, sk, ca_RX_i hR, fun _ _ => rfl, fun z => absurd z (by omega), fun post h => cx_1_2 hi40 hs40 ek h⟩, ⟨opd, hY, fun post J6 h => cy_1_2 hm h⟩⟩
    · rw [ht] at ek ⊢
      exact Or.inl ⟨(by unfold ca_st; rw [ht]; rfl), ⟨_, _, _, fun post h => cx_1_3 hi40 hs40 ek h⟩, ⟨_, fun post J6 h => cy_1_3 hm h⟩⟩
    · rw [ht] at ek ⊢
      exact Or.inl ⟨(by unfold ca_st; rw [ht]; rfl), ⟨_, _, _, fun post h => cx_1_4 hi40 hs40 ek h⟩, ⟨_, fun post J6 h => cy_1_4 hm h⟩⟩
    · rw [ht] at ek ⊢
      exact Or.inl ⟨(by unfold ca_st; rw [ht]; rfl), ⟨_, _, _, fun post h => cx_1_5 hi40 hs40 ek h⟩, ⟨_, fun post J6 h => cy_1_5 hm h⟩⟩
    · rw [ht] at ek ⊢
      exact Or.inl ⟨(by unfold ca_st; rw [ht]; rfl), ⟨_, _, _, fun post h => cx_1_6 hi40 hs40 ek h⟩, ⟨_, fun post J6 h => cy_1_6 hm h⟩⟩
    · rw [ht] at ek ⊢
      exact ca_stepX7 hK hi hs40 hm hl hR hY hz0 hz1 ht ek hi40
    · rw [ht] at ek ⊢
      exact Or.inr ⟨0, (i, i) :: s, (by unfold ca_st; rw [ht]; rfl), by decide, by rw [List.length_cons]; omega, ⟨oo, _, ⟨pk_us, by show i < i + 1; omega, Nat.le_refl _, fun z => absurd (ht.symm.trans z) (by decide), fun _ => rfl, by show T i = 5 ∨ T i = 6 ∨ T i = 8 ∨ T i = 9 ∨ 20 ≤ T i; omega, ca_RX_i (ca_RX_sk (Nat.le_refl _) hR)⟩, fun _ _ => rfl, fun z => absurd z (by omega), fun post h => cx_1_8 hi40 hs40 ek h⟩, ⟨_, ⟨pk_us.trans (by show _ = ca_cl (T i); rw [ht]; rfl), ca_RY_up (Nat.le_refl _) hY⟩, fun post J6 h => cy_1_8 hm h⟩⟩
    · rw [ht] at ek ⊢
      exact ca_stepX9 hK hi hs40 hm hl hR hY hz0 hz1 ht ek hi40
    · rw [ht] at ek ⊢
      exact Or.inr ⟨0, s, (by unfold ca_st; rw [ht]; rfl), by decide, by omega, ⟨oo, sk, ca_RX_i hR, fun _ _ => rfl, fun z => absurd z (by omega), fun post h => cx_1_10 hi40 hs40 ek h⟩, ⟨opd, hY, fun post J6 h => cy_1_10 hm h⟩⟩
    · rw [ht] at ek ⊢
      exact Or.inr ⟨0, s, (by unfold ca_st; rw [ht]; rfl), by decide, by omega, ⟨oo, sk, ca_RX_i hR, fun _ _ => rfl, fun z => absurd z (by omega), fun post h => cx_1_11 hi40 hs40 ek h⟩, ⟨opd, hY, fun post J6 h => cy_1_11 hm h⟩⟩
    · rw [ht] at ek ⊢
      exact Or.inl ⟨(by unfold ca_st; rw [ht]; rfl), ⟨_, _, _, fun post h => cx_1_12 hi40 hs40 ek h⟩, ⟨_, fun post J6 h => cy_1_12 hm h⟩⟩
    · rw [ht] at ek ⊢
      exact Or.inr ⟨0, s, (by unfold ca_st; rw [ht]; rfl), by decide, by omega, ⟨oo, sk, ca_RX_i hR, fun _ _ => rfl, fun z => absurd z (by omega), fun post h => cx_1_13 hi40 hs40 ek h⟩, ⟨opd, hY, fun post J6 h => cy_1_13 hm h⟩⟩
    · rw [ht] at ek ⊢
      exact Or.inr ⟨0, s, (by unfold ca_st; rw [ht]; rfl), by decide, by omega, ⟨oo, sk, ca_RX_i hR, fun _ _ => rfl, fun z => absurd z (by omega), fun post h => cx_1_14 hi40 hs40 ek h⟩, ⟨opd, hY, fun post J6 h => cy_1_14 hm h⟩⟩
    · rw [ht] at ek ⊢
      exact Or.inr ⟨0, s, (by unfold ca_st; rw [ht]; rfl), by decide, by omega, ⟨oo, sk, ca_RX_i hR, fun _ _ => rfl, fun z => absurd z (by omega), fun post h => cx_1_15 hi40 hs40 ek h⟩, ⟨opd, hY, fun post J6 h => cy_1_15 hm h⟩⟩
    · rw [ht] at ek ⊢
      exact Or.inr ⟨0, s, (by unfold ca_st; rw [ht]; rfl), by decide, by omega, ⟨oo, sk, ca_RX_i hR, fun _ _ => rfl, fun z => absurd z (by omega), fun post h => cx_1_16 hi40 hs40 ek h⟩, ⟨opd, hY, fun post J6 h => cy_1_16 hm h⟩⟩
    · rw [ht] at ek ⊢
      exact Or.inr ⟨0, s, (by unfold ca_st; rw [ht]; rfl), by decide, by omega, ⟨oo, sk, ca_RX_i hR, fun _ _ => rfl, fun z => absurd z (by omega), fun post h => cx_1_17 hi40 hs40 ek h⟩, ⟨opd, hY, fun post J6 h => cy_1_17 hm h⟩⟩
    · rw [ht] at ek ⊢
      exact Or.inr ⟨0, s, (by unfold ca_st; rw [ht]; rfl), by decide, by omega, ⟨oo, sk, ca_RX_i hR, fun _ _ => rfl, fun z => absurd z (by omega), fun post h => cx_1_18 hi40 hs40 ek h⟩, ⟨opd, hY, fun post J6 h => cy_1_18 hm h⟩⟩
    · rw [ht] at ek ⊢
      exact Or.inl ⟨(by unfold ca_st; rw [ht]; rfl), ⟨_, _, _, fun post h => cx_1_19 hi40 hs40 ek h⟩, ⟨_, fun post J6 h => cy_1_19 hm h⟩⟩
    · rw [ht] at ek ⊢
      exact Or.inl ⟨(by unfold ca_st; rw [ht]; rfl), ⟨_, _, _, fun post h => cx_1_20 hi40 hs40 ek h⟩, ⟨_, fun post J6 h => cy_1_20 hm h⟩⟩
    · rw [ht] at ek ⊢
      exact Or.inl ⟨(by unfold ca_st; rw [ht]; rfl), ⟨_, _, _, fun post h => cx_1_21 hi40 hs40 ek h⟩, ⟨_, fun post J6 h => cy_1_21 hm h⟩⟩
    · rw [ht] at ek ⊢
      exact Or.inl ⟨(by unfold ca_st; rw [ht]; rfl), ⟨_, _, _, fun post h => cx_1_22 hi40 hs40 ek h⟩, ⟨_, fun post J6 h => cy_1_22 hm h⟩⟩
  · by_cases h6 : T i = 6
    · rw [h6] at ek ⊢
      exact Or.inr ⟨0, s, (by unfold ca_st; rw [h6]; rfl), by decide, by omega, ⟨oo, sk, ca_RX_i hR, fun _ _ => rfl, fun z => absurd z (by omega), fun post h => cx_2_6 hi40 hs40 ek h⟩, ⟨opd, hY, fun post J6 h => cy_2_6 hm h⟩⟩
    · have n6 : ¬ nI (T i) = 6 := fun z => h6 ((nI_eq (b := 6) (by omega) (by decide)).1 z)
      exact Or.inl ⟨(by unfold ca_st; rw [if_pos rfl, if_neg h6]), ⟨_, _, _, fun post h => cx_2_x hi40 hs40 (by rw [ek]; exact n6) h⟩, ⟨_, fun post J6 h => cy_2_x n6 h⟩⟩
theorem ca_loop (hn : n ≤ 40) (hK : ∀ i, i < n → tk i = nI (T i) ∧ T i < 23) : ∀ (d i w : Nat) (s : List (Nat × Nat)) (oo sk opd : Nat → Int32), i + d = n → ca_S T i = some (w, s) → w < 3 → s.length ≤ i → ca_RX T oo sk i s → (∀ j, j < i → T j = 7 ∨ T j = 9 → oo j = nI (ca_o T j)) → ca_RY T opd s →
  ∃ (r sc' : Int32) (oo' sk' opd' : Nat → Int32), (∀ post : Int32 → SX → Prop, post r (oc, nI n, cp, lc, sc', kc, dp, vc, er, ep, uu, cls, num, lnk, lsz, lit, fb, tk, tv, rk, rl, ro, ra, rt, rp, oo', co, sk', kd, fr, fn, fi, vs, ll, li, lt) → wX_syntaxPlace_9 post (d + 1) (nI w) (nI i) oc (nI n) cp lc (nI s.length) kc dp vc er ep uu cls num lnk lsz lit fb tk tv rk rl ro ra rt rp oo co sk kd fr fn fi vs ll li lt) ∧ (∀ post : Int32 → SY → Prop, post r (ob, nI n, pl, nds, sts, res, era, usd, sp, lv, ret, out, ycls, prp, lst, siz, dnd, tk, tv, opd', yrk, rn, op, nm, ay, prt, ylo, yhi, sN, sP, sX, sK, it, vr) → wY_misfit_6 post ob (nI n) pl nds sts res era usd sp lv ret out (d + 1) (nI w) (nI s.length) (nI i) ycls prp lst siz dnd (tk) (tv) opd yrk rn op nm ay prt ylo yhi sN sP sX sK it vr) ∧ ((r = -1 ∧ ca_S T n = some (1, []) ∧ ∀ j, j < n → T j = 7 ∨ T j = 9 → oo' j = nI (ca_o T j)) ∨ ∃ j, j ≤ n ∧ r = nI j) := by
  intro d
  induction d with
  | zero =>
    intro i w s oo sk opd hi hS hw hl hR hO hY
    have hin : i = n := by omega
    subst hin
    have h0 : nI i ≤ nI i := nI_le (Nat.le_refl _) (by omega)
    by_cases w1 : w = 1
    · cases s with
      | nil =>
        subst w1
        exact ⟨-1, _, oo, sk, opd, fun post h => br_t h0 (br_t rfl (br_t rfl h)), fun post h => br_t h0 (br_t rfl (br_t rfl h)), Or.inl ⟨rfl, hS, hO⟩⟩
      | cons e r =>
        subst w1
        have ne : ¬ nI (e :: r).length = 0 := nI_ne0 (by rw [List.length_cons]; omega) (by omega)
        exact ⟨nI i, _, oo, sk, opd, fun post h => br_t h0 (br_t rfl (br_f ne h)), fun post h => br_t h0 (br_t rfl (br_f ne h)), Or.inr ⟨i, Nat.le_refl _, rfl⟩⟩
    · have nw : ¬ nI w = 1 := fun z => w1 ((nI_eq (b := 1) (by omega) (by decide)).1 z)
      exact ⟨nI i, _, oo, sk, opd, fun post h => br_t h0 (br_f nw h), fun post h => br_t h0 (br_f nw h), Or.inr ⟨i, Nat.le_refl _, rfl⟩⟩
  | succ d ih =>
    intro i w s oo sk opd hi hS hw hl hR hO hY
    have hin : i < n := by omega
    have n0 : ¬ nI n ≤ nI i := nI_ge hin (by omega)
    have ek : tk (nI i).toNatClampNeg = nI (T i) := by rw [nI_clamp (by omega)]; exact (hK i hin).1
    have inn : vp_in (nI i) 40 := vp_in_nI (by omega) (by decide)
    have hz : ∃ z0 : Int32, (s = [] → z0 = -1) ∧ (∀ e r, s = e :: r → z0 = ca_cl (T e.1)) ∧ (∀ (post : Int32 → SY → Prop) (m : Nat), wY_misfit_38 post (wY_misfit_6 post ob (nI n) pl nds sts res era usd sp lv ret out m) (nI w) (nI s.length) (nI i) (nI (T i)) z0 ob (nI n) pl nds sts res era usd sp lv ret out ycls prp lst siz dnd (tk) (tv) opd yrk rn op nm ay prt ylo yhi sN sP sX sK it vr → wY_misfit_6 post ob (nI n) pl nds sts res era usd sp lv ret out (m + 1) (nI w) (nI s.length) (nI i) ycls prp lst siz dnd (tk) (tv) opd yrk rn op nm ay prt ylo yhi sN sP sX sK it vr) := by
      cases s with
      | nil =>
        exact ⟨-1, fun _ => rfl, (fun e r z => nomatch z), fun post m h => br_f n0 ⟨inn, nm_r ek (br_t (by decide) h)⟩⟩
      | cons e r =>
        refine ⟨ca_cl (T e.1), (fun z => nomatch z), (fun e' r' z => by cases z; rfl), fun post m h => br_f n0 ⟨inn, nm_r ek (br_f (nI_nle (by rw [List.length_cons]; omega) (by omega)) ⟨?_, ?_⟩)⟩⟩
        · rw [List.length_cons, nI_pred]; exact vp_in_nI (by rw [List.length_cons] at hl; omega) (by decide)
        · rw [show opd (nI (e :: r).length - 1).toNatClampNeg = ca_cl (T e.1) by rw [List.length_cons, nI_pred, nI_clamp (by rw [List.length_cons] at hl; omega)]; exact hY.1]
          exact h
    obtain ⟨z0, hz0, hz1, hz2⟩ := hz
    rcases ca_step hn hK hin hw hl hR hY hz0 hz1 with ⟨e1, ⟨sc', oo', sk', hX⟩, ⟨opd', hYY⟩⟩ | ⟨w', s', e1, hw', hl', ⟨oo', sk', hR', hoo, hoi, hX⟩, ⟨opd', hY', hYY⟩⟩
    · exact ⟨nI i, sc', oo', sk', opd', fun post h => br_f n0 (hX _ (br_t rfl h)), fun post h => hz2 post _ (hYY _ _ h), Or.inr ⟨i, by omega, rfl⟩⟩
    · have hS' : ca_S T (i + 1) = some (w', s') := by
        show (match ca_S T i with | none => none | some x => ca_st T i x.1 x.2) = _
        rw [hS]; exact e1
      have hO' : ∀ j, j < i + 1 → T j = 7 ∨ T j = 9 → oo' j = nI (ca_o T j) := by
        intro j hj ht
        by_cases z : j = i
        · subst z
          obtain ⟨e, r, es, eo⟩ := hoi ht
          subst es
          rw [eo]
          unfold ca_o
          rw [hS]
        · rw [hoo j (by omega)]; exact hO j (by omega) ht
      obtain ⟨r, sc2, oo2, sk2, opd2, iX, iY, iR⟩ := ih (i + 1) w' s' oo' sk' opd' (by omega) hS' hw' hl' hR' hO' hY'
      refine ⟨r, sc2, oo2, sk2, opd2, fun post h => br_f n0 (hX _ (br_f (fun z => absurd ((nI_eq (b := 3) (by omega) (by decide)).1 z) (by omega)) (nm_r (nI_1 i) (iX post h)))), fun post h => hz2 post _ (hYY _ _ (iY post h)), iR⟩
theorem ca_syn (hn : n ≤ 40) (hK : ∀ i, i < n → tk i = nI (T i) ∧ T i < 23) (sc : Int32) (oo sk opd : Nat → Int32) : ∃ (r sc' : Int32) (oo' sk' opd' : Nat → Int32), (∀ post : Int32 → SX → Prop, post r (oc, nI n, cp, lc, sc', kc, dp, vc, er, ep, uu, cls, num, lnk, lsz, lit, fb, tk, tv, rk, rl, ro, ra, rt, rp, oo', co, sk', kd, fr, fn, fi, vs, ll, li, lt) → wpX_syntaxPlace post (oc, nI n, cp, lc, sc, kc, dp, vc, er, ep, uu, cls, num, lnk, lsz, lit, fb, tk, tv, rk, rl, ro, ra, rt, rp, oo, co, sk, kd, fr, fn, fi, vs, ll, li, lt)) ∧ (∀ post : Int32 → SY → Prop, post r (ob, nI n, pl, nds, sts, res, era, usd, sp, lv, ret, out, ycls, prp, lst, siz, dnd, tk, tv, opd', yrk, rn, op, nm, ay, prt, ylo, yhi, sN, sP, sX, sK, it, vr) → wpY_misfit post (ob, nI n, pl, nds, sts, res, era, usd, sp, lv, ret, out, ycls, prp, lst, siz, dnd, tk, tv, opd, yrk, rn, op, nm, ay, prt, ylo, yhi, sN, sP, sX, sK, it, vr)) ∧ ((r = -1 ∧ ca_S T n = some (1, []) ∧ ∀ j, j < n → T j = 7 ∨ T j = 9 → oo' j = nI (ca_o T j)) ∨ ∃ j, j ≤ n ∧ r = nI j) := by
  obtain ⟨r, sc', oo', sk', opd', hX, hY, hR⟩ := ca_loop (T := T) hn hK n 0 0 [] oo sk opd (by omega) rfl (by decide) (Nat.le_refl _) trivial (fun j hj => absurd hj (by omega)) trivial
  exact ⟨r, sc', oo', sk', opd', fun post h => ⟨n + 1, hX post h⟩, fun post h => ⟨n + 1, hY post h⟩, hR⟩
end
end
section
/-- the automaton's state before token i -/
def ca_W (T : Nat → Nat) (i : Nat) : Nat := match ca_S T i with
  | some x => x.1
  | none => 9
def ca_Z (T : Nat → Nat) (i : Nat) : List (Nat × Nat) := match ca_S T i with
  | some x => x.2
  | none => []
/-- one step, by its cases -/
def ca_R (T : Nat → Nat) (i w : Nat) (s : List (Nat × Nat)) (w' : Nat) (s' : List (Nat × Nat)) : Prop :=
  (w = 2 ∧ T i = 6 ∧ w' = 0 ∧ s' = s) ∨
  (w = 0 ∧ (T i = 0 ∨ T i = 3 ∨ T i = 4 ∨ T i = 19) ∧ w' = 1 ∧ s' = s) ∨
  (w = 0 ∧ (T i = 12 ∨ T i = 16) ∧ w' = 0 ∧ s' = s) ∨
  (w = 0 ∧ T i = 6 ∧ w' = 0 ∧ s' = (i, i) :: s) ∨
  (w = 0 ∧ (T i = 5 ∨ 20 ≤ T i) ∧ w' = 2 ∧ s' = (i, i) :: s) ∨
  (w = 1 ∧ (T i = 1 ∨ T i = 2) ∧ w' = 1 ∧ s' = s) ∨
  (w = 1 ∧ T i = 8 ∧ w' = 0 ∧ s' = (i, i) :: s) ∨
  (w = 1 ∧ T i = 9 ∧ w' = 0 ∧ ∃ e r, s = e :: r ∧ T e.1 = 8 ∧ s' = r) ∨
  (w = 1 ∧ T i = 9 ∧ w' = 0 ∧ ∃ e r, s = e :: r ∧ 20 ≤ T e.1 ∧ s' = (i, e.2) :: r) ∨
  (w = 1 ∧ T i = 7 ∧ w' = 1 ∧ ∃ e r, s = e :: r ∧ (T e.1 = 9 ∨ T e.1 = 6 ∨ T e.1 = 5) ∧ s' = r) ∨
  (w = 1 ∧ (10 ≤ T i ∧ T i ≤ 18 ∧ T i ≠ 12) ∧ w' = 0 ∧ s' = s)
theorem ca_inv {T : Nat → Nat} {i w : Nat} {s : List (Nat × Nat)} {w' : Nat} {s' : List (Nat × Nat)} (hw : w < 3) (h : ca_st T i w s = some (w', s')) : ca_R T i w s w' s' := by
  unfold ca_st at h
  by_cases w2 : w = 2
  · rw [if_pos w2] at h
    by_cases t6 : T i = 6
    · rw [if_pos t6] at h; cases h; exact Or.inl ⟨w2, t6, rfl, rfl⟩
    · rw [if_neg t6] at h; cases h
  rw [if_neg w2] at h
  by_cases w0 : w = 0
  · rw [if_pos w0] at h
    by_cases t1 : T i = 0 ∨ T i = 3 ∨ T i = 4 ∨ T i = 19
    · rw [if_pos t1] at h; cases h; exact Or.inr (Or.inl ⟨w0, t1, rfl, rfl⟩)
    rw [if_neg t1] at h
    by_cases t2 : T i = 12 ∨ T i = 16
    · rw [if_pos t2] at h; cases h; exact Or.inr (Or.inr (Or.inl ⟨w0, t2, rfl, rfl⟩))
    rw [if_neg t2] at h
    by_cases t3 : T i = 6
    · rw [if_pos t3] at h; cases h; exact Or.inr (Or.inr (Or.inr (Or.inl ⟨w0, t3, rfl, rfl⟩)))
    rw [if_neg t3] at h
    by_cases t4 : T i = 5 ∨ 20 ≤ T i
    · rw [if_pos t4] at h; cases h; exact Or.inr (Or.inr (Or.inr (Or.inr (Or.inl ⟨w0, t4, rfl, rfl⟩))))
    rw [if_neg t4] at h; cases h
  rw [if_neg w0] at h
  have w1 : w = 1 := by omega
  by_cases t1 : T i = 1 ∨ T i = 2
  · rw [if_pos t1] at h; cases h; exact Or.inr (Or.inr (Or.inr (Or.inr (Or.inr (Or.inl ⟨w1, t1, rfl, rfl⟩)))))
  rw [if_neg t1] at h
  by_cases t2 : T i = 8
  · rw [if_pos t2] at h; cases h; exact Or.inr (Or.inr (Or.inr (Or.inr (Or.inr (Or.inr (Or.inl ⟨w1, t2, rfl, rfl⟩))))))
  rw [if_neg t2] at h
  by_cases t3 : T i = 9
  · rw [if_pos t3] at h
    cases s with
    | nil => cases h
    | cons e r =>
      dsimp only at h
      by_cases e8 : T e.1 = 8
      · rw [if_pos e8] at h; cases h; exact Or.inr (Or.inr (Or.inr (Or.inr (Or.inr (Or.inr (Or.inr (Or.inl ⟨w1, t3, rfl, e, _, rfl, e8, rfl⟩)))))))
      rw [if_neg e8] at h
      by_cases e20 : 20 ≤ T e.1
      · rw [if_pos e20] at h; cases h; exact Or.inr (Or.inr (Or.inr (Or.inr (Or.inr (Or.inr (Or.inr (Or.inr (Or.inl ⟨w1, t3, rfl, e, _, rfl, e20, rfl⟩))))))))
      rw [if_neg e20] at h; cases h
  rw [if_neg t3] at h
  by_cases t4 : T i = 7
  · rw [if_pos t4] at h
    cases s with
    | nil => cases h
    | cons e r =>
      dsimp only at h
      by_cases e8 : T e.1 = 9 ∨ T e.1 = 6 ∨ T e.1 = 5
      · rw [if_pos e8] at h; cases h; exact Or.inr (Or.inr (Or.inr (Or.inr (Or.inr (Or.inr (Or.inr (Or.inr (Or.inr (Or.inl ⟨w1, t4, rfl, e, _, rfl, e8, rfl⟩)))))))))
      rw [if_neg e8] at h; cases h
  rw [if_neg t4] at h
  by_cases t5 : 10 ≤ T i ∧ T i ≤ 18 ∧ T i ≠ 12
  · rw [if_pos t5] at h; cases h; exact Or.inr (Or.inr (Or.inr (Or.inr (Or.inr (Or.inr (Or.inr (Or.inr (Or.inr (Or.inr ⟨w1, t5, rfl, rfl⟩)))))))))
  rw [if_neg t5] at h; cases h
section
variable {T : Nat → Nat} {n : Nat}
theorem ca_ex (hA : ca_S T n = some (1, [])) : ∀ (d i : Nat), i + d = n → ∃ y, ca_S T i = some y := by
  intro d
  induction d with
  | zero => intro i hi; rw [show i = n by omega]; exact ⟨_, hA⟩
  | succ d ih =>
    intro i hi
    obtain ⟨y, hy⟩ := ih (i + 1) (by omega)
    cases h : ca_S T i with
    | none =>
      have : ca_S T (i + 1) = none := by
        show (match ca_S T i with | none => none | some x => ca_st T i x.1 x.2) = _
        rw [h]
      rw [this] at hy; cases hy
    | some x => exact ⟨x, rfl⟩
theorem ca_some (hA : ca_S T n = some (1, [])) {i : Nat} (hi : i ≤ n) : ca_S T i = some (ca_W T i, ca_Z T i) := by
  obtain ⟨y, hy⟩ := ca_ex hA (n - i) i (by omega)
  unfold ca_W ca_Z
  rw [hy]
theorem ca_stp (hA : ca_S T n = some (1, [])) {i : Nat} (hi : i < n) : ca_st T i (ca_W T i) (ca_Z T i) = some (ca_W T (i + 1), ca_Z T (i + 1)) := by
  have h := ca_some hA (i := i + 1) (by omega)
  rw [← h]
  show _ = (match ca_S T i with | none => none | some x => ca_st T i x.1 x.2)
  rw [ca_some hA (i := i) (by omega)]
theorem ca_Wn (hA : ca_S T n = some (1, [])) : ca_W T n = 1 := by unfold ca_W; rw [hA]
theorem ca_Zn (hA : ca_S T n = some (1, [])) : ca_Z T n = [] := by unfold ca_Z; rw [hA]
theorem ca_W0 : ca_W T 0 = 0 := rfl
theorem ca_Z0 : ca_Z T 0 = [] := rfl
theorem ca_W3 (hA : ca_S T n = some (1, [])) : ∀ {i : Nat}, i ≤ n → ca_W T i < 3 := by
  intro i
  induction i with
  | zero => intro _; rw [ca_W0]; omega
  | succ i ih =>
    intro hi
    have h := ca_inv (ih (by omega)) (ca_stp hA (i := i) (by omega))
    unfold ca_R at h
    omega
theorem ca_rule (hA : ca_S T n = some (1, [])) {i : Nat} (hi : i < n) : ca_R T i (ca_W T i) (ca_Z T i) (ca_W T (i + 1)) (ca_Z T (i + 1)) := ca_inv (ca_W3 hA (by omega)) (ca_stp hA hi)
/-- where an entry of the stack comes from -/
theorem ca_ent (hA : ca_S T n = some (1, [])) : ∀ {i : Nat}, i ≤ n → ∀ (E : List (Nat × Nat)) (e : Nat × Nat) (R : List (Nat × Nat)), ca_Z T i = E ++ e :: R → e.1 < i ∧ ca_Z T (e.1 + 1) = e :: R ∧ (∀ j, e.1 < j → j ≤ i → ∃ E', ca_Z T j = E' ++ e :: R) ∧ (T e.1 ≠ 9 → e.2 = e.1 ∧ ca_Z T e.1 = R) ∧ (T e.1 = 9 → 20 ≤ T e.2 ∧ ca_Z T e.1 = (e.2, e.2) :: R ∧ e.2 < e.1) := by
  intro i
  induction i with
  | zero =>
    intro _ E e R h
    rw [ca_Z0] at h
    cases E <;> cases h
  | succ i ih =>
    intro hi E e R h
    have old : ∀ E0, ca_Z T i = E0 ++ e :: R → (e.1 < i + 1 ∧ ca_Z T (e.1 + 1) = e :: R ∧ (∀ j, e.1 < j → j ≤ i + 1 → ∃ E', ca_Z T j = E' ++ e :: R) ∧ (T e.1 ≠ 9 → e.2 = e.1 ∧ ca_Z T e.1 = R) ∧ (T e.1 = 9 → 20 ≤ T e.2 ∧ ca_Z T e.1 = (e.2, e.2) :: R ∧ e.2 < e.1)) := by
      intro E0 h0
      obtain ⟨a1, a2, a3, a4⟩ := ih (by omega) E0 e R h0
      refine ⟨by omega, a2, fun j hj hj2 => ?_, a4⟩
      by_cases z : j = i + 1
      · rw [z]; exact ⟨E, h⟩
      · exact a3 j hj (by omega)
    have new : ∀ x r, ca_Z T (i + 1) = x :: r → x.1 = i → (∀ E0, E = x :: E0 → ∃ E1, ca_Z T i = E1 ++ e :: R) → ((T i ≠ 9 → x.2 = x.1 ∧ ca_Z T i = r) ∧ (T i = 9 → 20 ≤ T x.2 ∧ ca_Z T i = (x.2, x.2) :: r ∧ x.2 < x.1)) → (e.1 < i + 1 ∧ ca_Z T (e.1 + 1) = e :: R ∧ (∀ j, e.1 < j → j ≤ i + 1 → ∃ E', ca_Z T j = E' ++ e :: R) ∧ (T e.1 ≠ 9 → e.2 = e.1 ∧ ca_Z T e.1 = R) ∧ (T e.1 = 9 → 20 ≤ T e.2 ∧ ca_Z T e.1 = (e.2, e.2) :: R ∧ e.2 < e.1)) := by
      intro x r hx hxi hE hp
      cases E with
      | nil =>
        rw [List.nil_append] at h
        have hh := hx.symm.trans h
        cases hh
        rw [hxi]
        refine ⟨by omega, h, fun j hj hj2 => ?_, ?_⟩
        · have : j = i + 1 := by omega
          rw [this]; exact ⟨[], h⟩
        · rw [hxi] at hp; exact hp
      | cons y E0 =>
        have hh := hx.symm.trans h
        rw [List.cons_append] at hh
        have h1 : x = y := (List.cons.inj hh).1
        obtain ⟨E1, hE1⟩ := hE E0 (by rw [h1])
        exact old E1 hE1
    rcases ca_rule hA (i := i) (by omega) with ⟨_, _, _, z⟩ | ⟨_, _, _, z⟩ | ⟨_, _, _, z⟩ | ⟨_, t, _, z⟩ | ⟨_, t, _, z⟩ | ⟨_, _, _, z⟩ | ⟨_, t, _, z⟩ | ⟨_, _, _, e0, r, z1, _, z⟩ | ⟨_, t, _, e0, r, z1, t2, z⟩ | ⟨_, _, _, e0, r, z1, _, z⟩ | ⟨_, _, _, z⟩
    · exact old E (by rw [← z]; exact h)
    · exact old E (by rw [← z]; exact h)
    · exact old E (by rw [← z]; exact h)
    · refine new _ _ z rfl (fun E0 hE => ?_) ⟨fun _ => ⟨rfl, rfl⟩, fun y => absurd (t.symm.trans y) (by decide)⟩
      subst hE
      exact ⟨E0, (List.cons.inj (z.symm.trans h)).2⟩
    · refine new _ _ z rfl (fun E0 hE => ?_) ⟨fun _ => ⟨rfl, rfl⟩, fun y => absurd t (by omega)⟩
      subst hE
      exact ⟨E0, (List.cons.inj (z.symm.trans h)).2⟩
    · exact old E (by rw [← z]; exact h)
    · refine new _ _ z rfl (fun E0 hE => ?_) ⟨fun _ => ⟨rfl, rfl⟩, fun y => absurd (t.symm.trans y) (by decide)⟩
      subst hE
      exact ⟨E0, (List.cons.inj (z.symm.trans h)).2⟩
    · exact old (e0 :: E) (by rw [z1, ← z, h, List.cons_append])
    · obtain ⟨a1, a2, a3, a4, a5⟩ := ih (by omega) [] e0 r z1
      have a6 := a4 (by omega)
      refine new _ _ z rfl (fun E0 hE => ?_) ⟨fun y => absurd t y, fun _ => ⟨by show 20 ≤ T e0.2; rw [a6.1]; exact t2, ?_, by show e0.2 < i; omega⟩⟩
      · subst hE
        exact ⟨e0 :: E0, by rw [z1, (List.cons.inj (z.symm.trans h)).2]; rfl⟩
      · show ca_Z T i = (e0.2, e0.2) :: r
        rw [z1]
        exact congrArg (fun y => y :: r) (Prod.ext a6.1.symm rfl)
    · exact old (e0 :: E) (by rw [z1, ← z, h, List.cons_append])
    · exact old E (by rw [← z]; exact h)
/-- the token that takes an entry away, or moves it on -/
theorem ca_life (hA : ca_S T n = some (1, [])) {a H : Nat} {e : Nat × Nat} {B : List (Nat × Nat)} (hH : H ≤ n) (hZ : ca_Z T a = e :: B) (hn : ¬ ∃ E, ca_Z T H = E ++ e :: B) (haH : a ≤ H) :
    ∃ m, a ≤ m ∧ m < H ∧ ca_Z T m = e :: B ∧ (∀ i, a ≤ i → i ≤ m → ∃ E, ca_Z T i = E ++ e :: B) ∧ ca_W T m = 1 ∧
      ((T m = 9 ∧ T e.1 = 8 ∧ ca_Z T (m + 1) = B ∧ ca_W T (m + 1) = 0) ∨ (T m = 9 ∧ 20 ≤ T e.1 ∧ ca_Z T (m + 1) = (m, e.2) :: B ∧ ca_W T (m + 1) = 0) ∨ (T m = 7 ∧ (T e.1 = 9 ∨ T e.1 = 6 ∨ T e.1 = 5) ∧ ca_Z T (m + 1) = B ∧ ca_W T (m + 1) = 1)) := by
  have go : ∀ (d i : Nat), i + d = H → a ≤ i → (∀ j, a ≤ j → j ≤ i → ∃ E, ca_Z T j = E ++ e :: B) → ∃ m, a ≤ m ∧ m < H ∧ ca_Z T m = e :: B ∧ (∀ i, a ≤ i → i ≤ m → ∃ E, ca_Z T i = E ++ e :: B) ∧ ca_W T m = 1 ∧
      ((T m = 9 ∧ T e.1 = 8 ∧ ca_Z T (m + 1) = B ∧ ca_W T (m + 1) = 0) ∨ (T m = 9 ∧ 20 ≤ T e.1 ∧ ca_Z T (m + 1) = (m, e.2) :: B ∧ ca_W T (m + 1) = 0) ∨ (T m = 7 ∧ (T e.1 = 9 ∨ T e.1 = 6 ∨ T e.1 = 5) ∧ ca_Z T (m + 1) = B ∧ ca_W T (m + 1) = 1)) := by
    intro d
    induction d with
    | zero =>
      intro i hi hai hs
      exact absurd (hs i hai (Nat.le_refl _)) (by rw [show i = H by omega]; exact hn)
    | succ d ih =>
      intro i hi hai hs
      by_cases hx : ∃ E, ca_Z T (i + 1) = E ++ e :: B
      · refine ih (i + 1) (by omega) (by omega) (fun j hj hj2 => ?_)
        by_cases z : j = i + 1
        · rw [z]; exact hx
        · exact hs j hj (by omega)
      · obtain ⟨E, hE⟩ := hs i hai (Nat.le_refl _)
        have same : ca_Z T (i + 1) ≠ ca_Z T i := fun z => hx ⟨E, z.trans hE⟩
        have pushed : ∀ x, ca_Z T (i + 1) ≠ x :: ca_Z T i := fun x z => hx ⟨x :: E, by rw [z, hE, List.cons_append]⟩
        have pop : ∀ e0 r, ca_Z T i = e0 :: r → (¬ ∃ E1, r = E1 ++ e :: B) → e0 = e ∧ r = B := by
          intro e0 r z1 hr
          cases E with
          | nil =>
            have h2 := List.cons.inj (z1.symm.trans hE)
            exact h2
          | cons y E0 => exact absurd ⟨E0, (List.cons.inj (z1.symm.trans hE)).2⟩ hr
        rcases ca_rule hA (i := i) (by omega) with ⟨_, _, _, z⟩ | ⟨_, _, _, z⟩ | ⟨_, _, _, z⟩ | ⟨_, t, _, z⟩ | ⟨_, t, _, z⟩ | ⟨_, _, _, z⟩ | ⟨_, t, _, z⟩ | ⟨w1, t, w2, e0, r, z1, t1, z⟩ | ⟨w1, t, w2, e0, r, z1, t1, z⟩ | ⟨w1, t, w2, e0, r, z1, t1, z⟩ | ⟨_, _, _, z⟩
        · exact absurd z same
        · exact absurd z same
        · exact absurd z same
        · exact absurd z (pushed _)
        · exact absurd z (pushed _)
        · exact absurd z same
        · exact absurd z (pushed _)
        · obtain ⟨p1, p2⟩ := pop e0 r z1 (fun ⟨E1, y⟩ => hx ⟨E1, z.trans y⟩)
          subst p1 p2
          exact ⟨i, hai, by omega, z1, hs, w1, Or.inl ⟨t, t1, z, w2⟩⟩
        · obtain ⟨p1, p2⟩ := pop e0 r z1 (fun ⟨E1, y⟩ => hx ⟨(i, e0.2) :: E1, by rw [z, y, List.cons_append]⟩)
          subst p1 p2
          exact ⟨i, hai, by omega, z1, hs, w1, Or.inr (Or.inl ⟨t, t1, z, w2⟩)⟩
        · obtain ⟨p1, p2⟩ := pop e0 r z1 (fun ⟨E1, y⟩ => hx ⟨E1, z.trans y⟩)
          subst p1 p2
          exact ⟨i, hai, by omega, z1, hs, w1, Or.inr (Or.inr ⟨t, t1, z, w2⟩)⟩
        · exact absurd z same
  refine go (H - a) a (by omega) (Nat.le_refl _) (fun j hj hj2 => ?_)
  rw [show j = a by omega]
  exact ⟨[], hZ⟩
/-- how many entries are no ? -/
def ca_c (T : Nat → Nat) : List (Nat × Nat) → Nat
  | [] => 0
  | e :: r => (if T e.1 = 8 then 0 else 1) + ca_c T r
theorem ca_c_app (T : Nat → Nat) : ∀ (E R : List (Nat × Nat)), ca_c T (E ++ R) = ca_c T E + ca_c T R
  | [], R => by rw [List.nil_append]; show _ = 0 + _; omega
  | e :: r, R => by
    rw [List.cons_append]
    show _ + ca_c T (r ++ R) = _ + ca_c T r + _
    rw [ca_c_app T r R]; omega
/-- the depth of brackets before token i -/
def ca_h (T : Nat → Nat) (i : Nat) : Nat := ca_c T (ca_Z T i) - (if ca_W T i = 2 then 1 else 0)
theorem ca_w2 (hA : ca_S T n = some (1, [])) {i : Nat} (hi : i ≤ n) (hw : ca_W T i = 2) : ∃ j, i = j + 1 ∧ ca_Z T i = (j, j) :: ca_Z T j ∧ (T j = 5 ∨ 20 ≤ T j) := by
  cases i with
  | zero => rw [ca_W0] at hw; omega
  | succ j =>
    have h := ca_rule hA (i := j) (by omega)
    unfold ca_R at h
    rcases h with ⟨_, _, z, _⟩ | ⟨_, _, z, _⟩ | ⟨_, _, z, _⟩ | ⟨_, _, z, _⟩ | ⟨_, t, _, z⟩ | ⟨_, _, z, _⟩ | ⟨_, _, z, _⟩ | ⟨_, _, z, _⟩ | ⟨_, _, z, _⟩ | ⟨_, _, z, _⟩ | ⟨_, _, z, _⟩
    all_goals first | (rw [z] at hw; omega) | exact ⟨j, rfl, z, t⟩
theorem ca_hs (hA : ca_S T n = some (1, [])) {i : Nat} (hi : i < n) : ca_h T (i + 1) + (if T i = 7 then 1 else 0) = ca_h T i + (if T i = 6 then 1 else 0) := by
  have h2 : ca_W T i = 2 → 1 ≤ ca_c T (ca_Z T i) := by
    intro hw
    obtain ⟨j, _, z, t⟩ := ca_w2 hA (by omega) hw
    rw [z]
    show 1 ≤ (if T j = 8 then 0 else 1) + _
    rw [if_neg (by omega)]; omega
  unfold ca_h
  rcases ca_rule hA hi with ⟨w, t, w', z⟩ | ⟨w, t, w', z⟩ | ⟨w, t, w', z⟩ | ⟨w, t, w', z⟩ | ⟨w, t, w', z⟩ | ⟨w, t, w', z⟩ | ⟨w, t, w', z⟩ | ⟨w, t, w', e, r, z1, t1, z⟩ | ⟨w, t, w', e, r, z1, t1, z⟩ | ⟨w, t, w', e, r, z1, t1, z⟩ | ⟨w, t, w', z⟩
  · have := h2 w
    rw [w, w', z, t, if_pos rfl, if_neg (by decide), if_neg (by decide), if_pos rfl]; omega
  · rw [w, w', z, if_neg (by omega), if_neg (by omega), if_neg (by omega), if_neg (by omega)]
  · rw [w, w', z, if_neg (by omega), if_neg (by omega), if_neg (by omega)]
  · rw [w, w', z, t, if_neg (by decide), if_neg (by decide), if_pos rfl]
    show (if T i = 8 then 0 else 1) + _ - 0 + 0 = _
    rw [if_neg (by omega)]; omega
  · rw [w, w', z, if_pos rfl, if_neg (by omega), if_neg (by omega), if_neg (by omega)]
    show (if T i = 8 then 0 else 1) + _ - 1 + 0 = _
    rw [if_neg (by omega)]; omega
  · rw [w, w', z, if_neg (by omega), if_neg (by omega), if_neg (by omega)]
  · rw [w, w', z, if_neg (by omega), if_neg (by omega), if_neg (by omega), if_neg (by omega)]
    show (if T i = 8 then 0 else 1) + _ - 0 + 0 = _
    rw [if_pos t]; omega
  · rw [w, w', z, z1, if_neg (by omega), if_neg (by omega), if_neg (by omega), if_neg (by omega)]
    show _ = (if T e.1 = 8 then 0 else 1) + _ - 0 + 0
    rw [if_pos t1]; omega
  · rw [w, w', z, z1, if_neg (by omega), if_neg (by omega), if_neg (by omega), if_neg (by omega)]
    show (if T i = 8 then 0 else 1) + _ - 0 + 0 = (if T e.1 = 8 then 0 else 1) + _ - 0 + 0
    rw [if_neg (by omega), if_neg (by omega)]
  · rw [w, w', z, z1, if_neg (by omega), if_pos t, if_neg (by omega)]
    show _ = (if T e.1 = 8 then 0 else 1) + _ - 0 + 0
    rw [if_neg (by omega)]; omega
  · rw [w, w', z, if_neg (by omega), if_neg (by omega), if_neg (by omega), if_neg (by omega)]
end
end
section
/-- the tokens l .. h-1 are an expression -/
def ca_V (T : Nat → Nat) (n l h : Nat) : Prop := l < h ∧ h ≤ n ∧ ca_W T l = 0 ∧ ca_W T h = 1 ∧ ca_Z T h = ca_Z T l ∧ ∀ i, l ≤ i → i ≤ h → ∃ E, ca_Z T i = E ++ ca_Z T l
section
variable {T : Nat → Nat} {n l h : Nat}
theorem ca_V0 (hA : ca_S T n = some (1, [])) : ca_V T n 0 n := by
  have h1 := ca_Wn hA
  refine ⟨?_, Nat.le_refl _, ca_W0, h1, (ca_Zn hA).trans ca_Z0.symm, fun i _ _ => ⟨ca_Z T i, by rw [ca_Z0, List.append_nil]⟩⟩
  cases n with
  | zero => rw [ca_W0] at h1; omega
  | succ n => omega
/-- depth against the base -/
theorem ca_hE (hA : ca_S T n = some (1, [])) {i : Nat} {E : List (Nat × Nat)} (hw : ca_W T l = 0) (hi : i ≤ n) (hli : l ≤ i) (hsuf : ∀ j, l ≤ j → j ≤ i → ∃ E, ca_Z T j = E ++ ca_Z T l) (hZ : ca_Z T i = E ++ ca_Z T l) : ca_h T i + (if ca_W T i = 2 then 1 else 0) = ca_h T l + ca_c T E ∧ (ca_W T i = 2 → 1 ≤ ca_c T E) := by
  have hl : ca_h T l = ca_c T (ca_Z T l) := by unfold ca_h; rw [if_neg (by omega)]; rfl
  have k : ca_W T i = 2 → 1 ≤ ca_c T E := by
    intro h2
    obtain ⟨j, hj, z, t⟩ := ca_w2 hA hi h2
    have : i ≠ l := by intro y; rw [y, hw] at h2; omega
    obtain ⟨E', hE'⟩ := hsuf j (by omega) (by omega)
    have e : E = (j, j) :: E' := by
      have h3 : E ++ ca_Z T l = ((j, j) :: E') ++ ca_Z T l := by rw [← hZ, z, hE', List.cons_append]
      exact List.append_cancel_right h3
    rw [e]
    show 1 ≤ (if T j = 8 then 0 else 1) + _
    rw [if_neg (by omega)]; omega
  refine ⟨?_, k⟩
  rw [hl]
  unfold ca_h
  rw [hZ, ca_c_app]
  by_cases h2 : ca_W T i = 2
  · have := k h2
    rw [if_pos h2]; omega
  · rw [if_neg h2]; omega
theorem ca_hge (hA : ca_S T n = some (1, [])) (hV : ca_V T n l h) {i : Nat} (h1 : l ≤ i) (h2 : i ≤ h) : ca_h T l ≤ ca_h T i := by
  obtain ⟨v1, v2, v3, v4, v5, v6⟩ := hV
  obtain ⟨E, hE⟩ := v6 i h1 h2
  obtain ⟨a, b⟩ := ca_hE hA v3 (by omega) h1 (fun j x y => v6 j x (by omega)) hE
  by_cases z : ca_W T i = 2
  · have := b z
    rw [if_pos z] at a; omega
  · rw [if_neg z] at a; omega
theorem ca_last : ∀ (E : List (Nat × Nat)), E ≠ [] → ∃ E0 e, E = E0 ++ [e]
  | [], h => absurd rfl h
  | [x], _ => ⟨[], x, rfl⟩
  | x :: y :: r, _ => by
    obtain ⟨E0, e, he⟩ := ca_last (y :: r) (fun z => nomatch z)
    exact ⟨x :: E0, e, by rw [he]; rfl⟩
theorem ca_lenne {e : Nat × Nat} {E R : List (Nat × Nat)} (z : R = E ++ e :: R) : False := by
  have := congrArg List.length z
  rw [List.length_append, List.length_cons] at this
  omega
/-- what is unclosed at the depth of the span's own level is a ? of this level -/
theorem ca_top (hA : ca_S T n = some (1, [])) (hV : ca_V T n l h) {i : Nat} (h1 : l ≤ i) (h2 : i ≤ h) (hw : ca_W T i ≠ 2) (hh : ca_h T i = ca_h T l) (hno : ∀ j, l < j → j < i → T j = 8 → ca_h T j ≠ ca_h T l) : ca_Z T i = ca_Z T l := by
  obtain ⟨v1, v2, v3, v4, v5, v6⟩ := id hV
  obtain ⟨E, hE⟩ := v6 i h1 h2
  obtain ⟨a, _⟩ := ca_hE hA v3 (by omega) h1 (fun j x y => v6 j x (by omega)) hE
  rw [if_neg hw] at a
  have c0 : ca_c T E = 0 := by omega
  by_cases hnil : E = []
  · rw [hE, hnil, List.nil_append]
  · exfalso
    obtain ⟨E0, e, hd⟩ := ca_last E hnil
    have hZ : ca_Z T i = E0 ++ e :: ca_Z T l := by rw [hE, hd, List.append_assoc]; rfl
    have t8 : T e.1 = 8 := by
      rw [hd, ca_c_app] at c0
      by_cases t8 : T e.1 = 8
      · exact t8
      · have : ca_c T [e] = 1 := by
          show (if T e.1 = 8 then 0 else 1) + 0 = 1
          rw [if_neg t8]
        omega
    obtain ⟨b1, b2, b3, b4, b5⟩ := ca_ent hA (by omega) E0 e _ hZ
    have b6 := (b4 (by omega)).2
    have hle : l ≤ e.1 := by
      by_cases y : l ≤ e.1
      · exact y
      · obtain ⟨E', hE'⟩ := b3 l (by omega) h1
        exact (ca_lenne hE').elim
    have w1 : ca_W T e.1 = 1 := by
      have r := ca_rule hA (i := e.1) (by omega)
      unfold ca_R at r
      omega
    have hne : e.1 ≠ l := by intro y; rw [y, v3] at w1; omega
    refine hno e.1 (by omega) b1 t8 ?_
    unfold ca_h
    rw [b6, w1, v3]; rfl
/-- a span is cut at an operator of its own level -/
theorem ca_cutop (hA : ca_S T n = some (1, [])) (hV : ca_V T n l h) {c : Nat} (h1 : l < c) (h2 : c < h) (hw : ca_W T c = 1) (hh : ca_h T c = ca_h T l) (hop : 10 ≤ T c ∧ T c ≤ 18) (hno : ∀ j, l < j → j < h → T j = 8 → ca_h T j ≠ ca_h T l) : ca_V T n l c ∧ ca_V T n (c + 1) h ∧ ca_Z T (c + 1) = ca_Z T l ∧ ca_Z T c = ca_Z T l := by
  obtain ⟨v1, v2, v3, v4, v5, v6⟩ := id hV
  have hZ := ca_top hA hV (by omega) (by omega) (by omega) hh (fun j a b => hno j a (by omega))
  have r := ca_rule hA (i := c) (by omega)
  have hs : ca_W T (c + 1) = 0 ∧ ca_Z T (c + 1) = ca_Z T c := by
    rcases r with ⟨a, _⟩ | ⟨a, _⟩ | ⟨a, _⟩ | ⟨a, _⟩ | ⟨a, _⟩ | ⟨_, t, _⟩ | ⟨_, t, _⟩ | ⟨_, t, _⟩ | ⟨_, t, _⟩ | ⟨_, t, _⟩ | ⟨_, _, w', z⟩
    all_goals first | exact ⟨w', z⟩ | omega
  have hc : c + 1 ≠ h := by intro y; rw [y] at hs; omega
  have hz1 : ca_Z T (c + 1) = ca_Z T l := hs.2.trans hZ
  refine ⟨⟨h1, by omega, v3, hw, hZ, fun i a b => v6 i a (by omega)⟩, ⟨by omega, v2, hs.1, v4, v5.trans hz1.symm, fun i a b => ?_⟩, hz1, hZ⟩
  rw [hz1]
  exact v6 i (by omega) b
/-- .. and at its first ? -/
theorem ca_cutif (hA : ca_S T n = some (1, [])) (hV : ca_V T n l h) {c : Nat} (h1 : l < c) (h2 : c < h) (hh : ca_h T c = ca_h T l) (ht : T c = 8) (hno : ∀ j, l < j → j < c → T j = 8 → ca_h T j ≠ ca_h T l) : ∃ m, c + 1 < m ∧ m + 1 < h ∧ T m = 9 ∧ ca_V T n l c ∧ ca_V T n (c + 1) m ∧ ca_V T n (m + 1) h ∧ ca_Z T (c + 1) = (c, c) :: ca_Z T l ∧ ca_Z T m = (c, c) :: ca_Z T l ∧ ca_Z T (m + 1) = ca_Z T l ∧ ca_W T m = 1 := by
  obtain ⟨v1, v2, v3, v4, v5, v6⟩ := id hV
  have r := ca_rule hA (i := c) (by omega)
  have hs : ca_W T c = 1 ∧ ca_W T (c + 1) = 0 ∧ ca_Z T (c + 1) = (c, c) :: ca_Z T c := by
    rcases r with ⟨_, t, _⟩ | ⟨_, t, _⟩ | ⟨_, t, _⟩ | ⟨_, t, _⟩ | ⟨_, t, _⟩ | ⟨_, t, _⟩ | ⟨w, _, w', z⟩ | ⟨_, t, _⟩ | ⟨_, t, _⟩ | ⟨_, t, _⟩ | ⟨_, t, _⟩
    all_goals first | exact ⟨w, w', z⟩ | omega
  have hZ := ca_top hA hV (by omega) (by omega) (by omega) hh hno
  have hz1 : ca_Z T (c + 1) = (c, c) :: ca_Z T l := by rw [hs.2.2, hZ]
  obtain ⟨m, m1, m2, m3, m4, m5, m6⟩ := ca_life hA (a := c + 1) (H := h) v2 hz1 (fun ⟨E, z⟩ => ca_lenne (v5.symm.trans z)) (by omega)
  have m7 : T m = 9 ∧ ca_Z T (m + 1) = ca_Z T l ∧ ca_W T (m + 1) = 0 := by
    rcases m6 with ⟨a, b, c', d⟩ | ⟨a, b, c', d⟩ | ⟨a, b, c', d⟩
    · exact ⟨a, c', d⟩
    · exact absurd b (by show ¬ 20 ≤ T c; omega)
    · exact absurd b (by show ¬ (T c = 9 ∨ T c = 6 ∨ T c = 5); omega)
  have cm : c + 1 ≠ m := by intro y; rw [y] at hs; omega
  have mh : m + 1 ≠ h := by intro y; rw [y] at m7; omega
  refine ⟨m, by omega, by omega, m7.1, ⟨h1, by omega, v3, hs.1, hZ, fun i a b => v6 i a (by omega)⟩, ⟨by omega, by omega, hs.2.1, m5, m3.trans hz1.symm, fun i a b => ?_⟩, ⟨by omega, v2, m7.2.2, v4, v5.trans m7.2.1.symm, fun i a b => ?_⟩, hz1, m3, m7.2.1, m5⟩
  · rw [hz1]; exact m4 i a b
  · rw [m7.2.1]; exact v6 i (by omega) b
/-- no operator of the span's own level -/
def ca_N (T : Nat → Nat) (l h : Nat) : Prop := ∀ j, l < j → j < h → ca_h T j = ca_h T l → T j ≠ 8 ∧ (ca_W T j = 1 → ¬ (10 ≤ T j ∧ T j ≤ 18 ∧ T j ≠ 12))
theorem ca_tail (hA : ca_S T n = some (1, [])) (hV : ca_V T n l h) (hN : ca_N T l h) : ∀ (d i : Nat), i + d = h → l < i → ca_W T i = 1 → ca_Z T i = ca_Z T l → d ≠ 0 → (T (h - 1) = 1 ∨ T (h - 1) = 2) ∧ ca_W T (h - 1) = 1 ∧ ca_Z T (h - 1) = ca_Z T l ∧ l + 1 < h := by
  obtain ⟨v1, v2, v3, v4, v5, v6⟩ := id hV
  intro d
  induction d with
  | zero => intro i _ _ _ _ z; exact absurd rfl z
  | succ d ih =>
    intro i hi hl hw hZ _
    have hh : ca_h T i = ca_h T l := by unfold ca_h; rw [hZ, hw, v3]; rfl
    obtain ⟨n8, nop⟩ := hN i hl (by omega) hh
    have nop' := nop hw
    have step : (T i = 1 ∨ T i = 2) ∧ ca_W T (i + 1) = 1 ∧ ca_Z T (i + 1) = ca_Z T i := by
      rcases ca_rule hA (i := i) (by omega) with ⟨a, _⟩ | ⟨a, _⟩ | ⟨a, _⟩ | ⟨a, _⟩ | ⟨a, _⟩ | ⟨_, t, w', z⟩ | ⟨_, t, _⟩ | ⟨_, t, _, e, r, z1, _, z⟩ | ⟨_, t, _, e, r, z1, _, z⟩ | ⟨_, t, _, e, r, z1, _, z⟩ | ⟨_, t, _⟩
      all_goals first | exact ⟨t, w', z⟩ | omega | skip
      · obtain ⟨E, hE⟩ := v6 (i + 1) (by omega) (by omega)
        exact (ca_lenne (e := e) (E := []) (R := ca_Z T l) (by
          exfalso
          have := congrArg List.length (hZ.symm.trans z1)
          have h3 := congrArg List.length (z.symm.trans hE)
          rw [List.length_cons] at this
          rw [List.length_append] at h3
          omega)).elim
      · exfalso
        obtain ⟨E, hE⟩ := v6 (i + 1) (by omega) (by omega)
        have h5 : (i, e.2) :: r = E ++ ca_Z T l := z.symm.trans hE
        have h6 : ca_Z T l = e :: r := hZ.symm.trans z1
        rw [h6] at h5
        have h7 := congrArg List.length h5
        rw [List.length_append, List.length_cons, List.length_cons] at h7
        have : E = [] := List.length_eq_zero_iff.mp (by omega)
        rw [this, List.nil_append] at h5
        have h8 := (ca_ent hA (i := i) (by omega) [] e r z1).1
        have h9 : i = e.1 := congrArg Prod.fst (List.cons.inj h5).1
        omega
      · exfalso
        obtain ⟨E, hE⟩ := v6 (i + 1) (by omega) (by omega)
        have := congrArg List.length (hZ.symm.trans z1)
        have h3 := congrArg List.length (z.symm.trans hE)
        rw [List.length_cons] at this
        rw [List.length_append] at h3
        omega
    by_cases d0 : d = 0
    · have : i = h - 1 := by omega
      rw [← this]
      exact ⟨step.1, hw, hZ, by omega⟩
    · exact ih (i + 1) (by omega) (by omega) step.2.1 (step.2.2.trans hZ) d0
/-- a bracket of the span's own level closes at the span's end, or only properties follow -/
theorem ca_prim (hA : ca_S T n = some (1, [])) (hV : ca_V T n l h) (hN : ca_N T l h) {i : Nat} (hl : l < i) (hi : i ≤ h) (hw : ca_W T i = 1) (hZ : ca_Z T i = ca_Z T l) : i = h ∨ ((T (h - 1) = 1 ∨ T (h - 1) = 2) ∧ l + 1 < h ∧ ca_V T n l (h - 1)) := by
  obtain ⟨v1, v2, v3, v4, v5, v6⟩ := id hV
  by_cases z : i = h
  · exact Or.inl z
  · obtain ⟨a, b, c, d⟩ := ca_tail hA hV hN (h - i) i (by omega) hl hw hZ (by omega)
    exact Or.inr ⟨a, d, by omega, by omega, v3, b, c, fun j x y => v6 j x (by omega)⟩
end
end
section
/-- how many ? are unclosed below all brackets -/
def ca_b (T : Nat → Nat) : List (Nat × Nat) → Nat
  | [] => 0
  | e :: r => if T e.1 = 8 ∧ ca_b T r = r.length then r.length + 1 else ca_b T r
theorem ca_b_all {T : Nat → Nat} : ∀ {E : List (Nat × Nat)}, ca_c T E = 0 → ca_b T E = E.length
  | [], _ => rfl
  | e :: r, h => by
    have h1 : (if T e.1 = 8 then 0 else 1) + ca_c T r = 0 := h
    by_cases t : T e.1 = 8
    · rw [if_pos t] at h1
      show (if T e.1 = 8 ∧ ca_b T r = r.length then r.length + 1 else ca_b T r) = _
      rw [if_pos ⟨t, ca_b_all (by omega)⟩]; rfl
    · rw [if_neg t] at h1; omega
theorem ca_b_le {T : Nat → Nat} : ∀ {E : List (Nat × Nat)}, ca_b T E ≤ E.length
  | [] => Nat.le_refl _
  | e :: r => by
    show (if T e.1 = 8 ∧ ca_b T r = r.length then r.length + 1 else ca_b T r) ≤ r.length + 1
    have := ca_b_le (T := T) (E := r)
    by_cases t : T e.1 = 8 ∧ ca_b T r = r.length
    · rw [if_pos t]; omega
    · rw [if_neg t]; omega
theorem ca_b_not {T : Nat → Nat} : ∀ {E : List (Nat × Nat)}, ca_c T E ≠ 0 → ca_b T E < E.length
  | [], h => absurd rfl h
  | e :: r, h => by
    have h1 : (if T e.1 = 8 then 0 else 1) + ca_c T r ≠ 0 := h
    show (if T e.1 = 8 ∧ ca_b T r = r.length then r.length + 1 else ca_b T r) < r.length + 1
    have := ca_b_le (T := T) (E := r)
    by_cases t : T e.1 = 8 ∧ ca_b T r = r.length
    · rw [if_pos t.1] at h1
      have := ca_b_not (T := T) (E := r) (by omega)
      omega
    · rw [if_neg t]; omega
theorem ca_b_other {T : Nat → Nat} {e : Nat × Nat} {r : List (Nat × Nat)} (h : T e.1 ≠ 8) : ca_b T (e :: r) = ca_b T r := if_neg (fun z => h z.1)
theorem ca_b_deep {T : Nat → Nat} {e : Nat × Nat} {r : List (Nat × Nat)} (h : ca_c T r ≠ 0) : ca_b T (e :: r) = ca_b T r := if_neg (fun z => by have := ca_b_not h; omega)
theorem ca_c_cons {T : Nat → Nat} {e : Nat × Nat} {r : List (Nat × Nat)} : ca_c T (e :: r) = (if T e.1 = 8 then 0 else 1) + ca_c T r := rfl
section
variable {T : Nat → Nat} {n : Nat}
theorem ca_end (hA : ca_S T n = some (1, [])) {i : Nat} (h0 : 0 < i) (hi : i ≤ n) : ca_W T i = 1 ↔ (T (i - 1) ≤ 4 ∨ T (i - 1) = 7 ∨ T (i - 1) = 19) := by
  obtain ⟨j, rfl⟩ : ∃ j, i = j + 1 := ⟨i - 1, by omega⟩
  rw [Nat.add_sub_cancel]
  have r := ca_rule hA (i := j) (by omega)
  unfold ca_R at r
  omega
/-- one token of the search for a colon -/
theorem ca_bs (hA : ca_S T n = some (1, [])) {i0 k m : Nat} {e : Nat × Nat} {R E : List (Nat × Nat)} (hw : ca_W T i0 = 0) (hB : ca_Z T i0 = e :: R) (hsuf : ∀ i, i0 ≤ i → i ≤ m → ∃ E, ca_Z T i = E ++ e :: R) (hm : m < n) (hk : i0 ≤ k) (hkm : k < m) (hE : ca_Z T k = E ++ e :: R) :
    ∃ E', ca_Z T (k + 1) = E' ++ e :: R ∧
      ((ca_h T (k + 1) = ca_h T i0 ∧ T k = 9 ∧ 0 < ca_b T E ∧ ca_b T E' = ca_b T E - 1) ∨ (ca_h T (k + 1) = ca_h T i0 ∧ T k = 8 ∧ ca_b T E' = ca_b T E + 1) ∨ (¬ (ca_h T (k + 1) = ca_h T i0 ∧ (T k = 9 ∨ T k = 8)) ∧ ca_b T E' = ca_b T E)) := by
  obtain ⟨E', hE'⟩ := hsuf (k + 1) (by omega) (by omega)
  refine ⟨E', hE', ?_⟩
  have hs' : ∀ i, i0 ≤ i → i ≤ m → ∃ E, ca_Z T i = E ++ ca_Z T i0 := by rw [hB]; exact hsuf
  have hc := (ca_hE hA hw (by omega) hk (fun j a b => hs' j a (by omega)) (by rw [hB]; exact hE)).1
  have hst := ca_hs hA (i := k) (by omega)
  have can : ∀ X : List (Nat × Nat), ca_Z T (k + 1) = X ++ e :: R → E' = X := fun X hX => List.append_cancel_right (hE'.symm.trans hX)
  have ek : E = [] → ∀ e0 r, ca_Z T k = e0 :: r → e0 = e ∧ r = R := by
    intro hz e0 r z1
    rw [hz, List.nil_append] at hE
    exact List.cons.inj (z1.symm.trans hE)
  rcases ca_rule hA (i := k) (by omega) with ⟨w, t, w', z⟩ | ⟨w, t, w', z⟩ | ⟨w, t, w', z⟩ | ⟨w, t, w', z⟩ | ⟨w, t, w', z⟩ | ⟨w, t, w', z⟩ | ⟨w, t, w', z⟩ | ⟨w, t, w', e0, r, z1, t1, z⟩ | ⟨w, t, w', e0, r, z1, t1, z⟩ | ⟨w, t, w', e0, r, z1, t1, z⟩ | ⟨w, t, w', z⟩
  · exact Or.inr (Or.inr ⟨by omega, by rw [can E (by rw [z, hE])]⟩)
  · exact Or.inr (Or.inr ⟨by omega, by rw [can E (by rw [z, hE])]⟩)
  · exact Or.inr (Or.inr ⟨by omega, by rw [can E (by rw [z, hE])]⟩)
  · exact Or.inr (Or.inr ⟨by omega, by rw [can ((k, k) :: E) (by rw [z, hE]; rfl)]; exact ca_b_other (by show T k ≠ 8; omega)⟩)
  · exact Or.inr (Or.inr ⟨by omega, by rw [can ((k, k) :: E) (by rw [z, hE]; rfl)]; exact ca_b_other (by show T k ≠ 8; omega)⟩)
  · exact Or.inr (Or.inr ⟨by omega, by rw [can E (by rw [z, hE])]⟩)
  · have ee := can ((k, k) :: E) (by rw [z, hE]; rfl)
    rw [if_neg (by omega)] at hc
    rw [if_neg (by omega), if_neg (by omega)] at hst
    by_cases c0 : ca_c T E = 0
    · refine Or.inr (Or.inl ⟨by omega, t, ?_⟩)
      rw [ee, ca_b_all (E := (k, k) :: E) (by rw [ca_c_cons]; rw [if_pos t]; omega), ca_b_all c0]; rfl
    · exact Or.inr (Or.inr ⟨fun y => by omega, by rw [ee]; exact ca_b_deep c0⟩)
  · rw [if_neg (by omega)] at hc
    rw [if_neg (by omega), if_neg (by omega)] at hst
    cases E with
    | nil =>
      obtain ⟨p1, p2⟩ := ek rfl e0 r z1
      rw [p2] at z
      exact (ca_lenne (z.symm.trans hE')).elim
    | cons x E1 =>
      obtain ⟨p1, p2⟩ := List.cons.inj (z1.symm.trans hE)
      have ee := can E1 (z.trans p2)
      rw [p1] at t1
      rw [ca_c_cons, if_pos t1] at hc
      by_cases c0 : ca_c T E1 = 0
      · refine Or.inl ⟨by omega, t, ?_, ?_⟩
        · rw [ca_b_all (E := x :: E1) (by rw [ca_c_cons, if_pos t1]; omega)]; exact Nat.succ_pos _
        · rw [ee, ca_b_all (E := x :: E1) (by rw [ca_c_cons, if_pos t1]; omega), ca_b_all c0]; rfl
      · exact Or.inr (Or.inr ⟨fun y => by omega, by rw [ee]; exact (ca_b_deep c0).symm⟩)
  · rw [if_neg (by omega)] at hc
    rw [if_neg (by omega), if_neg (by omega)] at hst
    cases E with
    | nil =>
      obtain ⟨p1, p2⟩ := ek rfl e0 r z1
      rw [p1, p2] at z
      have h5 := z.symm.trans hE'
      have h7 := congrArg List.length h5
      rw [List.length_append, List.length_cons, List.length_cons] at h7
      have h6 : E' = [] := List.length_eq_zero_iff.mp (by omega)
      rw [h6, List.nil_append] at h5
      have h8 := (ca_ent hA (i := k) (by omega) [] e R (by rw [hE])).1
      have h9 : k = e.1 := congrArg Prod.fst (List.cons.inj h5).1
      omega
    | cons x E1 =>
      obtain ⟨p1, p2⟩ := List.cons.inj (z1.symm.trans hE)
      have ee := can ((k, e0.2) :: E1) (by rw [z, p2]; rfl)
      rw [p1] at t1
      rw [ca_c_cons, if_neg (by omega)] at hc
      refine Or.inr (Or.inr ⟨fun y => by omega, ?_⟩)
      rw [ee, ca_b_other (by show T k ≠ 8; omega), ca_b_other (e := x) (by omega)]
  · cases E with
    | nil =>
      obtain ⟨p1, p2⟩ := ek rfl e0 r z1
      rw [p2] at z
      exact (ca_lenne (z.symm.trans hE')).elim
    | cons x E1 =>
      obtain ⟨p1, p2⟩ := List.cons.inj (z1.symm.trans hE)
      have ee := can E1 (z.trans p2)
      rw [p1] at t1
      exact Or.inr (Or.inr ⟨by omega, by rw [ee, ca_b_other (e := x) (by omega)]⟩)
  · exact Or.inr (Or.inr ⟨by omega, by rw [can E (by rw [z, hE])]⟩)
end
section
variable {ob pl nds sts res era usd sp lv ret out : Int32} {ycls prp lst siz dnd opd yrk rn op nm ay prt ylo yhi sN sP sX sK it vr tk tv : Nat → Int32} {n : Nat} {T : Nat → Nat}
theorem cy_45 {post : Int32 → Prop} {J : Int32 → Int32 → Int32 → Prop} {D b k t : Nat} (hD : D < 100) (hb : b < 100) (ht : t < 23) (h1 : D = 0 → t = 9 → b = 0 → post (nI k)) (h2 : D = 0 → t = 9 → 0 < b → J (nI D) (nI (b - 1)) (nI (k + 1))) (h3 : D = 0 → t = 8 → J (nI D) (nI (b + 1)) (nI (k + 1))) (h4 : ¬ (D = 0 ∧ (t = 9 ∨ t = 8)) → J (nI D) (nI b) (nI (k + 1))) : wY_colon_45 post J (nI D) (nI b) (nI k) (nI t) ob (nI n) pl nds sts res era usd sp lv ret out ycls prp lst siz dnd (tk) (tv) opd yrk rn op nm ay prt ylo yhi sN sP sX sK it vr := by
  have e9 : ∀ x, t ≠ x → x < 23 → ¬ nI t = nI x := fun x z hx y => z ((nI_eq (by omega) (by omega)).1 y)
  by_cases d0 : D = 0
  · subst d0
    have z0 : nI 0 = 0 := rfl
    by_cases t9 : t = 9
    · have t9' : nI t = 9 := by rw [t9]; rfl
      by_cases b0 : b = 0
      · exact br_t z0 (br_t t9' (br_t (by rw [b0]; rfl) (h1 rfl t9 b0)))
      · obtain ⟨c, rfl⟩ : ∃ c, b = c + 1 := ⟨b - 1, by omega⟩
        exact br_t z0 (br_t t9' (br_f (nI_ne0 (by omega) (by omega)) (br_t z0 (br_t t9' (nm_r (pk_m1 c) (br_t z0 (br_f (e9 8 (by omega) (by decide)) (nm_r (nI_1 k) (h2 rfl t9 (by omega))))))))))
    · have t9' := e9 9 t9 (by decide)
      by_cases t8 : t = 8
      · exact br_t z0 (br_f t9' (br_t z0 (br_f t9' (br_t z0 (br_t (by rw [t8]; rfl) (nm_r (nI_1 b) (nm_r (nI_1 k) (h3 rfl t8))))))))
      · exact br_t z0 (br_f t9' (br_t z0 (br_f t9' (br_t z0 (br_f (e9 8 t8 (by decide)) (nm_r (nI_1 k) (h4 (by omega))))))))
  · have z0 : ¬ nI D = 0 := nI_ne0 (by omega) (by omega)
    exact br_f z0 (br_f z0 (br_f z0 (nm_r (nI_1 k) (h4 (by omega)))))
theorem cy_colon (hn : n ≤ 40) (hK : ∀ i, i < n → tk i = nI (T i) ∧ T i < 23) (hA : ca_S T n = some (1, [])) {i0 m : Nat} {e : Nat × Nat} {R : List (Nat × Nat)} (hw : ca_W T i0 = 0) (hB : ca_Z T i0 = e :: R) (hsuf : ∀ i, i0 ≤ i → i ≤ m → ∃ E, ca_Z T i = E ++ e :: R) (hm : m < n) (him : i0 ≤ m) (hZm : ca_Z T m = e :: R) (hWm : ca_W T m = 1) (hTm : T m = 9) {post : Int32 → Prop} (hp : post (nI m)) : wpY_colon post (ob, nI n, pl, nds, sts, res, era, usd, sp, lv, ret, out, ycls, prp, lst, siz, dnd, tk, tv, opd, yrk, rn, op, nm, ay, prt, ylo, yhi, sN, sP, sX, sK, it, vr) (nI i0) := by
  have hs' : ∀ i, i0 ≤ i → i ≤ m → ∃ E, ca_Z T i = E ++ ca_Z T i0 := by rw [hB]; exact hsuf
  have hge : ∀ i, i0 ≤ i → i ≤ m → ca_h T i0 ≤ ca_h T i := by
    intro i a b
    obtain ⟨E, hE⟩ := hs' i a b
    obtain ⟨x, y⟩ := ca_hE hA hw (by omega) a (fun j c d => hs' j c (by omega)) hE
    by_cases z : ca_W T i = 2
    · have := y z
      rw [if_pos z] at x; omega
    · rw [if_neg z] at x; omega
  have hub : ∀ i, i ≤ n → ca_h T i ≤ i := by
    intro i
    induction i with
    | zero => intro _; exact Nat.le_refl _
    | succ i ih =>
      intro hi
      have a := ca_hs hA (i := i) (by omega)
      have b := ih (by omega)
      by_cases t6 : T i = 6
      · rw [if_pos t6] at a; omega
      · rw [if_neg t6] at a; omega
  have hlen : ∀ i, i ≤ n → (ca_Z T i).length ≤ i := by
    intro i
    induction i with
    | zero => intro _; exact Nat.le_refl _
    | succ i ih =>
      intro hi
      have b := ih (by omega)
      rcases ca_rule hA (i := i) (by omega) with ⟨w, t, w', z⟩ | ⟨w, t, w', z⟩ | ⟨w, t, w', z⟩ | ⟨w, t, w', z⟩ | ⟨w, t, w', z⟩ | ⟨w, t, w', z⟩ | ⟨w, t, w', z⟩ | ⟨w, t, w', e0, r, z1, t1, z⟩ | ⟨w, t, w', e0, r, z1, t1, z⟩ | ⟨w, t, w', e0, r, z1, t1, z⟩ | ⟨w, t, w', z⟩
      all_goals (try rw [z1, List.length_cons] at b); rw [z]; (try rw [List.length_cons]); omega
  have loop : ∀ (d k : Nat) (E : List (Nat × Nat)), k + d = m → i0 ≤ k → ca_Z T k = E ++ e :: R → wY_colon_7 post ob (nI n) pl nds sts res era usd sp lv ret out ycls prp lst siz dnd (tk) (tv) opd yrk rn op nm ay prt ylo yhi sN sP sX sK it vr (d + 1) (nI (ca_h T k - ca_h T i0)) (nI (ca_b T E)) (nI k) := by
    intro d
    induction d with
    | zero =>
      intro k E hk hik hE
      have hkn : k < n := by omega
      obtain ⟨kk, kt⟩ := hK k hkn
      have ck : (nI k).toNatClampNeg = k := nI_clamp (by omega)
      have bl : ca_b T E < 100 := by
        have a1 := ca_b_le (T := T) (E := E)
        have a2 := hlen k (by omega)
        rw [hE, List.length_append] at a2
        omega
      have g1 := hge k hik (by omega)
      have g3 := hub k (by omega)
      have g4 := hub (k + 1) (by omega)
      have hst := ca_hs hA hkn
      have to45 : wY_colon_45 post (wY_colon_7 post ob (nI n) pl nds sts res era usd sp lv ret out ycls prp lst siz dnd (tk) (tv) opd yrk rn op nm ay prt ylo yhi sN sP sX sK it vr 0) (nI (ca_h T (k + 1) - ca_h T i0)) (nI (ca_b T E)) (nI k) (nI (T k)) ob (nI n) pl nds sts res era usd sp lv ret out ycls prp lst siz dnd (tk) (tv) opd yrk rn op nm ay prt ylo yhi sN sP sX sK it vr → ca_h T i0 ≤ ca_h T (k + 1) → wY_colon_7 post ob (nI n) pl nds sts res era usd sp lv ret out ycls prp lst siz dnd (tk) (tv) opd yrk rn op nm ay prt ylo yhi sN sP sX sK it vr (0 + 1) (nI (ca_h T k - ca_h T i0)) (nI (ca_b T E)) (nI k) := by
        intro H g2
        refine br_f (nI_ge hkn (by omega)) ⟨vp_in_nI (by omega) (by decide), nm_r (e' := nI (T k)) (by rw [ck]; exact kk) ?_⟩
        by_cases t6 : T k = 6
        · rw [if_neg (by omega), if_pos t6] at hst
          refine br_t (by rw [t6]; rfl) (nm_r (e' := nI (ca_h T (k + 1) - ca_h T i0)) (by rw [nI_1]; exact congrArg nI (by omega)) (br_f (fun z => absurd ((nI_eq (b := 7) (by omega) (by decide)).1 z) (by omega)) H))
        · refine br_f (fun z => t6 ((nI_eq (b := 6) (by omega) (by decide)).1 z)) ?_
          rw [if_neg t6] at hst
          by_cases t7 : T k = 7
          · rw [if_pos t7] at hst
            obtain ⟨c, hc⟩ : ∃ c, ca_h T k - ca_h T i0 = c + 1 := ⟨ca_h T k - ca_h T i0 - 1, by omega⟩
            refine br_t (by rw [t7]; rfl) (nm_r (e' := nI (ca_h T (k + 1) - ca_h T i0)) (by rw [hc, pk_m1]; exact congrArg nI (by omega)) H)
          · rw [if_neg t7] at hst
            refine br_f (fun z => t7 ((nI_eq (b := 7) (by omega) (by decide)).1 z)) ?_
            rw [show ca_h T k = ca_h T (k + 1) by omega]; exact H
      have km : k = m := by omega
      subst km
      have E0 : E = [] := by
        have h5 := congrArg List.length (hE.symm.trans hZm)
        rw [List.length_append] at h5
        exact List.length_eq_zero_iff.mp (by omega)
      subst E0
      have hh : ca_h T k = ca_h T i0 := by
        have x := (ca_hE hA hw (by omega) hik (fun j c d => hs' j c (by omega)) (E := []) (by rw [hB]; exact hE)).1
        rw [if_neg (by omega)] at x
        exact x
      rw [hTm, if_neg (by decide), if_neg (by decide)] at hst
      refine to45 (cy_45 (by omega) bl kt (fun _ _ _ => hp) (fun _ _ z => absurd z (by show ¬ 0 < 0; omega)) (fun _ z => absurd z (by omega)) (fun z => absurd z ?_)) (by omega)
      exact fun y => y ⟨by omega, Or.inl hTm⟩
    | succ d ih =>
      intro k E hk hik hE
      have hkn : k < n := by omega
      obtain ⟨kk, kt⟩ := hK k hkn
      have ck : (nI k).toNatClampNeg = k := nI_clamp (by omega)
      have bl : ca_b T E < 100 := by
        have a1 := ca_b_le (T := T) (E := E)
        have a2 := hlen k (by omega)
        rw [hE, List.length_append] at a2
        omega
      have g1 := hge k hik (by omega)
      have g3 := hub k (by omega)
      have g4 := hub (k + 1) (by omega)
      have hst := ca_hs hA hkn
      have to45 : wY_colon_45 post (wY_colon_7 post ob (nI n) pl nds sts res era usd sp lv ret out ycls prp lst siz dnd (tk) (tv) opd yrk rn op nm ay prt ylo yhi sN sP sX sK it vr (d + 1)) (nI (ca_h T (k + 1) - ca_h T i0)) (nI (ca_b T E)) (nI k) (nI (T k)) ob (nI n) pl nds sts res era usd sp lv ret out ycls prp lst siz dnd (tk) (tv) opd yrk rn op nm ay prt ylo yhi sN sP sX sK it vr → ca_h T i0 ≤ ca_h T (k + 1) → wY_colon_7 post ob (nI n) pl nds sts res era usd sp lv ret out ycls prp lst siz dnd (tk) (tv) opd yrk rn op nm ay prt ylo yhi sN sP sX sK it vr ((d + 1) + 1) (nI (ca_h T k - ca_h T i0)) (nI (ca_b T E)) (nI k) := by
        intro H g2
        refine br_f (nI_ge hkn (by omega)) ⟨vp_in_nI (by omega) (by decide), nm_r (e' := nI (T k)) (by rw [ck]; exact kk) ?_⟩
        by_cases t6 : T k = 6
        · rw [if_neg (by omega), if_pos t6] at hst
          refine br_t (by rw [t6]; rfl) (nm_r (e' := nI (ca_h T (k + 1) - ca_h T i0)) (by rw [nI_1]; exact congrArg nI (by omega)) (br_f (fun z => absurd ((nI_eq (b := 7) (by omega) (by decide)).1 z) (by omega)) H))
        · refine br_f (fun z => t6 ((nI_eq (b := 6) (by omega) (by decide)).1 z)) ?_
          rw [if_neg t6] at hst
          by_cases t7 : T k = 7
          · rw [if_pos t7] at hst
            obtain ⟨c, hc⟩ : ∃ c, ca_h T k - ca_h T i0 = c + 1 := ⟨ca_h T k - ca_h T i0 - 1, by omega⟩
            refine br_t (by rw [t7]; rfl) (nm_r (e' := nI (ca_h T (k + 1) - ca_h T i0)) (by rw [hc, pk_m1]; exact congrArg nI (by omega)) H)
          · rw [if_neg t7] at hst
            refine br_f (fun z => t7 ((nI_eq (b := 7) (by omega) (by decide)).1 z)) ?_
            rw [show ca_h T k = ca_h T (k + 1) by omega]; exact H
      obtain ⟨E', hE', hcase⟩ := ca_bs hA hw hB hsuf hm hik (by omega) hE
      have g2 := hge (k + 1) (by omega) (by omega)
      have IH := ih (k + 1) E' (by omega) (by omega) hE'
      refine to45 (cy_45 (by omega) bl kt (fun z1 z2 z3 => ?_) (fun z1 z2 z3 => ?_) (fun z1 z2 => ?_) (fun z => ?_)) g2
      · rcases hcase with ⟨_, _, c3, _⟩ | ⟨_, c2, _⟩ | ⟨c1, _⟩
        · omega
        · omega
        · exact absurd ⟨by omega, Or.inl z2⟩ c1
      · rcases hcase with ⟨_, _, _, c4⟩ | ⟨_, c2, _⟩ | ⟨c1, _⟩
        · rw [← c4]; exact IH
        · omega
        · exact absurd ⟨by omega, Or.inl z2⟩ c1
      · rcases hcase with ⟨_, c2, _⟩ | ⟨_, _, c3⟩ | ⟨c1, _⟩
        · omega
        · rw [← c3]; exact IH
        · exact absurd ⟨by omega, Or.inr z2⟩ c1
      · rcases hcase with ⟨c1, c2, _⟩ | ⟨c1, c2, _⟩ | ⟨_, c2⟩
        · exact absurd ⟨by omega, Or.inl c2⟩ z
        · exact absurd ⟨by omega, Or.inr c2⟩ z
        · rw [← c2]; exact IH
  have L := loop (m - i0) i0 [] (by omega) (Nat.le_refl _) (by rw [hB]; rfl)
  rw [Nat.sub_self] at L
  exact ⟨_, L⟩
end
end
section
theorem ca_hub {T : Nat → Nat} {n : Nat} (hA : ca_S T n = some (1, [])) : ∀ i, i ≤ n → ca_h T i ≤ i := by
  intro i
  induction i with
  | zero => intro _; exact Nat.le_refl _
  | succ i ih =>
    intro hi
    have a := ca_hs hA (i := i) (by omega)
    have b := ih (by omega)
    by_cases t6 : T i = 6
    · rw [if_pos t6] at a; omega
    · rw [if_neg t6] at a; omega
/-- how strongly the reference lets a token bind -/
def ca_wt (t : Nat) : Nat := if t = 10 then 1 else if t = 11 then 2 else if t = 13 then 3 else if t = 14 then 3 else if t = 15 then 4 else if t = 16 then 4 else if t = 17 then 5 else if t = 18 then 5 else 9
theorem cy_wt {post : Int32 → Prop} {t : Nat} (ht : t < 23) (h : post (nI (ca_wt t))) : wpY_weight post (nI t) := by
  have e : ∀ x, t ≠ x → x < 23 → ¬ nI t = nI x := fun x z hx y => z ((nI_eq (by omega) (by omega)).1 y)
  unfold ca_wt at h
  by_cases t10 : t = 10
  · rw [if_pos t10] at h; exact br_t (by rw [t10]; rfl) h
  rw [if_neg t10] at h
  by_cases t11 : t = 11
  · rw [if_pos t11] at h; exact br_f (e 10 t10 (by decide)) (br_t (by rw [t11]; rfl) h)
  rw [if_neg t11] at h
  by_cases t13 : t = 13
  · rw [if_pos t13] at h; exact br_f (e 10 t10 (by decide)) (br_f (e 11 t11 (by decide)) (br_t (by rw [t13]; rfl) h))
  rw [if_neg t13] at h
  by_cases t14 : t = 14
  · rw [if_pos t14] at h; exact br_f (e 10 t10 (by decide)) (br_f (e 11 t11 (by decide)) (br_f (e 13 t13 (by decide)) (br_t (by rw [t14]; rfl) h)))
  rw [if_neg t14] at h
  by_cases t15 : t = 15
  · rw [if_pos t15] at h; exact br_f (e 10 t10 (by decide)) (br_f (e 11 t11 (by decide)) (br_f (e 13 t13 (by decide)) (br_f (e 14 t14 (by decide)) (br_t (by rw [t15]; rfl) h))))
  rw [if_neg t15] at h
  by_cases t16 : t = 16
  · rw [if_pos t16] at h; exact br_f (e 10 t10 (by decide)) (br_f (e 11 t11 (by decide)) (br_f (e 13 t13 (by decide)) (br_f (e 14 t14 (by decide)) (br_f (e 15 t15 (by decide)) (br_t (by rw [t16]; rfl) h)))))
  rw [if_neg t16] at h
  by_cases t17 : t = 17
  · rw [if_pos t17] at h; exact br_f (e 10 t10 (by decide)) (br_f (e 11 t11 (by decide)) (br_f (e 13 t13 (by decide)) (br_f (e 14 t14 (by decide)) (br_f (e 15 t15 (by decide)) (br_f (e 16 t16 (by decide)) (br_t (by rw [t17]; rfl) h))))))
  rw [if_neg t17] at h
  by_cases t18 : t = 18
  · rw [if_pos t18] at h; exact br_f (e 10 t10 (by decide)) (br_f (e 11 t11 (by decide)) (br_f (e 13 t13 (by decide)) (br_f (e 14 t14 (by decide)) (br_f (e 15 t15 (by decide)) (br_f (e 16 t16 (by decide)) (br_f (e 17 t17 (by decide)) (br_t (by rw [t18]; rfl) h)))))))
  rw [if_neg t18] at h
  exact br_f (e 10 t10 (by decide)) (br_f (e 11 t11 (by decide)) (br_f (e 13 t13 (by decide)) (br_f (e 14 t14 (by decide)) (br_f (e 15 t15 (by decide)) (br_f (e 16 t16 (by decide)) (br_f (e 17 t17 (by decide)) (br_f (e 18 t18 (by decide)) (h))))))))
def ca_op (T : Nat → Nat) (l j : Nat) : Prop := ca_h T j = ca_h T l ∧ ca_W T j = 1 ∧ 10 ≤ T j ∧ T j ≤ 18 ∧ T j ≠ 12
theorem ca_wt5 {t : Nat} : ca_wt t ≤ 8 ↔ (10 ≤ t ∧ t ≤ 18 ∧ t ≠ 12) := by
  unfold ca_wt
  constructor
  · intro h
    repeat' split at h
    all_goals omega
  · intro h
    repeat' split
    all_goals omega
/-- what the reference's cut finds in the span l .. u-1 -/
def ca_cut (T : Nat → Nat) (l u c : Nat) : Prop :=
  (l < c ∧ c < u ∧ T c = 8 ∧ ca_h T c = ca_h T l ∧ ∀ j, l < j → j < c → T j = 8 → ca_h T j ≠ ca_h T l) ∨
  ((∀ j, l < j → j < u → T j = 8 → ca_h T j ≠ ca_h T l) ∧ l < c ∧ c < u ∧ ca_op T l c ∧ ∀ j, l < j → j < u → ca_op T l j → ca_wt (T c) ≤ ca_wt (T j) ∧ (c < j → ca_wt (T c) < ca_wt (T j))) ∨
  (c = l ∧ ca_N T l u)
section
variable {ob pl nds sts res era usd sp lv ret out : Int32} {ycls prp lst siz dnd opd yrk rn op nm ay prt ylo yhi sN sP sX sK it vr tk tv : Nat → Int32} {n : Nat} {T : Nat → Nat}
theorem cy_closing (hn : n ≤ 40) (hK : ∀ i, i < n → tk i = nI (T i) ∧ T i < 23) (hA : ca_S T n = some (1, [])) {q e : Nat} (hq : q + 1 ≤ e) (he : e < n) (hgt : ∀ k, q + 1 ≤ k → k < e → ca_h T q < ca_h T (k + 1)) (hq1 : ca_h T (q + 1) = ca_h T q) (hend : ca_h T (e + 1) = ca_h T q) {post : Int32 → Prop} (hp : post (nI e)) : wpY_closing post (ob, nI n, pl, nds, sts, res, era, usd, sp, lv, ret, out, ycls, prp, lst, siz, dnd, tk, tv, opd, yrk, rn, op, nm, ay, prt, ylo, yhi, sN, sP, sX, sK, it, vr) (nI (q + 1)) := by
  have stepd : ∀ (P : Int32 → Prop) (k : Nat), k < n → ca_h T q ≤ ca_h T k → ca_h T q ≤ ca_h T (k + 1) → P (nI (ca_h T (k + 1) - ca_h T q)) → ((T k = 6 → P (nI (ca_h T k - ca_h T q) + 1)) ∧ (T k = 7 → P (nI (ca_h T k - ca_h T q) + (-1))) ∧ (T k ≠ 6 → T k ≠ 7 → P (nI (ca_h T k - ca_h T q)))) := by
    intro P k hk g1 g2 H
    have hst := ca_hs hA hk
    refine ⟨fun t6 => ?_, fun t7 => ?_, fun t6 t7 => ?_⟩
    · rw [if_neg (by omega), if_pos t6] at hst
      rw [nI_1, show ca_h T k - ca_h T q + 1 = ca_h T (k + 1) - ca_h T q by omega]; exact H
    · rw [if_pos t7, if_neg (by omega)] at hst
      obtain ⟨c, hc⟩ : ∃ c, ca_h T k - ca_h T q = c + 1 := ⟨ca_h T k - ca_h T q - 1, by omega⟩
      rw [hc, pk_m1, show c = ca_h T (k + 1) - ca_h T q by omega]; exact H
    · rw [if_neg t7, if_neg t6] at hst
      rw [show ca_h T k = ca_h T (k + 1) by omega]; exact H
  have hle : ∀ k, q + 1 ≤ k → k ≤ e → ca_h T q ≤ ca_h T k := by
    intro k a b
    by_cases z : k = q + 1
    · rw [z, hq1]; exact Nat.le_refl _
    · obtain ⟨j, rfl⟩ : ∃ j, k = j + 1 := ⟨k - 1, by omega⟩
      have := hgt j (by omega) (by omega)
      omega
  have loop : ∀ (d k : Nat), k + d = e → q + 1 ≤ k → wY_closing_4 post ob (nI n) pl nds sts res era usd sp lv ret out ycls prp lst siz dnd (tk) (tv) opd yrk rn op nm ay prt ylo yhi sN sP sX sK it vr (d + 1) (nI (ca_h T k - ca_h T q)) (nI k) := by
    intro d
    induction d with
    | zero => ?_
    | succ d ih => ?_
    all_goals
      intro k hk hik
      have hkn : k < n := by omega
      obtain ⟨kk, kt⟩ := hK k hkn
      have ck : tk (nI k).toNatClampNeg = nI (T k) := by rw [nI_clamp (by omega)]; exact kk
      have ik : vp_in (nI k) 40 := vp_in_nI (by omega) (by decide)
      have g1 := hle k hik (by omega)
      have ub := ca_hub hA (k + 1) (by omega)
      have n6 : T k ≠ 6 → ¬ tk (nI k).toNatClampNeg = 6 := fun t z => t ((nI_eq (b := 6) (by omega) (by decide)).1 (ck.symm.trans z))
      have n7 : T k ≠ 7 → ¬ tk (nI k).toNatClampNeg = 7 := fun t z => t ((nI_eq (b := 7) (by omega) (by decide)).1 (ck.symm.trans z))
      have route : ∀ J : Int32 → Int32 → Prop, ca_h T q ≤ ca_h T (k + 1) → wY_closing_40 post J (nI (ca_h T (k + 1) - ca_h T q)) (nI k) ob (nI n) pl nds sts res era usd sp lv ret out ycls prp lst siz dnd (tk) (tv) opd yrk rn op nm ay prt ylo yhi sN sP sX sK it vr → ((tk (nI k).toNatClampNeg = 6 → ∀ y, y = nI (ca_h T k - ca_h T q) + 1 → wY_closing_26 post J y (nI k) ob (nI n) pl nds sts res era usd sp lv ret out ycls prp lst siz dnd (tk) (tv) opd yrk rn op nm ay prt ylo yhi sN sP sX sK it vr) ∧ (¬ tk (nI k).toNatClampNeg = 6 → wY_closing_26 post J (nI (ca_h T k - ca_h T q)) (nI k) ob (nI n) pl nds sts res era usd sp lv ret out ycls prp lst siz dnd (tk) (tv) opd yrk rn op nm ay prt ylo yhi sN sP sX sK it vr)) := by
        intro J g2 H
        obtain ⟨s1, s2, s3⟩ := stepd (fun x => wY_closing_40 post J x (nI k) ob (nI n) pl nds sts res era usd sp lv ret out ycls prp lst siz dnd (tk) (tv) opd yrk rn op nm ay prt ylo yhi sN sP sX sK it vr) k hkn g1 g2 H
        by_cases t6 : T k = 6
        · exact br_t (by rw [ck, t6]; rfl) (nm_e ⟨ik, br_f (n7 (by omega)) (s1 t6)⟩)
        · refine br_f (n6 t6) ⟨ik, ?_⟩
          by_cases t7 : T k = 7
          · exact br_t (by rw [ck, t7]; rfl) (nm_e (s2 t7))
          · exact br_f (n7 t7) (s3 t6 t7)
    · have ke : k = e := by omega
      subst ke
      refine br_f (nI_ge hkn (by omega)) ⟨ik, route _ (by omega) (br_t ?_ hp)⟩
      rw [hend, Nat.sub_self]; rfl
    · have g3 := hgt k hik (by omega)
      exact br_f (nI_ge hkn (by omega)) ⟨ik, route _ (by omega) (br_f (nI_ne0 (by omega) (by omega)) (nm_r (nI_1 k) (ih (k + 1) (by omega) (by omega))))⟩
  have L := loop (e - (q + 1)) (q + 1) (by omega) (Nat.le_refl _)
  rw [hq1, Nat.sub_self] at L
  exact ⟨_, L⟩
theorem cy_cut (hn : n ≤ 40) (hK : ∀ i, i < n → tk i = nI (T i) ∧ T i < 23) (hA : ca_S T n = some (1, [])) {l u : Nat} (hV : ca_V T n l u) : ∃ c, ca_cut T l u c ∧ ∀ post : Int32 → Prop, post (nI c) → wpY_cut post (ob, nI n, pl, nds, sts, res, era, usd, sp, lv, ret, out, ycls, prp, lst, siz, dnd, tk, tv, opd, yrk, rn, op, nm, ay, prt, ylo, yhi, sN, sP, sX, sK, it, vr) (nI l) (nI u) := by
  obtain ⟨v1, v2, v3, v4, v5, v6⟩ := id hV
  have stepd : ∀ (P : Int32 → Prop) (k : Nat), k < n → ca_h T l ≤ ca_h T k → ca_h T l ≤ ca_h T (k + 1) → P (nI (ca_h T (k + 1) - ca_h T l)) → ((T k = 6 → P (nI (ca_h T k - ca_h T l) + 1)) ∧ (T k = 7 → P (nI (ca_h T k - ca_h T l) + (-1))) ∧ (T k ≠ 6 → T k ≠ 7 → P (nI (ca_h T k - ca_h T l)))) := by
    intro P k hk g1 g2 H
    have hst := ca_hs hA hk
    refine ⟨fun t6 => ?_, fun t7 => ?_, fun t6 t7 => ?_⟩
    · rw [if_neg (by omega), if_pos t6] at hst
      rw [nI_1, show ca_h T k - ca_h T l + 1 = ca_h T (k + 1) - ca_h T l by omega]; exact H
    · rw [if_pos t7, if_neg (by omega)] at hst
      obtain ⟨c, hc⟩ : ∃ c, ca_h T k - ca_h T l = c + 1 := ⟨ca_h T k - ca_h T l - 1, by omega⟩
      rw [hc, pk_m1, show c = ca_h T (k + 1) - ca_h T l by omega]; exact H
    · rw [if_neg t7, if_neg t6] at hst
      rw [show ca_h T k = ca_h T (k + 1) by omega]; exact H
  have loop : ∀ (d i b k : Nat), i + d = u → l ≤ i → k < 10 → b < u → (∀ j, l < j → j < i → T j = 8 → ca_h T j ≠ ca_h T l) → ((b = l ∧ k = 8 ∧ ∀ j, l < j → j < i → ¬ ca_op T l j) ∨ (l < b ∧ b < i ∧ ca_op T l b ∧ k = ca_wt (T b) ∧ ∀ j, l < j → j < i → ca_op T l j → k ≤ ca_wt (T j) ∧ (b < j → k < ca_wt (T j)))) → ∃ c, ca_cut T l u c ∧ ∀ post : Int32 → Prop, post (nI c) → wY_cut_12 post (nI l) (nI u) ob (nI n) pl nds sts res era usd sp lv ret out ycls prp lst siz dnd (tk) (tv) opd yrk rn op nm ay prt ylo yhi sN sP sX sK it vr (d + 1) (nI b) (nI k) (nI (ca_h T i - ca_h T l)) (nI i) := by
    intro d
    induction d with
    | zero =>
      intro i b k hi hli hk hb hno hinv
      have iu : i = u := by omega
      subst iu
      refine ⟨b, ?_, fun post hp => br_t (nI_le (Nat.le_refl _) (by omega)) hp⟩
      rcases hinv with ⟨e1, e2, e3⟩ | ⟨e1, e2, e3, e4, e5⟩
      · exact Or.inr (Or.inr ⟨e1, fun j a1 a2 a3 => ⟨fun z => hno j a1 a2 z a3, fun z y => e3 j a1 a2 ⟨a3, z, y⟩⟩⟩)
      · exact Or.inr (Or.inl ⟨hno, e1, e2, e3, fun j a1 a2 a3 => by rw [← e4]; exact e5 j a1 a2 a3⟩)
    | succ d ih =>
      intro i b k hi hli hk hb hno hinv
      have hin : i < n := by omega
      obtain ⟨kk, kt⟩ := hK i hin
      have ck : tk (nI i).toNatClampNeg = nI (T i) := by rw [nI_clamp (by omega)]; exact kk
      have g1 := ca_hge hA hV hli (by omega : i ≤ u)
      have g2 := ca_hge hA hV (by omega : l ≤ i + 1) (by omega : i + 1 ≤ u)
      have ub := ca_hub hA (i + 1) (by omega)
      have hst := ca_hs hA hin
      have e0 : ∀ x, T i ≠ x → x < 23 → ¬ nI (T i) = nI x := fun x z hx y => z ((nI_eq (by omega) (by omega)).1 y)
      have route : ∀ (post : Int32 → Prop) (J : Int32 → Int32 → Int32 → Int32 → Prop), wY_cut_47 post J (nI l) (nI u) (nI b) (nI k) (nI (ca_h T (i + 1) - ca_h T l)) (nI i) (nI (T i)) ob (nI n) pl nds sts res era usd sp lv ret out ycls prp lst siz dnd (tk) (tv) opd yrk rn op nm ay prt ylo yhi sN sP sX sK it vr → ((nI (T i) = 6 → ∀ y, y = nI (ca_h T i - ca_h T l) + 1 → wY_cut_37 post J (nI l) (nI u) (nI b) (nI k) y (nI i) (nI (T i)) ob (nI n) pl nds sts res era usd sp lv ret out ycls prp lst siz dnd (tk) (tv) opd yrk rn op nm ay prt ylo yhi sN sP sX sK it vr) ∧ (¬ nI (T i) = 6 → wY_cut_37 post J (nI l) (nI u) (nI b) (nI k) (nI (ca_h T i - ca_h T l)) (nI i) (nI (T i)) ob (nI n) pl nds sts res era usd sp lv ret out ycls prp lst siz dnd (tk) (tv) opd yrk rn op nm ay prt ylo yhi sN sP sX sK it vr)) := by
        intro post J H
        obtain ⟨s1, s2, s3⟩ := stepd (fun x => wY_cut_47 post J (nI l) (nI u) (nI b) (nI k) x (nI i) (nI (T i)) ob (nI n) pl nds sts res era usd sp lv ret out ycls prp lst siz dnd (tk) (tv) opd yrk rn op nm ay prt ylo yhi sN sP sX sK it vr) i hin g1 g2 H
        by_cases t6 : T i = 6
        · exact br_t (by rw [t6]; rfl) (nm_e (br_f (e0 7 (by omega) (by decide)) (s1 t6)))
        · refine br_f (e0 6 t6 (by decide)) ?_
          by_cases t7 : T i = 7
          · exact br_t (by rw [t7]; rfl) (nm_e (s2 t7))
          · exact br_f (e0 7 t7 (by decide)) (s3 t6 t7)
      have start : ∀ (post : Int32 → Prop), wY_cut_47 post (wY_cut_12 post (nI l) (nI u) ob (nI n) pl nds sts res era usd sp lv ret out ycls prp lst siz dnd (tk) (tv) opd yrk rn op nm ay prt ylo yhi sN sP sX sK it vr (d + 1)) (nI l) (nI u) (nI b) (nI k) (nI (ca_h T (i + 1) - ca_h T l)) (nI i) (nI (T i)) ob (nI n) pl nds sts res era usd sp lv ret out ycls prp lst siz dnd (tk) (tv) opd yrk rn op nm ay prt ylo yhi sN sP sX sK it vr → wY_cut_12 post (nI l) (nI u) ob (nI n) pl nds sts res era usd sp lv ret out ycls prp lst siz dnd (tk) (tv) opd yrk rn op nm ay prt ylo yhi sN sP sX sK it vr (d + 1 + 1) (nI b) (nI k) (nI (ca_h T i - ca_h T l)) (nI i) :=
        fun post H => br_f (nI_ge (by omega) (by omega)) ⟨vp_in_nI (by omega) (by decide), nm_r (e' := nI (T i)) ck (route post _ H)⟩
      -- the loop goes on with the same best
      have keep : (¬ (l < i ∧ T i = 8 ∧ ca_h T i = ca_h T l)) → (l < i → ca_op T l i → k < ca_wt (T i)) → ∃ c, ca_cut T l u c ∧ ∀ post : Int32 → Prop, post (nI c) → wY_cut_12 post (nI l) (nI u) ob (nI n) pl nds sts res era usd sp lv ret out ycls prp lst siz dnd (tk) (tv) opd yrk rn op nm ay prt ylo yhi sN sP sX sK it vr (d + 1) (nI b) (nI k) (nI (ca_h T (i + 1) - ca_h T l)) (nI (i + 1)) := by
        intro n8 nop
        refine ih (i + 1) b k (by omega) (by omega) hk hb (fun j a1 a2 a3 => ?_) ?_
        · by_cases z : j = i
          · subst z; exact fun y => n8 ⟨a1, a3, y⟩
          · exact hno j a1 (by omega) a3
        · rcases hinv with ⟨e1, e2, e3⟩ | ⟨e1, e2, e3, e4, e5⟩
          · refine Or.inl ⟨e1, e2, fun j a1 a2 a3 => ?_⟩
            by_cases z : j = i
            · subst z
              have q1 := nop a1 a3
              have q2 := ca_wt5.2 a3.2.2
              omega
            · exact e3 j a1 (by omega) a3
          · refine Or.inr ⟨e1, by omega, e3, e4, fun j a1 a2 a3 => ?_⟩
            by_cases z : j = i
            · subst z
              have q1 := nop a1 a3
              exact ⟨by omega, fun _ => q1⟩
            · exact e5 j a1 (by omega) a3
      by_cases dz : ca_h T (i + 1) = ca_h T l
      · have d0 : nI (ca_h T (i + 1) - ca_h T l) = 0 := by rw [dz, Nat.sub_self]; rfl
        have nd : ¬ 0 < nI (ca_h T (i + 1) - ca_h T l) := by rw [d0]; decide
        by_cases il : i = l
        · obtain ⟨c, hc, H⟩ := keep (by omega) (fun z _ => absurd z (by omega))
          exact ⟨c, hc, fun post hp => start post (br_f nd (br_t (by rw [il]) (nm_r (nI_1 i) (H post hp))))⟩
        · have il' : ¬ nI i = nI l := fun z => il ((nI_eq (by omega) (by omega)).1 z)
          by_cases t8 : T i = 8
          · rw [if_neg (by omega), if_neg (by omega)] at hst
            exact ⟨i, Or.inl ⟨by omega, by omega, t8, by omega, hno⟩, fun post hp => start post (br_f nd (br_f il' (br_t (by rw [t8]; rfl) hp)))⟩
          · obtain ⟨pk, pt⟩ := hK (i - 1) (by omega)
            obtain ⟨i', rfl⟩ : ∃ i', i = i' + 1 := ⟨i - 1, by omega⟩
            rw [Nat.add_sub_cancel] at pk pt
            have cp : tk (nI (i' + 1) - 1).toNatClampNeg = nI (T i') := by rw [nI_pred, nI_clamp (by omega)]; exact pk
            have ip : vp_in (nI (i' + 1) - 1) 40 := by rw [nI_pred]; exact vp_in_nI (by omega) (by decide)
            have en := ca_end hA (i := i' + 1) (by omega) (by omega)
            rw [Nat.add_sub_cancel] at en
            have w9 : ca_wt (T (i' + 1)) < 10 := by
              unfold ca_wt
              repeat' split
              all_goals omega
            -- the tests behind the weight
            have tests : ∀ (post : Int32 → Prop) (J : Int32 → Int32 → Int32 → Int32 → Prop), (ca_W T (i' + 1) = 1 → wY_cut_109 post J (nI l) (nI u) (nI b) (nI k) (nI (ca_h T (i' + 1 + 1) - ca_h T l)) (nI (i' + 1)) (nI (ca_wt (T (i' + 1)))) ob (nI n) pl nds sts res era usd sp lv ret out ycls prp lst siz dnd (tk) (tv) opd yrk rn op nm ay prt ylo yhi sN sP sX sK it vr) → (¬ ca_W T (i' + 1) = 1 → wY_cut_114 post J (nI l) (nI u) (nI b) (nI k) (nI (ca_h T (i' + 1 + 1) - ca_h T l)) (nI (i' + 1)) (nI (ca_wt (T (i' + 1)))) 0 ob (nI n) pl nds sts res era usd sp lv ret out ycls prp lst siz dnd (tk) (tv) opd yrk rn op nm ay prt ylo yhi sN sP sX sK it vr) → wY_cut_47 post J (nI l) (nI u) (nI b) (nI k) (nI (ca_h T (i' + 1 + 1) - ca_h T l)) (nI (i' + 1)) (nI (T (i' + 1))) ob (nI n) pl nds sts res era usd sp lv ret out ycls prp lst siz dnd (tk) (tv) opd yrk rn op nm ay prt ylo yhi sN sP sX sK it vr := by
              intro post J H1 H2
              refine br_f nd (br_f il' (br_f (e0 8 t8 (by decide)) ⟨ip, nm_r (e' := nI (T i')) cp (cy_wt kt ?_)⟩))
              have p0 : ∀ x, T i' ≠ x → x < 23 → ¬ nI (T i') = nI x := fun x z hx y => z ((nI_eq (by omega) (by omega)).1 y)
              by_cases p4 : T i' ≤ 4
              · exact br_t (nI_le (b := 4) p4 (by decide)) (H1 (en.2 (Or.inl p4)))
              · refine br_f (nI_ge (a := 4) (by omega) (by omega)) ?_
                by_cases p7 : T i' = 7
                · exact br_t (by rw [p7]; rfl) (H1 (en.2 (Or.inr (Or.inl p7))))
                · refine br_f (p0 7 p7 (by decide)) ?_
                  by_cases p19 : T i' = 19
                  · exact br_t (by rw [p19]; rfl) (H1 (en.2 (Or.inr (Or.inr p19))))
                  · exact br_f (p0 19 p19 (by decide)) (H2 (fun z => by have := en.1 z; omega))
            by_cases hop : ca_W T (i' + 1) = 1 ∧ ca_wt (T (i' + 1)) ≤ k
            · -- a new best
              have ow := ca_wt5.1 (show ca_wt (T (i' + 1)) ≤ 8 by
                rcases hinv with ⟨_, e2, _⟩ | ⟨_, _, e3, e4, _⟩
                · omega
                · have := ca_wt5.2 e3.2.2; omega)
              have hh : ca_h T (i' + 1) = ca_h T l := by
                rw [if_neg (by omega), if_neg (by omega)] at hst
                omega
              obtain ⟨c, hc, H⟩ := ih (i' + 1 + 1) (i' + 1) (ca_wt (T (i' + 1))) (by omega) (by omega) w9 (by omega) (fun j a1 a2 a3 => by
                by_cases z : j = i' + 1
                · rw [z] at a3; omega
                · exact hno j a1 (by omega) a3) (Or.inr ⟨by omega, by omega, ⟨hh, hop.1, ow⟩, rfl, fun j a1 a2 a3 => by
                by_cases z : j = i' + 1
                · rw [z]; exact ⟨Nat.le_refl _, fun y => by omega⟩
                · rcases hinv with ⟨_, _, e3⟩ | ⟨_, _, _, _, e5⟩
                  · exact absurd a3 (e3 j a1 (by omega))
                  · have := (e5 j a1 (by omega) a3).1
                    exact ⟨by omega, fun y => by omega⟩⟩)
              refine ⟨c, hc, fun post hp => start post (tests post _ (fun _ => br_f (by decide) (br_f (nI_nlt hop.2 (by omega)) (nm_r (nI_1 _) (H post hp)))) (fun z => absurd hop.1 z))⟩
            · obtain ⟨c, hc, H⟩ := keep (fun z => t8 z.2.1) (fun _ y => Nat.lt_of_not_le (fun x => hop ⟨y.2.1, x⟩))
              refine ⟨c, hc, fun post hp => start post (tests post _ (fun z => br_f (by decide) (br_t (nI_lt (Nat.lt_of_not_le (fun x => hop ⟨z, x⟩)) (by omega)) (nm_r (nI_1 _) (H post hp)))) (fun _ => br_t rfl (nm_r (nI_1 _) (H post hp))))⟩
      · obtain ⟨c, hc, H⟩ := keep (fun z => by
          have : T i = 8 := z.2.1
          rw [if_neg (by omega), if_neg (by omega)] at hst
          omega) (fun _ z => by
          have q1 := z.2.2
          have q2 := z.1
          rw [if_neg (by omega), if_neg (by omega)] at hst
          omega)
        exact ⟨c, hc, fun post hp => start post (br_t (by rw [show (0 : Int32) = nI 0 from rfl]; exact nI_lt (by omega) (by omega)) (nm_r (nI_1 i) (H post hp)))⟩
  obtain ⟨c, hc, H⟩ := loop (u - l) l l 8 (by omega) (Nat.le_refl _) (by decide) v1 (fun j a b => absurd a (by omega)) (Or.inl ⟨rfl, rfl, fun j a b => absurd a (by omega)⟩)
  refine ⟨c, hc, fun post hp => ⟨u - l + 1, ?_⟩⟩
  have := H post hp
  rw [Nat.sub_self] at this
  exact this
end
end
section
section
variable {T : Nat → Nat} {n : Nat}
theorem ca_hge2 (hA : ca_S T n = some (1, [])) {l i : Nat} (hw : ca_W T l = 0) (hi : i ≤ n) (hli : l ≤ i) (hsuf : ∀ j, l ≤ j → j ≤ i → ∃ E, ca_Z T j = E ++ ca_Z T l) : ca_h T l ≤ ca_h T i := by
  obtain ⟨E, hE⟩ := hsuf i hli (Nat.le_refl _)
  obtain ⟨x, y⟩ := ca_hE hA hw hi hli hsuf hE
  by_cases z : ca_W T i = 2
  · have := y z
    rw [if_pos z] at x; omega
  · rw [if_neg z] at x; omega
theorem ca_head (hA : ca_S T n = some (1, [])) {q : Nat} (hq : q < n) (ht : T q = 5 ∨ 20 ≤ T q) : ca_W T q = 0 ∧ ca_Z T (q + 1) = (q, q) :: ca_Z T q ∧ q + 1 < n ∧ T (q + 1) = 6 ∧ ca_W T (q + 2) = 0 ∧ ca_Z T (q + 2) = (q, q) :: ca_Z T q := by
  have hs : ca_W T q = 0 ∧ ca_W T (q + 1) = 2 ∧ ca_Z T (q + 1) = (q, q) :: ca_Z T q := by
    rcases ca_rule hA hq with ⟨_, t, _⟩ | ⟨_, t, _⟩ | ⟨_, t, _⟩ | ⟨_, t, _⟩ | ⟨w, _, w', z⟩ | ⟨_, t, _⟩ | ⟨_, t, _⟩ | ⟨_, t, _⟩ | ⟨_, t, _⟩ | ⟨_, t, _⟩ | ⟨_, t, _⟩
    all_goals first | exact ⟨w, w', z⟩ | omega
  have hn1 : q + 1 < n := by
    have h1 : q + 1 ≠ n := by
      intro y
      have h2 := ca_Wn hA
      rw [← y] at h2; omega
    omega
  rcases ca_rule hA hn1 with ⟨_, t, w', z⟩ | ⟨w, _⟩ | ⟨w, _⟩ | ⟨w, _⟩ | ⟨w, _⟩ | ⟨w, _⟩ | ⟨w, _⟩ | ⟨w, _⟩ | ⟨w, _⟩ | ⟨w, _⟩ | ⟨w, _⟩
  all_goals first | exact ⟨hs.1, hs.2.2, hn1, t, w', z.trans hs.2.2⟩ | omega
/-- a quantifier: its colon and its end -/
theorem ca_qst (hA : ca_S T n = some (1, [])) {q : Nat} (hq : q < n) (ht : 20 ≤ T q) : ∃ m e, q + 2 < m ∧ m + 1 < e ∧ e < n ∧ T m = 9 ∧ ca_Z T m = (q, q) :: ca_Z T q ∧ ca_W T m = 1 ∧ (∀ i, q + 1 ≤ i → i ≤ m → ∃ E, ca_Z T i = E ++ (q, q) :: ca_Z T q) ∧ ca_Z T (m + 1) = (m, q) :: ca_Z T q ∧ ca_W T (m + 1) = 0 ∧ (∀ i, m + 1 ≤ i → i ≤ e → ∃ E, ca_Z T i = E ++ (m, q) :: ca_Z T q) ∧ ca_Z T e = (m, q) :: ca_Z T q ∧ ca_W T e = 1 ∧ T e = 7 ∧ ca_Z T (e + 1) = ca_Z T q ∧ ca_W T (e + 1) = 1 ∧ (∀ j, q + 2 ≤ j → j ≤ e → ca_h T q < ca_h T j) ∧ ca_h T (q + 1) = ca_h T q ∧ ca_h T (e + 1) = ca_h T q := by
  obtain ⟨h1, h2, h3, h4, h5, h6⟩ := ca_head hA hq (Or.inr ht)
  have nil : ∀ (x : Nat × Nat) (R : List (Nat × Nat)), ¬ ∃ E, ca_Z T n = E ++ x :: R := by
    intro x R ⟨E, hE⟩
    rw [ca_Zn hA] at hE
    cases E <;> cases hE
  obtain ⟨m, m1, m2, m3, m4, m5, m6⟩ := ca_life hA (a := q + 1) (H := n) (Nat.le_refl _) h2 (nil _ _) (by omega)
  have m7 : T m = 9 ∧ ca_Z T (m + 1) = (m, q) :: ca_Z T q ∧ ca_W T (m + 1) = 0 := by
    rcases m6 with ⟨a, b, c', d⟩ | ⟨a, b, c', d⟩ | ⟨a, b, c', d⟩
    · exact absurd b (by show ¬ T q = 8; omega)
    · exact ⟨a, c', d⟩
    · exact absurd b (by show ¬ (T q = 9 ∨ T q = 6 ∨ T q = 5); omega)
  obtain ⟨e, e1, e2, e3, e4, e5, e6⟩ := ca_life hA (a := m + 1) (H := n) (Nat.le_refl _) m7.2.1 (nil _ _) (by omega)
  have e7 : T e = 7 ∧ ca_Z T (e + 1) = ca_Z T q ∧ ca_W T (e + 1) = 1 := by
    rcases e6 with ⟨a, b, c', d⟩ | ⟨a, b, c', d⟩ | ⟨a, b, c', d⟩
    · exact absurd b (by show ¬ T m = 8; omega)
    · exact absurd b (by show ¬ 20 ≤ T m; omega)
    · exact ⟨a, c', d⟩
  have w1 : ca_W T (q + 1) = 2 := by
    rcases ca_rule hA hq with ⟨_, t, _⟩ | ⟨_, t, _⟩ | ⟨_, t, _⟩ | ⟨_, t, _⟩ | ⟨w, _, w', z⟩ | ⟨_, t, _⟩ | ⟨_, t, _⟩ | ⟨_, t, _⟩ | ⟨_, t, _⟩ | ⟨_, t, _⟩ | ⟨_, t, _⟩
    all_goals first | exact w' | omega
  have mq1 : m ≠ q + 1 := by intro y; rw [y] at m5; omega
  have mq2 : m ≠ q + 2 := by intro y; rw [y] at m5; omega
  have em : e ≠ m + 1 := by intro y; rw [y] at e5; omega
  have hA1 := ca_hs hA hq
  rw [if_neg (by omega), if_neg (by omega)] at hA1
  have hA2 := ca_hs hA (i := q + 1) (by omega)
  rw [h4, if_neg (by decide), if_pos rfl] at hA2
  have hA3 := ca_hs hA (i := m) (by omega)
  rw [m7.1, if_neg (by decide), if_neg (by decide)] at hA3
  have hA4 : ca_h T m = ca_h T (q + 2) := by unfold ca_h; rw [m3, h6, m5, h5]; rfl
  have hA5 : ca_h T (e + 1) = ca_h T q := by unfold ca_h; rw [e7.2.1, e7.2.2, h1]; rfl
  refine ⟨m, e, by omega, by omega, e2, m7.1, m3, m5, m4, m7.2.1, m7.2.2, e4, e3, e5, e7.1, e7.2.1, e7.2.2, fun j j1 j2 => ?_, by omega, hA5⟩
  by_cases jm : j ≤ m
  · have := ca_hge2 hA (l := q + 2) (i := j) h5 (by omega) j1 (fun x a b => by rw [h6]; exact m4 x (by omega) (by omega))
    have e22 : ca_h T (q + 2) = ca_h T (q + 1 + 1) := rfl
    omega
  · have := ca_hge2 hA (l := m + 1) (i := j) m7.2.2 (by omega) (by omega) (fun x a b => by rw [m7.2.1]; exact e4 x (by omega) (by omega))
    have e22 : ca_h T (q + 2) = ca_h T (q + 1 + 1) := rfl
    omega
/-- bound by a quantifier of the stack -/
def ca_B (T : Nat → Nat) (tv : Nat → Int32) (s : List (Nat × Nat)) (x : Int32) : Prop := ∃ e, e ∈ s ∧ T e.1 = 9 ∧ tv e.2 = x
theorem ca_mem {e : Nat × Nat} : ∀ {s : List (Nat × Nat)}, e ∈ s → ∃ E R, s = E ++ e :: R
  | [], h => nomatch h
  | x :: r, h => by
    rcases List.mem_cons.mp h with z | z
    · rw [z]; exact ⟨[], r, rfl⟩
    · obtain ⟨E, R, y⟩ := ca_mem z
      exact ⟨x :: E, R, by rw [y]; rfl⟩
/-- an entry that binds lies between its colon and its end -/
theorem ca_bent (hA : ca_S T n = some (1, [])) {i : Nat} (hi : i < n) {y : Nat × Nat} (hy : y ∈ ca_Z T i) (ht : T y.1 = 9) {m e : Nat} (hm : ca_Z T m = (y.2, y.2) :: ca_Z T y.2) (hms : ∀ i, y.2 + 1 ≤ i → i ≤ m → ∃ E, ca_Z T i = E ++ (y.2, y.2) :: ca_Z T y.2) (hm1 : ca_Z T (m + 1) = (m, y.2) :: ca_Z T y.2) (hqm : y.2 + 2 < m) (he1 : ca_Z T (e + 1) = ca_Z T y.2) (hme : m < e) : m = y.1 ∧ m < i ∧ i ≤ e ∧ 20 ≤ T y.2 := by
  obtain ⟨E, R, hE⟩ := ca_mem hy
  obtain ⟨a1, a2, a3, a4, a5⟩ := ca_ent hA (by omega) E y R hE
  obtain ⟨b1, b2, b3⟩ := a5 ht
  obtain ⟨c1, c2, c3, c4, c5⟩ := ca_ent hA (i := y.1) (by omega) [] (y.2, y.2) R b2
  have hR : ca_Z T y.2 = R := (c4 (by show T y.2 ≠ 9; omega)).2
  have my : m = y.1 := by
    have two : ∀ {a b : Nat × Nat} {E1 : List (Nat × Nat)}, a :: R = E1 ++ b :: R → a = b := by
      intro a b E1 z
      have h7 := congrArg List.length z
      rw [List.length_append, List.length_cons, List.length_cons] at h7
      have h6 : E1 = [] := List.length_eq_zero_iff.mp (by omega)
      rw [h6, List.nil_append] at z
      exact (List.cons.inj z).1
    rcases Nat.lt_trichotomy m y.1 with z | z | z
    · obtain ⟨E1, hE1⟩ := c3 (m + 1) (by show y.2 < m + 1; omega) (by omega)
      rw [hm1, hR] at hE1
      have := congrArg Prod.fst (two hE1)
      have h9 : m = y.2 := this
      omega
    · exact z
    · obtain ⟨E1, hE1⟩ := hms (y.1 + 1) (by omega) (by omega)
      rw [a2, hR] at hE1
      have := congrArg Prod.fst (two hE1)
      have h9 : y.1 = y.2 := this
      omega
  refine ⟨my, by omega, ?_, b1⟩
  by_cases z : i ≤ e
  · exact z
  · obtain ⟨E1, hE1⟩ := a3 (e + 1) (by omega) (by omega)
    rw [he1, hR] at hE1
    exact (ca_lenne hE1).elim
end
section
variable {ob pl nds sts res era usd sp lv ret out : Int32} {ycls prp lst siz dnd opd yrk rn op nm ay prt ylo yhi sN sP sX sK it vr tk tv : Nat → Int32} {n : Nat} {T : Nat → Nat}
theorem cy_bound (hn : n ≤ 40) (hK : ∀ i, i < n → tk i = nI (T i) ∧ T i < 23) (hA : ca_S T n = some (1, [])) {i : Nat} {x : Int32} (hi : i < n) (hti : T i ≠ 7) {post : Int32 → Prop} (h1 : ca_B T tv (ca_Z T i) x → post 1) (h0 : ¬ ca_B T tv (ca_Z T i) x → post 0) : wpY_bound post (ob, nI n, pl, nds, sts, res, era, usd, sp, lv, ret, out, ycls, prp, lst, siz, dnd, tk, tv, opd, yrk, rn, op, nm, ay, prt, ylo, yhi, sN, sP, sX, sK, it, vr) (nI i) x := by
  have loop : ∀ (d q : Nat), q + d = i → (∀ y, y ∈ ca_Z T i → T y.1 = 9 → tv y.2 = x → q ≤ y.2) → wY_bound_2 post (nI i) x ob (nI n) pl nds sts res era usd sp lv ret out ycls prp lst siz dnd (tk) (tv) opd yrk rn op nm ay prt ylo yhi sN sP sX sK it vr (d + 1) (nI q) := by
    intro d
    induction d with
    | zero =>
      intro q hq hinv
      have : q = i := by omega
      subst this
      refine br_t (nI_le (Nat.le_refl _) (by omega)) (h0 (fun ⟨y, y1, y2, y3⟩ => ?_))
      obtain ⟨E, R, hE⟩ := ca_mem y1
      obtain ⟨a1, a2, a3, a4, a5⟩ := ca_ent hA (by omega) E y R hE
      have := hinv y y1 y2 y3
      have := (a5 y2).2.2
      omega
    | succ d ih =>
      intro q hq hinv
      have hqn : q < n := by omega
      obtain ⟨kk, kt⟩ := hK q hqn
      have ck : tk (nI q).toNatClampNeg = nI (T q) := by rw [nI_clamp (by omega)]; exact kk
      have cv : tv (nI q).toNatClampNeg = tv q := by rw [nI_clamp (by omega)]
      have iq : vp_in (nI q) 40 := vp_in_nI (by omega) (by decide)
      have nxt : (∀ y, y ∈ ca_Z T i → T y.1 = 9 → tv y.2 = x → y.2 ≠ q) → wY_bound_2 post (nI i) x ob (nI n) pl nds sts res era usd sp lv ret out ycls prp lst siz dnd (tk) (tv) opd yrk rn op nm ay prt ylo yhi sN sP sX sK it vr (d + 1) (nI (q + 1)) := by
        intro hne
        refine ih (q + 1) (by omega) (fun y y1 y2 y3 => ?_)
        have := hinv y y1 y2 y3
        have := hne y y1 y2 y3
        omega
      refine br_f (nI_ge (by omega) (by omega)) ⟨iq, ?_⟩
      by_cases t20 : T q < 20
      · refine br_t (by rw [ck]; exact nI_lt (b := 20) t20 (by decide)) (nm_r (nI_1 q) (nxt (fun y y1 y2 y3 z => ?_)))
        obtain ⟨E, R, hE⟩ := ca_mem y1
        have := ((ca_ent hA (by omega) E y R hE).2.2.2.2 y2).1
        rw [z] at this; omega
      · refine br_f (by rw [ck]; exact nI_nlt (b := 20) (by omega) (by omega)) ⟨iq, ?_⟩
        by_cases hv : tv q = x
        · obtain ⟨m, e, q1, q2, q3, q4, q5, q6, q7, q8, q9, q10, q11, q12, q13, q14, q15, q16, q17, q18⟩ := ca_qst hA hqn (by omega)
          obtain ⟨p1, p2, p3, p4, p5, p6⟩ := ca_head hA hqn (Or.inr (by omega))
          refine br_t (cv.trans hv) ?_
          rw [show nI q + 2 = nI (q + 2) from nI_add q 2, nI_1 q]
          refine cy_colon hn hK hA p5 p6 (fun i a b => q7 i (by omega) b) (by omega) (by omega) q5 q6 q4 ?_
          refine cy_closing hn hK hA (q := q) (e := e) (by omega) q3 (fun k a b => q16 (k + 1) (by omega) (by omega)) q17 q18 ?_
          have hit : ∀ y, y ∈ ca_Z T i → T y.1 = 9 → tv y.2 = x → y.2 = q → m < i ∧ i < e := by
            intro y y1 y2 y3 z
            subst z
            obtain ⟨b1, b2, b3, b4⟩ := ca_bent hA hi y1 y2 q5 (fun i a b => q7 i a b) q8 q1 q14 (by omega)
            refine ⟨b2, ?_⟩
            have : i ≠ e := by intro z; rw [z] at hti; exact hti q13
            omega
          by_cases m1 : i ≤ m
          · exact br_t (nI_le m1 (by omega)) (nm_e (nxt (fun y y1 y2 y3 z => by have := hit y y1 y2 y3 z; omega)))
          · refine br_f (nI_ge (by omega) (by omega)) ?_
            by_cases e1 : e ≤ i
            · exact br_t (nI_le e1 (by omega)) (nm_e (nxt (fun y y1 y2 y3 z => by have := hit y y1 y2 y3 z; omega)))
            · refine br_f (nI_ge (by omega) (by omega)) (h1 ?_)
              obtain ⟨E, hE⟩ := q10 i (by omega) (by omega)
              exact ⟨(m, q), by rw [hE]; exact List.mem_append.mpr (Or.inr (List.mem_cons_self ..)), q4, hv⟩
        · exact br_f (fun z => hv (cv.symm.trans z)) (nm_r (nI_1 q) (nxt (fun y y1 y2 y3 z => hv (by rw [← z]; exact y3))))
  exact ⟨_, loop i 0 (by omega) (fun _ _ _ _ => Nat.zero_le _)⟩
end
end
section
theorem cb_tst : ∀ M : Fin 8, ∀ v : Fin 3, ((nI M.val &&& ((1 : Int32) <<< (nI v.val &&& 31))) = 0 ↔ M.val.testBit v.val = false) := by decide +kernel
theorem cb_or : ∀ M : Fin 8, ∀ v : Fin 3, nI M.val ||| ((1 : Int32) <<< (nI v.val &&& 31)) = nI (M.val ||| 2 ^ v.val) := by decide +kernel
theorem cb_orb : ∀ M : Fin 8, ∀ v : Fin 3, (M.val ||| 2 ^ v.val) < 8 ∧ ∀ u : Fin 3, ((M.val ||| 2 ^ v.val).testBit u.val = true ↔ (u = v ∨ M.val.testBit u.val = true)) := by decide +kernel
theorem cb_an : ∀ M : Fin 8, ∀ v : Fin 3, nI M.val &&& (((1 : Int32) <<< (nI v.val &&& 31)) ^^^ (-1)) = nI (M.val &&& (7 - 2 ^ v.val)) := by decide +kernel
theorem cb_anb : ∀ M : Fin 8, ∀ v : Fin 3, (M.val &&& (7 - 2 ^ v.val)) < 8 ∧ ∀ u : Fin 3, ((M.val &&& (7 - 2 ^ v.val)).testBit u.val = true ↔ (u ≠ v ∧ M.val.testBit u.val = true)) := by decide +kernel
section
variable {oc cp lc sc kc dp vc er ep uu : Int32} {cls num lnk lsz lit fb rk rl ro ra rt rp oo co sk kd fr fn fi vs ll li lt : Nat → Int32} {ob pl nds sts res era usd sp lv ret out : Int32} {ycls prp lst siz dnd opd yrk rn op nm ay prt ylo yhi sN sP sX sK it vr tk tv : Nat → Int32} {n : Nat} {T : Nat → Nat}
/-- the bindings of the first i tokens are in order -/
def ca_D (T : Nat → Nat) (tv : Nat → Int32) (i : Nat) : Prop := ∀ j, j < i → (T j = 4 → ca_B T tv (ca_Z T j) (tv j)) ∧ (20 ≤ T j → ¬ ca_B T tv (ca_Z T j) (tv j))
theorem ca_B_cons {e : Nat × Nat} {r : List (Nat × Nat)} {x : Int32} : ca_B T tv (e :: r) x ↔ (T e.1 = 9 ∧ tv e.2 = x) ∨ ca_B T tv r x := by
  constructor
  · rintro ⟨y, y1, y2, y3⟩
    rcases List.mem_cons.mp y1 with z | z
    · rw [z] at y2 y3; exact Or.inl ⟨y2, y3⟩
    · exact Or.inr ⟨y, z, y2, y3⟩
  · rintro (⟨a, b⟩ | ⟨y, y1, y2, y3⟩)
    · exact ⟨e, List.mem_cons_self .., a, b⟩
    · exact ⟨y, List.mem_cons_of_mem _ y1, y2, y3⟩
def cb_M (T : Nat → Nat) (tv : Nat → Int32) (s : List (Nat × Nat)) (M : Nat) : Prop := M < 8 ∧ ∀ v, v < 3 → (M.testBit v = true ↔ ca_B T tv s (nI v))
theorem cb_same {s s' : List (Nat × Nat)} {M : Nat} (h : cb_M T tv s M) (hs : ∀ x, ca_B T tv s' x ↔ ca_B T tv s x) : cb_M T tv s' M := ⟨h.1, fun v hv => (h.2 v hv).trans (hs _).symm⟩
theorem cb_after (hn : n ≤ 40) (hK : ∀ i, i < n → tk i = nI (T i) ∧ T i < 23) (hA : ca_S T n = some (1, [])) (hTv : ∀ i, i < n → T i = 4 ∨ 20 ≤ T i → ∃ v, v < 3 ∧ tv i = nI v) (hoo : ∀ j, j < n → T j = 7 ∨ T j = 9 → oo j = nI (ca_o T j)) {i M : Nat} (hi : i < n) (hM : cb_M T tv (ca_Z T i) M) (hD : ca_D T tv i) : ∃ M', cb_M T tv (ca_Z T (i + 1)) M' ∧ ∀ post : Int32 → Prop, post (nI M') → wpX_boundAfter post (oc, nI n, cp, lc, sc, kc, dp, vc, er, ep, uu, cls, num, lnk, lsz, lit, fb, tk, tv, rk, rl, ro, ra, rt, rp, oo, co, sk, kd, fr, fn, fi, vs, ll, li, lt) (nI i) (nI M) := by
  obtain ⟨kk, kt⟩ := hK i hi
  have ci : (nI i).toNatClampNeg = i := nI_clamp (by omega)
  have ck : tk (nI i).toNatClampNeg = nI (T i) := by rw [ci]; exact kk
  have ii : vp_in (nI i) 40 := vp_in_nI (by omega) (by decide)
  have e0 : ∀ x, T i ≠ x → x < 23 → ¬ tk (nI i).toNatClampNeg = nI x := fun x z hx y => z ((nI_eq (by omega) (by omega)).1 (ck.symm.trans y))
  have skip : T i ≠ 9 → T i ≠ 7 → (∀ x, ca_B T tv (ca_Z T (i + 1)) x ↔ ca_B T tv (ca_Z T i) x) → ∃ M', cb_M T tv (ca_Z T (i + 1)) M' ∧ ∀ post : Int32 → Prop, post (nI M') → wpX_boundAfter post (oc, nI n, cp, lc, sc, kc, dp, vc, er, ep, uu, cls, num, lnk, lsz, lit, fb, tk, tv, rk, rl, ro, ra, rt, rp, oo, co, sk, kd, fr, fn, fi, vs, ll, li, lt) (nI i) (nI M) :=
    fun t9 t7 hs => ⟨M, cb_same hM hs, fun post hp => ⟨ii, br_f (e0 9 t9 (by decide)) ⟨ii, br_f (e0 7 t7 (by decide)) hp⟩⟩⟩
  have opn : ∀ e r, ca_Z T i = e :: r → ca_o T i = e.2 := by
    intro e r z
    unfold ca_o
    rw [ca_some hA (by omega : i ≤ n), z]
  -- the opener o: either no quantifier, or one
  have to24 : (T i = 7 ∨ T i = 9) → ∀ post : Int32 → Prop, wX_boundAfter_24 post (nI i) (nI M) oc (nI n) cp lc sc kc dp vc er ep uu cls num lnk lsz lit fb tk tv rk rl ro ra rt rp oo co sk kd fr fn fi vs ll li lt → wpX_boundAfter post (oc, nI n, cp, lc, sc, kc, dp, vc, er, ep, uu, cls, num, lnk, lsz, lit, fb, tk, tv, rk, rl, ro, ra, rt, rp, oo, co, sk, kd, fr, fn, fi, vs, ll, li, lt) (nI i) (nI M) := by
    intro t post H
    by_cases t9 : T i = 9
    · exact ⟨ii, br_t (by rw [ck, t9]; rfl) H⟩
    · exact ⟨ii, br_f (e0 9 t9 (by decide)) ⟨ii, br_t (by rw [ck, t.resolve_right t9]; rfl) H⟩⟩
  have noq : ∀ o, (T i = 7 ∨ T i = 9) → ca_o T i = o → o < n → T o < 20 → ∀ post : Int32 → Prop, post (nI M) → wpX_boundAfter post (oc, nI n, cp, lc, sc, kc, dp, vc, er, ep, uu, cls, num, lnk, lsz, lit, fb, tk, tv, rk, rl, ro, ra, rt, rp, oo, co, sk, kd, fr, fn, fi, vs, ll, li, lt) (nI i) (nI M) := by
    intro o t eo ho to post hp
    refine to24 t post ⟨ii, nm_r (e' := nI o) (by rw [ci, hoo i hi t, eo]) ⟨vp_in_nI (by omega) (by decide), br_t (by rw [nI_clamp (by omega), (hK o ho).1]; exact nI_lt (b := 20) to (by decide)) (br_t rfl hp)⟩⟩
  have isq : ∀ o v, (T i = 7 ∨ T i = 9) → ca_o T i = o → o < n → 20 ≤ T o → v < 3 → tv o = nI v → ∀ post : Int32 → Prop, (T i = 9 → post (nI M ||| ((1 : Int32) <<< (nI v &&& 31)))) → (T i = 7 → post (nI M &&& (((1 : Int32) <<< (nI v &&& 31)) ^^^ (-1)))) → wpX_boundAfter post (oc, nI n, cp, lc, sc, kc, dp, vc, er, ep, uu, cls, num, lnk, lsz, lit, fb, tk, tv, rk, rl, ro, ra, rt, rp, oo, co, sk, kd, fr, fn, fi, vs, ll, li, lt) (nI i) (nI M) := by
    intro o v t eo ho to hv ev post h9 h7
    have co : (nI o).toNatClampNeg = o := nI_clamp (by omega)
    refine to24 t post ⟨ii, nm_r (e' := nI o) (by rw [ci, hoo i hi t, eo]) ⟨vp_in_nI (by omega) (by decide), br_f (by rw [co, (hK o ho).1]; exact nI_nlt (b := 20) to (by have := (hK o ho).2; omega)) (br_f (by decide) ⟨vp_in_nI (by omega) (by decide), nm_r (e' := (1 : Int32) <<< (nI v &&& 31)) (by rw [co, ev]) ⟨ii, ?_⟩⟩)⟩⟩
    by_cases t9 : T i = 9
    · exact br_t (by rw [ck, t9]; rfl) (h9 t9)
    · exact br_f (e0 9 t9 (by decide)) (h7 (t.resolve_right t9))
  have samecons : ∀ (x : Nat × Nat), T x.1 ≠ 9 → ca_Z T (i + 1) = x :: ca_Z T i → ∀ y, ca_B T tv (ca_Z T (i + 1)) y ↔ ca_B T tv (ca_Z T i) y := by
    intro x tx z y
    rw [z, ca_B_cons]
    exact ⟨fun h => h.resolve_left (fun g => tx g.1), Or.inr⟩
  rcases ca_rule hA hi with ⟨w, t, w', z⟩ | ⟨w, t, w', z⟩ | ⟨w, t, w', z⟩ | ⟨w, t, w', z⟩ | ⟨w, t, w', z⟩ | ⟨w, t, w', z⟩ | ⟨w, t, w', z⟩ | ⟨w, t, w', e, r, z1, t1, z⟩ | ⟨w, t, w', e, r, z1, t1, z⟩ | ⟨w, t, w', e, r, z1, t1, z⟩ | ⟨w, t, w', z⟩
  · exact skip (by omega) (by omega) (fun x => by rw [z])
  · exact skip (by omega) (by omega) (fun x => by rw [z])
  · exact skip (by omega) (by omega) (fun x => by rw [z])
  · exact skip (by omega) (by omega) (samecons _ (by show T i ≠ 9; omega) z)
  · exact skip (by omega) (by omega) (samecons _ (by show T i ≠ 9; omega) z)
  · exact skip (by omega) (by omega) (fun x => by rw [z])
  · exact skip (by omega) (by omega) (samecons _ (by show T i ≠ 9; omega) z)
  · obtain ⟨a1, a2, a3, a4, a5⟩ := ca_ent hA (i := i) (by omega) [] e r z1
    have a6 := (a4 (by omega)).1
    refine ⟨M, cb_same hM (fun x => ?_), noq e.2 (Or.inr t) (opn e r z1) (by omega) (by rw [a6]; omega)⟩
    rw [z, z1, ca_B_cons]
    exact ⟨Or.inr, fun h => h.resolve_left (fun g => absurd g.1 (by omega))⟩
  · obtain ⟨a1, a2, a3, a4, a5⟩ := ca_ent hA (i := i) (by omega) [] e r z1
    have a6 := (a4 (by omega)).1
    obtain ⟨v, hv, ev⟩ := hTv e.2 (by omega) (Or.inr (by rw [a6]; exact t1))
    refine ⟨M ||| 2 ^ v, ⟨(cb_orb ⟨M, hM.1⟩ ⟨v, hv⟩).1, fun u hu => ?_⟩, fun post hp => isq e.2 v (Or.inr t) (opn e r z1) (by omega) (by rw [a6]; exact t1) hv ev post (fun _ => ?_) (fun y => absurd y (by omega))⟩
    · rw [(cb_orb ⟨M, hM.1⟩ ⟨v, hv⟩).2 ⟨u, hu⟩, z, ca_B_cons]
      have h3 := hM.2 u hu
      rw [z1, ca_B_cons] at h3
      constructor
      · rintro (y | y)
        · have : u = v := congrArg Fin.val y
          rw [this]; exact Or.inl ⟨t, ev⟩
        · exact Or.inr ((h3.1 y).resolve_left (fun g => absurd g.1 (by omega)))
      · rintro (y | y)
        · exact Or.inl (Fin.ext ((nI_eq (by omega) (by omega)).1 (y.2.symm.trans ev)))
        · exact Or.inr (h3.2 (Or.inr y))
    · rw [cb_or ⟨M, hM.1⟩ ⟨v, hv⟩]; exact hp
  · obtain ⟨a1, a2, a3, a4, a5⟩ := ca_ent hA (i := i) (by omega) [] e r z1
    by_cases t9 : T e.1 = 9
    · obtain ⟨b1, b2, b3⟩ := a5 t9
      obtain ⟨v, hv, ev⟩ := hTv e.2 (by omega) (Or.inr b1)
      have hR : ca_Z T e.2 = r := ((ca_ent hA (i := e.1) (by omega) [] (e.2, e.2) r b2).2.2.2.1 (by show T e.2 ≠ 9; omega)).2
      have hnd : ¬ ca_B T tv r (nI v) := by
        have := (hD e.2 (by omega)).2 b1
        rw [hR, ev] at this; exact this
      refine ⟨M &&& (7 - 2 ^ v), ⟨(cb_anb ⟨M, hM.1⟩ ⟨v, hv⟩).1, fun u hu => ?_⟩, fun post hp => isq e.2 v (Or.inl t) (opn e r z1) (by omega) b1 hv ev post (fun y => absurd y (by omega)) (fun _ => ?_)⟩
      · rw [(cb_anb ⟨M, hM.1⟩ ⟨v, hv⟩).2 ⟨u, hu⟩, z]
        have h3 := hM.2 u hu
        rw [z1, ca_B_cons] at h3
        constructor
        · rintro ⟨y1, y2⟩
          refine (h3.1 y2).resolve_left (fun g => y1 (Fin.ext ?_))
          exact (nI_eq (by omega) (by omega)).1 (g.2.symm.trans ev)
        · intro y
          refine ⟨fun g => hnd ?_, h3.2 (Or.inr y)⟩
          have : u = v := congrArg Fin.val g
          rw [← this]; exact y
      · rw [cb_an ⟨M, hM.1⟩ ⟨v, hv⟩]; exact hp
    · have a6 := (a4 t9).1
      refine ⟨M, cb_same hM (fun x => ?_), noq e.2 (Or.inl t) (opn e r z1) (by omega) (by rw [a6]; omega)⟩
      rw [z, z1, ca_B_cons]
      exact ⟨Or.inr, fun h => h.resolve_left (fun g => t9 g.1)⟩
  · exact skip (by omega) (by omega) (fun x => by rw [z])
theorem cb_loop (hn : n ≤ 40) (hK : ∀ i, i < n → tk i = nI (T i) ∧ T i < 23) (hA : ca_S T n = some (1, [])) (hTv : ∀ i, i < n → T i = 4 ∨ 20 ≤ T i → ∃ v, v < 3 ∧ tv i = nI v) (hoo : ∀ j, j < n → T j = 7 ∨ T j = 9 → oo j = nI (ca_o T j)) : ∀ (d i M : Nat), i + d = n → cb_M T tv (ca_Z T i) M → ca_D T tv i → ∃ r : Int32, (∀ post : Int32 → Prop, post r → wX_bindingPlace_4 post oc (nI n) cp lc sc kc dp vc er ep uu cls num lnk lsz lit fb tk tv rk rl ro ra rt rp oo co sk kd fr fn fi vs ll li lt (d + 1) (nI M) (nI i)) ∧ (∀ post : Int32 → Prop, post r → wY_unbound_2 post ob (nI n) pl nds sts res era usd sp lv ret out ycls prp lst siz dnd (tk) (tv) opd yrk rn op nm ay prt ylo yhi sN sP sX sK it vr (d + 1) (nI i)) ∧ ((r = -1 ∧ ca_D T tv n) ∨ ∃ j, j ≤ n ∧ r = nI j) := by
  intro d
  induction d with
  | zero =>
    intro i M hi hM hD
    have : i = n := by omega
    subst this
    have h0 : nI i ≤ nI i := nI_le (Nat.le_refl _) (by omega)
    exact ⟨-1, fun post hp => br_t h0 hp, fun post hp => br_t h0 hp, Or.inl ⟨rfl, hD⟩⟩
  | succ d ih =>
    intro i M hi hM hD
    have hin : i < n := by omega
    obtain ⟨kk, kt⟩ := hK i hin
    have ci : (nI i).toNatClampNeg = i := nI_clamp (by omega)
    have ck : tk (nI i).toNatClampNeg = nI (T i) := by rw [ci]; exact kk
    have cv : tv (nI i).toNatClampNeg = tv i := by rw [ci]
    have ii : vp_in (nI i) 40 := vp_in_nI (by omega) (by decide)
    have n0 : ¬ nI n ≤ nI i := nI_ge hin (by omega)
    obtain ⟨M', hM', hX⟩ := cb_after hn hK hA hTv hoo hin hM hD
    have bit : ∀ v, v < 3 → tv i = nI v → ((nI M &&& ((1 : Int32) <<< (tv (nI i).toNatClampNeg &&& 31))) = 0 ↔ ¬ ca_B T tv (ca_Z T i) (tv i)) := by
      intro v hv ev
      rw [cv, ev, cb_tst ⟨M, hM.1⟩ ⟨v, hv⟩]
      have := hM.2 v hv
      constructor
      · intro a b
        rw [this.2 b] at a; cases a
      · intro a
        cases h : M.testBit v with
        | false => rfl
        | true => exact absurd (this.1 h) a
    have goon : ca_D T tv (i + 1) → ∃ r : Int32, (∀ post : Int32 → Prop, post r → wX_bindingPlace_55 post (wX_bindingPlace_4 post oc (nI n) cp lc sc kc dp vc er ep uu cls num lnk lsz lit fb tk tv rk rl ro ra rt rp oo co sk kd fr fn fi vs ll li lt (d + 1)) (nI M) (nI i) oc (nI n) cp lc sc kc dp vc er ep uu cls num lnk lsz lit fb tk tv rk rl ro ra rt rp oo co sk kd fr fn fi vs ll li lt) ∧ (∀ post : Int32 → Prop, post r → wY_unbound_2 post ob (nI n) pl nds sts res era usd sp lv ret out ycls prp lst siz dnd (tk) (tv) opd yrk rn op nm ay prt ylo yhi sN sP sX sK it vr (d + 1) (nI (i + 1))) ∧ ((r = -1 ∧ ca_D T tv n) ∨ ∃ j, j ≤ n ∧ r = nI j) := by
      intro hD'
      obtain ⟨r, rX, rY, rR⟩ := ih (i + 1) M' (by omega) hM' hD'
      exact ⟨r, fun post hp => hX _ (nm_r (nI_1 i) (rX post hp)), rY, rR⟩
    have D1 : ((T i = 4 → ca_B T tv (ca_Z T i) (tv i)) ∧ (20 ≤ T i → ¬ ca_B T tv (ca_Z T i) (tv i))) → ca_D T tv (i + 1) := by
      intro h j hj
      by_cases z : j = i
      · rw [z]; exact h
      · exact hD j (by omega)
    by_cases t20 : T i < 20
    · have q20 : tk (nI i).toNatClampNeg < 20 := by rw [ck]; exact nI_lt (b := 20) t20 (by decide)
      by_cases t4 : T i = 4
      · have q4 : tk (nI i).toNatClampNeg = 4 := by rw [ck, t4]; rfl
        obtain ⟨v, hv, ev⟩ := hTv i hin (Or.inl t4)
        by_cases hb : ca_B T tv (ca_Z T i) (tv i)
        · obtain ⟨r, rX, rY, rR⟩ := goon (D1 ⟨fun _ => hb, fun z => absurd z (by omega)⟩)
          refine ⟨r, fun post hp => br_f n0 ⟨ii, nm_e ⟨ii, br_t q4 (br_f (fun z => (bit v hv ev).1 z hb) ⟨ii, br_t q20 (br_t rfl (rX post hp))⟩)⟩⟩, fun post hp => br_f n0 ⟨ii, br_t q4 ⟨ii, ?_⟩⟩, rR⟩
          rw [cv]
          exact cy_bound hn hK hA hin (by omega) (fun _ => br_f (by decide) ⟨ii, br_t q20 (nm_r (nI_1 i) (rY post hp))⟩) (fun z => absurd hb z)
        · refine ⟨nI i, fun post hp => br_f n0 ⟨ii, nm_e ⟨ii, br_t q4 (br_t ((bit v hv ev).2 hb) hp)⟩⟩, fun post hp => br_f n0 ⟨ii, br_t q4 ⟨ii, ?_⟩⟩, Or.inr ⟨i, by omega, rfl⟩⟩
          rw [cv]
          exact cy_bound hn hK hA hin (by omega) (fun z => absurd z hb) (fun _ => br_t rfl hp)
      · have q4 : ¬ tk (nI i).toNatClampNeg = 4 := fun z => t4 ((nI_eq (b := 4) (by omega) (by decide)).1 (ck.symm.trans z))
        obtain ⟨r, rX, rY, rR⟩ := goon (D1 ⟨fun z => absurd z t4, fun z => absurd z (by omega)⟩)
        exact ⟨r, fun post hp => br_f n0 ⟨ii, nm_e ⟨ii, br_f q4 ⟨ii, br_t q20 (br_t rfl (rX post hp))⟩⟩⟩, fun post hp => br_f n0 ⟨ii, br_f q4 ⟨ii, br_t q20 (nm_r (nI_1 i) (rY post hp))⟩⟩, rR⟩
    · have q20 : ¬ tk (nI i).toNatClampNeg < 20 := by rw [ck]; exact nI_nlt (b := 20) (by omega) (by omega)
      have q4 : ¬ tk (nI i).toNatClampNeg = 4 := fun z => absurd ((nI_eq (b := 4) (by omega) (by decide)).1 (ck.symm.trans z)) (by omega)
      obtain ⟨v, hv, ev⟩ := hTv i hin (Or.inr (by omega))
      by_cases hb : ca_B T tv (ca_Z T i) (tv i)
      · refine ⟨nI i, fun post hp => br_f n0 ⟨ii, nm_e ⟨ii, br_f q4 ⟨ii, br_f q20 (br_f (by decide) (br_f (fun z => (bit v hv ev).1 z hb) hp))⟩⟩⟩, fun post hp => br_f n0 ⟨ii, br_f q4 ⟨ii, br_f q20 ⟨ii, ?_⟩⟩⟩, Or.inr ⟨i, by omega, rfl⟩⟩
        rw [cv]
        exact cy_bound hn hK hA hin (by omega) (fun _ => br_f (by decide) hp) (fun z => absurd hb z)
      · obtain ⟨r, rX, rY, rR⟩ := goon (D1 ⟨fun z => absurd z (by omega), fun _ => hb⟩)
        refine ⟨r, fun post hp => br_f n0 ⟨ii, nm_e ⟨ii, br_f q4 ⟨ii, br_f q20 (br_f (by decide) (br_t ((bit v hv ev).2 hb) (rX post hp)))⟩⟩⟩, fun post hp => br_f n0 ⟨ii, br_f q4 ⟨ii, br_f q20 ⟨ii, ?_⟩⟩⟩, rR⟩
        rw [cv]
        exact cy_bound hn hK hA hin (by omega) (fun z => absurd z hb) (fun _ => br_t rfl (nm_r (nI_1 i) (rY post hp)))
theorem cb_both (hn : n ≤ 40) (hK : ∀ i, i < n → tk i = nI (T i) ∧ T i < 23) (hA : ca_S T n = some (1, [])) (hTv : ∀ i, i < n → T i = 4 ∨ 20 ≤ T i → ∃ v, v < 3 ∧ tv i = nI v) (hoo : ∀ j, j < n → T j = 7 ∨ T j = 9 → oo j = nI (ca_o T j)) : ∃ r : Int32, (∀ post : Int32 → Prop, post r → wpX_bindingPlace post (oc, nI n, cp, lc, sc, kc, dp, vc, er, ep, uu, cls, num, lnk, lsz, lit, fb, tk, tv, rk, rl, ro, ra, rt, rp, oo, co, sk, kd, fr, fn, fi, vs, ll, li, lt)) ∧ (∀ post : Int32 → Prop, post r → wpY_unbound post (ob, nI n, pl, nds, sts, res, era, usd, sp, lv, ret, out, ycls, prp, lst, siz, dnd, tk, tv, opd, yrk, rn, op, nm, ay, prt, ylo, yhi, sN, sP, sX, sK, it, vr)) ∧ ((r = -1 ∧ ca_D T tv n) ∨ ∃ j, j ≤ n ∧ r = nI j) := by
  obtain ⟨r, rX, rY, rR⟩ := cb_loop hn hK hA hTv hoo n 0 0 (by omega) ⟨by decide, fun v hv => ⟨fun z => absurd z (by rw [Nat.zero_testBit]; exact Bool.false_ne_true), fun ⟨y, y1, _⟩ => absurd y1 (by rw [ca_Z0]; exact List.not_mem_nil)⟩⟩ (fun j hj => absurd hj (by omega))
  exact ⟨r, fun post hp => ⟨_, rX post hp⟩, fun post hp => ⟨_, rY post hp⟩, rR⟩
end
end
section
/-- an array with new cells from b on -/
def cs_ups (f : Nat → Int32) (b : Nat) : List Int32 → Nat → Int32
  | [] => f
  | x :: r => cs_ups (upd f b x) (b + 1) r
def cs_ids (nd : Nat) : Nat → List Int32
  | 0 => []
  | k + 1 => nI nd :: cs_ids (nd + 1) k
/-- the root of the span l .. u-1: its node's t, v, p and the spans of its children -/
def cs_L (T : Nat → Nat) (tv : Nat → Int32) (n : Nat) : Nat → Nat → Nat → Int32 → Int32 → Nat → List (Nat × Nat) → Prop
  | 0 => fun _ _ _ _ _ _ => False
  | f + 1 => fun l u t v p ch => ca_V T n l u ∧ (
      (T l = 6 ∧ T (u - 1) = 7 ∧ ca_Z T (u - 1) = (l, l) :: ca_Z T l ∧ ca_Z T (l + 1) = (l, l) :: ca_Z T l ∧ cs_L T tv n f (l + 1) (u - 1) t v p ch) ∨
      (u = l + 1 ∧ (T l = 0 ∨ T l = 3 ∨ T l = 4 ∨ T l = 19) ∧ t = nI (T l) ∧ v = tv l ∧ p = l ∧ ch = []) ∨
      ((T (u - 1) = 1 ∨ T (u - 1) = 2) ∧ l + 1 < u ∧ ca_N T l u ∧ t = nI (T (u - 1)) ∧ v = tv (u - 1) ∧ p = u - 1 ∧ ch = [(l, u - 1)] ∧ ca_V T n l (u - 1) ∧ T l ≠ 12 ∧ T l ≠ 16) ∨
      (T l = 5 ∧ T (l + 1) = 6 ∧ T (u - 1) = 7 ∧ ca_Z T (u - 1) = (l, l) :: ca_Z T l ∧ ca_Z T (l + 2) = (l, l) :: ca_Z T l ∧ t = 5 ∧ v = tv l ∧ p = l ∧ ch = [(l + 2, u - 1)] ∧ ca_V T n (l + 2) (u - 1)) ∨
      (∃ m, 20 ≤ T l ∧ T (l + 1) = 6 ∧ T m = 9 ∧ T (u - 1) = 7 ∧ ca_Z T m = (l, l) :: ca_Z T l ∧ ca_Z T (l + 2) = (l, l) :: ca_Z T l ∧ ca_Z T (m + 1) = (m, l) :: ca_Z T l ∧ ca_Z T (u - 1) = (m, l) :: ca_Z T l ∧ t = nI (T l) ∧ v = tv l ∧ p = l ∧ ch = [(l + 2, m), (m + 1, u - 1)] ∧ ca_V T n (l + 2) m ∧ ca_V T n (m + 1) (u - 1)) ∨
      ((T l = 12 ∧ t = 12 ∨ T l = 16 ∧ t = 23) ∧ ca_N T l u ∧ v = tv l ∧ p = l ∧ ch = [(l + 1, u)] ∧ ca_V T n (l + 1) u ∧ ca_Z T (l + 1) = ca_Z T l) ∨
      (∃ c, l < c ∧ c < u ∧ (∀ j, l < j → j < u → T j = 8 → ca_h T j ≠ ca_h T l) ∧ ca_op T l c ∧ (∀ j, l < j → j < u → ca_op T l j → ca_wt (T c) ≤ ca_wt (T j) ∧ (c < j → ca_wt (T c) < ca_wt (T j))) ∧ t = nI (T c) ∧ v = tv c ∧ p = c ∧ ch = [(l, c), (c + 1, u)] ∧ ca_V T n l c ∧ ca_V T n (c + 1) u ∧ ca_Z T (c + 1) = ca_Z T l) ∨
      (∃ c m, T c = 8 ∧ T m = 9 ∧ l < c ∧ c + 1 < m ∧ m + 1 < u ∧ ca_h T c = ca_h T l ∧ (∀ j, l < j → j < c → T j = 8 → ca_h T j ≠ ca_h T l) ∧ ca_Z T m = (c, c) :: ca_Z T l ∧ ca_Z T (c + 1) = (c, c) :: ca_Z T l ∧ ca_Z T (m + 1) = ca_Z T l ∧ t = 8 ∧ v = tv c ∧ p = c ∧ ch = [(l, c), (c + 1, m), (m + 1, u)] ∧ ca_V T n l c ∧ ca_V T n (c + 1) m ∧ ca_V T n (m + 1) u))
section
variable {ob pl sts res era usd sp lv ret out : Int32} {ycls prp lst siz dnd opd yrk rn op nm ay prt ylo yhi sN sP sX sK it vr tk tv : Nat → Int32} {n nd K : Nat} {T : Nat → Nat}
theorem cs_add {Q : Int32 → SY → Prop} {a b : Int32} (hd : nd < 280) (h : Q (nI nd) (ob, nI n, pl, nI (nd + 1), sts, res, era, usd, sp, lv, ret, out, ycls, prp, lst, siz, dnd, tk, tv, opd, yrk, rn, op, nm, ay, prt, upd ylo nd a, upd yhi nd b, sN, sP, sX, sK, it, vr)) : wpY_add Q (ob, nI n, pl, nI nd, sts, res, era, usd, sp, lv, ret, out, ycls, prp, lst, siz, dnd, tk, tv, opd, yrk, rn, op, nm, ay, prt, ylo, yhi, sN, sP, sX, sK, it, vr) a b := by
  have c : (nI nd).toNatClampNeg = nd := nI_clamp (by omega)
  exact ⟨vp_in_nI hd (by decide), nm_r (by rw [c]) ⟨vp_in_nI hd (by decide), nm_r (by rw [c]) (nm_r (nI_1 nd) h)⟩⟩
theorem cs_two {post : SY → Prop} {l u c : Nat} {z t s2 : Int32} (hK280 : K < 280) (hc40 : c < 40) (h8 : ¬ t = 8) (hd : nd + 2 ≤ 280) (hp : post (ob, nI n, pl, nI (nd + [(l, c), (c + 1, u)].length), sts, res, era, usd, sp, lv, ret, out, ycls, prp, lst, siz, dnd, tk, tv, opd, yrk, rn, upd op K z, upd nm K (tv c), upd ay K (nI c), cs_ups prt (K * 3) (cs_ids nd [(l, c), (c + 1, u)].length), cs_ups ylo nd ([(l, c), (c + 1, u)].map (fun c => nI c.1)), cs_ups yhi nd ([(l, c), (c + 1, u)].map (fun c => nI c.2)), sN, sP, sX, sK, it, vr)) : wY_split_239 post (nI K) (nI l) (nI u) (nI c) 1 s2 t z (nI K) ob (nI n) pl (nI nd) sts res era usd sp lv ret out ycls prp lst siz dnd (tk) (tv) opd yrk rn op nm ay prt ylo yhi sN sP sX sK it vr := by
  have cK : (nI K).toNatClampNeg = K := nI_clamp (by omega)
  have iK : vp_in (nI K) 280 := vp_in_nI hK280 (by decide)
  have k0 : nI K * 3 = nI (K * 3) := gr_mul K 3 rfl
  have k1 : nI K * 3 + 1 = nI (K * 3 + 1) := gr_lin K 3 1 rfl rfl
  have k2 : nI K * 3 + 2 = nI (K * 3 + 2) := gr_lin K 3 2 rfl rfl
  have j0 : (nI (K * 3)).toNatClampNeg = K * 3 := nI_clamp (by omega)
  have j1 : (nI (K * 3 + 1)).toNatClampNeg = K * 3 + 1 := nI_clamp (by omega)
  have j2 : (nI (K * 3 + 2)).toNatClampNeg = K * 3 + 2 := nI_clamp (by omega)
  have i0 : vp_in (nI K * 3) 840 := by rw [k0]; exact vp_in_nI (by omega) (by decide)
  have i1 : vp_in (nI K * 3 + 1) 840 := by rw [k1]; exact vp_in_nI (by omega) (by decide)
  have i2 : vp_in (nI K * 3 + 2) 840 := by rw [k2]; exact vp_in_nI (by omega) (by decide)
  refine ⟨iK, nm_r (e' := upd op K z) (by rw [cK]) ⟨vp_in_nI hc40 (by decide), iK, nm_r (e' := upd nm K (tv c)) (by rw [cK, nI_clamp (by omega)]) ⟨iK, nm_r (e' := upd ay K (nI c)) (by rw [cK]) ?_⟩⟩⟩
  refine br_f h8 (br_f (by decide) ?_)
  refine cs_add (by omega) ⟨i0, nm_r (e' := upd prt (K * 3) (nI nd)) (by rw [k0, j0]) ?_⟩
  rw [nI_1 c]
  exact cs_add (nd := nd + 1) (by omega) ⟨i1, nm_r (e' := upd (upd prt (K * 3) (nI nd)) (K * 3 + 1) (nI (nd + 1))) (by rw [k1, j1]) hp⟩
theorem cs_side {post : SY → Prop} {l u c : Nat} {z t : Int32} (hK280 : K < 280) (hc40 : c < 40) (h8 : ¬ t = 8) (hd : nd + 1 ≤ 280) (hp : post (ob, nI n, pl, nI (nd + [(l + 1, u)].length), sts, res, era, usd, sp, lv, ret, out, ycls, prp, lst, siz, dnd, tk, tv, opd, yrk, rn, upd op K z, upd nm K (tv c), upd ay K (nI c), cs_ups prt (K * 3) (cs_ids nd [(l + 1, u)].length), cs_ups ylo nd ([(l + 1, u)].map (fun c => nI c.1)), cs_ups yhi nd ([(l + 1, u)].map (fun c => nI c.2)), sN, sP, sX, sK, it, vr)) : wY_split_239 post (nI K) (nI l) (nI u) (nI c) 0 1 t z (nI K) ob (nI n) pl (nI nd) sts res era usd sp lv ret out ycls prp lst siz dnd (tk) (tv) opd yrk rn op nm ay prt ylo yhi sN sP sX sK it vr := by
  have cK : (nI K).toNatClampNeg = K := nI_clamp (by omega)
  have iK : vp_in (nI K) 280 := vp_in_nI hK280 (by decide)
  have k0 : nI K * 3 = nI (K * 3) := gr_mul K 3 rfl
  have k1 : nI K * 3 + 1 = nI (K * 3 + 1) := gr_lin K 3 1 rfl rfl
  have k2 : nI K * 3 + 2 = nI (K * 3 + 2) := gr_lin K 3 2 rfl rfl
  have j0 : (nI (K * 3)).toNatClampNeg = K * 3 := nI_clamp (by omega)
  have j1 : (nI (K * 3 + 1)).toNatClampNeg = K * 3 + 1 := nI_clamp (by omega)
  have j2 : (nI (K * 3 + 2)).toNatClampNeg = K * 3 + 2 := nI_clamp (by omega)
  have i0 : vp_in (nI K * 3) 840 := by rw [k0]; exact vp_in_nI (by omega) (by decide)
  have i1 : vp_in (nI K * 3 + 1) 840 := by rw [k1]; exact vp_in_nI (by omega) (by decide)
  have i2 : vp_in (nI K * 3 + 2) 840 := by rw [k2]; exact vp_in_nI (by omega) (by decide)
  refine ⟨iK, nm_r (e' := upd op K z) (by rw [cK]) ⟨vp_in_nI hc40 (by decide), iK, nm_r (e' := upd nm K (tv c)) (by rw [cK, nI_clamp (by omega)]) ⟨iK, nm_r (e' := upd ay K (nI c)) (by rw [cK]) ?_⟩⟩⟩
  refine br_f h8 (br_t rfl (br_f (by decide) ?_))
  rw [nI_1 l]
  exact cs_add (by omega) ⟨i0, nm_r (e' := upd prt (K * 3) (nI nd)) (by rw [k0, j0]) hp⟩
theorem cs_post {post : SY → Prop} {l u c : Nat} {z t : Int32} (hK280 : K < 280) (hc40 : c < 40) (ht : t = 1 ∨ t = 2) (hd : nd + 1 ≤ 280) (hp : post (ob, nI n, pl, nI (nd + [(l, c)].length), sts, res, era, usd, sp, lv, ret, out, ycls, prp, lst, siz, dnd, tk, tv, opd, yrk, rn, upd op K z, upd nm K (tv c), upd ay K (nI c), cs_ups prt (K * 3) (cs_ids nd [(l, c)].length), cs_ups ylo nd ([(l, c)].map (fun c => nI c.1)), cs_ups yhi nd ([(l, c)].map (fun c => nI c.2)), sN, sP, sX, sK, it, vr)) : wY_split_239 post (nI K) (nI l) (nI u) (nI c) 0 0 t z (nI K) ob (nI n) pl (nI nd) sts res era usd sp lv ret out ycls prp lst siz dnd (tk) (tv) opd yrk rn op nm ay prt ylo yhi sN sP sX sK it vr := by
  have cK : (nI K).toNatClampNeg = K := nI_clamp (by omega)
  have iK : vp_in (nI K) 280 := vp_in_nI hK280 (by decide)
  have k0 : nI K * 3 = nI (K * 3) := gr_mul K 3 rfl
  have k1 : nI K * 3 + 1 = nI (K * 3 + 1) := gr_lin K 3 1 rfl rfl
  have k2 : nI K * 3 + 2 = nI (K * 3 + 2) := gr_lin K 3 2 rfl rfl
  have j0 : (nI (K * 3)).toNatClampNeg = K * 3 := nI_clamp (by omega)
  have j1 : (nI (K * 3 + 1)).toNatClampNeg = K * 3 + 1 := nI_clamp (by omega)
  have j2 : (nI (K * 3 + 2)).toNatClampNeg = K * 3 + 2 := nI_clamp (by omega)
  have i0 : vp_in (nI K * 3) 840 := by rw [k0]; exact vp_in_nI (by omega) (by decide)
  have i1 : vp_in (nI K * 3 + 1) 840 := by rw [k1]; exact vp_in_nI (by omega) (by decide)
  have i2 : vp_in (nI K * 3 + 2) 840 := by rw [k2]; exact vp_in_nI (by omega) (by decide)
  refine ⟨iK, nm_r (e' := upd op K z) (by rw [cK]) ⟨vp_in_nI hc40 (by decide), iK, nm_r (e' := upd nm K (tv c)) (by rw [cK, nI_clamp (by omega)]) ⟨iK, nm_r (e' := upd ay K (nI c)) (by rw [cK]) ?_⟩⟩⟩
  have n8 : ¬ t = 8 := by rcases ht with rfl | rfl <;> decide
  refine br_f n8 (br_t rfl (br_t rfl ?_))
  have fin : wY_split_413 post (nI K) (nI l) (nI c) ob (nI n) pl (nI nd) sts res era usd sp lv ret out ycls prp lst siz dnd (tk) (tv) opd yrk rn (upd op K z) (upd nm K (tv c)) (upd ay K (nI c)) prt ylo yhi sN sP sX sK it vr := cs_add (by omega) ⟨i0, nm_r (e' := upd prt (K * 3) (nI nd)) (by rw [k0, j0]) hp⟩
  rcases ht with rfl | rfl
  · exact br_t rfl fin
  · exact br_f (by decide) (br_t rfl fin)
theorem cs_call {post : SY → Prop} {l u c : Nat} {z t : Int32} (hK280 : K < 280) (hc40 : c < 40) (ht : t = 5) (hu : 1 ≤ u) (hd : nd + 1 ≤ 280) (hp : post (ob, nI n, pl, nI (nd + [(l + 2, u - 1)].length), sts, res, era, usd, sp, lv, ret, out, ycls, prp, lst, siz, dnd, tk, tv, opd, yrk, rn, upd op K z, upd nm K (tv c), upd ay K (nI c), cs_ups prt (K * 3) (cs_ids nd [(l + 2, u - 1)].length), cs_ups ylo nd ([(l + 2, u - 1)].map (fun c => nI c.1)), cs_ups yhi nd ([(l + 2, u - 1)].map (fun c => nI c.2)), sN, sP, sX, sK, it, vr)) : wY_split_239 post (nI K) (nI l) (nI u) (nI c) 0 0 t z (nI K) ob (nI n) pl (nI nd) sts res era usd sp lv ret out ycls prp lst siz dnd (tk) (tv) opd yrk rn op nm ay prt ylo yhi sN sP sX sK it vr := by
  have cK : (nI K).toNatClampNeg = K := nI_clamp (by omega)
  have iK : vp_in (nI K) 280 := vp_in_nI hK280 (by decide)
  have k0 : nI K * 3 = nI (K * 3) := gr_mul K 3 rfl
  have k1 : nI K * 3 + 1 = nI (K * 3 + 1) := gr_lin K 3 1 rfl rfl
  have k2 : nI K * 3 + 2 = nI (K * 3 + 2) := gr_lin K 3 2 rfl rfl
  have j0 : (nI (K * 3)).toNatClampNeg = K * 3 := nI_clamp (by omega)
  have j1 : (nI (K * 3 + 1)).toNatClampNeg = K * 3 + 1 := nI_clamp (by omega)
  have j2 : (nI (K * 3 + 2)).toNatClampNeg = K * 3 + 2 := nI_clamp (by omega)
  have i0 : vp_in (nI K * 3) 840 := by rw [k0]; exact vp_in_nI (by omega) (by decide)
  have i1 : vp_in (nI K * 3 + 1) 840 := by rw [k1]; exact vp_in_nI (by omega) (by decide)
  have i2 : vp_in (nI K * 3 + 2) 840 := by rw [k2]; exact vp_in_nI (by omega) (by decide)
  refine ⟨iK, nm_r (e' := upd op K z) (by rw [cK]) ⟨vp_in_nI hc40 (by decide), iK, nm_r (e' := upd nm K (tv c)) (by rw [cK, nI_clamp (by omega)]) ⟨iK, nm_r (e' := upd ay K (nI c)) (by rw [cK]) ?_⟩⟩⟩
  subst ht
  obtain ⟨u', rfl⟩ : ∃ u', u = u' + 1 := ⟨u - 1, by omega⟩
  refine br_f (by decide) (br_t rfl (br_t rfl (br_f (by decide) (br_f (by decide) (br_t rfl ?_)))))
  rw [show nI l + 2 = nI (l + 2) from nI_add l 2, nI_pred u']
  exact cs_add (by omega) ⟨i0, nm_r (e' := upd prt (K * 3) (nI nd)) (by rw [k0, j0]) hp⟩
theorem cs_leaf {post : SY → Prop} {l u c : Nat} {z t : Int32} (hK280 : K < 280) (hc40 : c < 40) (ht : t = 0 ∨ t = 3 ∨ t = 4 ∨ t = 19) (hp : post (ob, nI n, pl, nI (nd + ([] : List (Nat × Nat)).length), sts, res, era, usd, sp, lv, ret, out, ycls, prp, lst, siz, dnd, tk, tv, opd, yrk, rn, upd op K z, upd nm K (tv c), upd ay K (nI c), cs_ups prt (K * 3) (cs_ids nd ([] : List (Nat × Nat)).length), cs_ups ylo nd (([] : List (Nat × Nat)).map (fun c => nI c.1)), cs_ups yhi nd (([] : List (Nat × Nat)).map (fun c => nI c.2)), sN, sP, sX, sK, it, vr)) : wY_split_239 post (nI K) (nI l) (nI u) (nI c) 0 0 t z (nI K) ob (nI n) pl (nI nd) sts res era usd sp lv ret out ycls prp lst siz dnd (tk) (tv) opd yrk rn op nm ay prt ylo yhi sN sP sX sK it vr := by
  have cK : (nI K).toNatClampNeg = K := nI_clamp (by omega)
  have iK : vp_in (nI K) 280 := vp_in_nI hK280 (by decide)
  have k0 : nI K * 3 = nI (K * 3) := gr_mul K 3 rfl
  have k1 : nI K * 3 + 1 = nI (K * 3 + 1) := gr_lin K 3 1 rfl rfl
  have k2 : nI K * 3 + 2 = nI (K * 3 + 2) := gr_lin K 3 2 rfl rfl
  have j0 : (nI (K * 3)).toNatClampNeg = K * 3 := nI_clamp (by omega)
  have j1 : (nI (K * 3 + 1)).toNatClampNeg = K * 3 + 1 := nI_clamp (by omega)
  have j2 : (nI (K * 3 + 2)).toNatClampNeg = K * 3 + 2 := nI_clamp (by omega)
  have i0 : vp_in (nI K * 3) 840 := by rw [k0]; exact vp_in_nI (by omega) (by decide)
  have i1 : vp_in (nI K * 3 + 1) 840 := by rw [k1]; exact vp_in_nI (by omega) (by decide)
  have i2 : vp_in (nI K * 3 + 2) 840 := by rw [k2]; exact vp_in_nI (by omega) (by decide)
  refine ⟨iK, nm_r (e' := upd op K z) (by rw [cK]) ⟨vp_in_nI hc40 (by decide), iK, nm_r (e' := upd nm K (tv c)) (by rw [cK, nI_clamp (by omega)]) ⟨iK, nm_r (e' := upd ay K (nI c)) (by rw [cK]) ?_⟩⟩⟩
  rcases ht with rfl | rfl | rfl | rfl <;> exact br_f (by decide) (br_t rfl (br_t rfl (br_f (by decide) (br_f (by decide) (br_f (by decide) (br_t (by decide) hp))))))
theorem cs_qnt {post : SY → Prop} {l u c : Nat} {z t : Int32} (hK280 : K < 280) (hc40 : c < 40) (hn : n ≤ 40) (hK : ∀ i, i < n → tk i = nI (T i) ∧ T i < 23) (hA : ca_S T n = some (1, [])) {m : Nat} {e : Nat × Nat} {R : List (Nat × Nat)} (hw : ca_W T (l + 2) = 0) (hB : ca_Z T (l + 2) = e :: R) (hsuf : ∀ i, l + 2 ≤ i → i ≤ m → ∃ E, ca_Z T i = E ++ e :: R) (hm : m < n) (him : l + 2 ≤ m) (hZm : ca_Z T m = e :: R) (hWm : ca_W T m = 1) (hTm : T m = 9) (ht : t = 20 ∨ t = 21 ∨ t = 22) (hu : 1 ≤ u) (hd : nd + 2 ≤ 280) (hp : post (ob, nI n, pl, nI (nd + [(l + 2, m), (m + 1, u - 1)].length), sts, res, era, usd, sp, lv, ret, out, ycls, prp, lst, siz, dnd, tk, tv, opd, yrk, rn, upd op K z, upd nm K (tv c), upd ay K (nI c), cs_ups prt (K * 3) (cs_ids nd [(l + 2, m), (m + 1, u - 1)].length), cs_ups ylo nd ([(l + 2, m), (m + 1, u - 1)].map (fun c => nI c.1)), cs_ups yhi nd ([(l + 2, m), (m + 1, u - 1)].map (fun c => nI c.2)), sN, sP, sX, sK, it, vr)) : wY_split_239 post (nI K) (nI l) (nI u) (nI c) 0 0 t z (nI K) ob (nI n) pl (nI nd) sts res era usd sp lv ret out ycls prp lst siz dnd (tk) (tv) opd yrk rn op nm ay prt ylo yhi sN sP sX sK it vr := by
  have cK : (nI K).toNatClampNeg = K := nI_clamp (by omega)
  have iK : vp_in (nI K) 280 := vp_in_nI hK280 (by decide)
  have k0 : nI K * 3 = nI (K * 3) := gr_mul K 3 rfl
  have k1 : nI K * 3 + 1 = nI (K * 3 + 1) := gr_lin K 3 1 rfl rfl
  have k2 : nI K * 3 + 2 = nI (K * 3 + 2) := gr_lin K 3 2 rfl rfl
  have j0 : (nI (K * 3)).toNatClampNeg = K * 3 := nI_clamp (by omega)
  have j1 : (nI (K * 3 + 1)).toNatClampNeg = K * 3 + 1 := nI_clamp (by omega)
  have j2 : (nI (K * 3 + 2)).toNatClampNeg = K * 3 + 2 := nI_clamp (by omega)
  have i0 : vp_in (nI K * 3) 840 := by rw [k0]; exact vp_in_nI (by omega) (by decide)
  have i1 : vp_in (nI K * 3 + 1) 840 := by rw [k1]; exact vp_in_nI (by omega) (by decide)
  have i2 : vp_in (nI K * 3 + 2) 840 := by rw [k2]; exact vp_in_nI (by omega) (by decide)
  refine ⟨iK, nm_r (e' := upd op K z) (by rw [cK]) ⟨vp_in_nI hc40 (by decide), iK, nm_r (e' := upd nm K (tv c)) (by rw [cK, nI_clamp (by omega)]) ⟨iK, nm_r (e' := upd ay K (nI c)) (by rw [cK]) ?_⟩⟩⟩
  obtain ⟨u', rfl⟩ : ∃ u', u = u' + 1 := ⟨u - 1, by omega⟩
  refine br_f (fun z => by rcases ht with rfl | rfl | rfl <;> exact absurd z (by decide)) (br_t rfl (br_t rfl (br_f (fun z => by rcases ht with rfl | rfl | rfl <;> exact absurd z (by decide)) (br_f (fun z => by rcases ht with rfl | rfl | rfl <;> exact absurd z (by decide)) (br_f (fun z => by rcases ht with rfl | rfl | rfl <;> exact absurd z (by decide)) (br_f (fun z => by rcases ht with rfl | rfl | rfl <;> exact absurd z (by decide)) ?_))))))
  rw [show nI l + 2 = nI (l + 2) from nI_add l 2, nI_pred u']
  refine cy_colon hn hK hA hw hB hsuf hm him hZm hWm hTm ?_
  refine cs_add (by omega) ⟨i0, nm_r (e' := upd prt (K * 3) (nI nd)) (by rw [k0, j0]) ?_⟩
  rw [nI_1 m]
  exact cs_add (nd := nd + 1) (by omega) ⟨i1, nm_r (e' := upd (upd prt (K * 3) (nI nd)) (K * 3 + 1) (nI (nd + 1))) (by rw [k1, j1]) hp⟩
theorem cs_if {post : SY → Prop} {l u c : Nat} {z t x5 x6 : Int32} (hK280 : K < 280) (hc40 : c < 40) (hn : n ≤ 40) (hK : ∀ i, i < n → tk i = nI (T i) ∧ T i < 23) (hA : ca_S T n = some (1, [])) {m : Nat} {e : Nat × Nat} {R : List (Nat × Nat)} (hw : ca_W T (c + 1) = 0) (hB : ca_Z T (c + 1) = e :: R) (hsuf : ∀ i, c + 1 ≤ i → i ≤ m → ∃ E, ca_Z T i = E ++ e :: R) (hm : m < n) (him : c + 1 ≤ m) (hZm : ca_Z T m = e :: R) (hWm : ca_W T m = 1) (hTm : T m = 9) (ht : t = 8) (hd : nd + 3 ≤ 280) (hp : post (ob, nI n, pl, nI (nd + [(l, c), (c + 1, m), (m + 1, u)].length), sts, res, era, usd, sp, lv, ret, out, ycls, prp, lst, siz, dnd, tk, tv, opd, yrk, rn, upd op K z, upd nm K (tv c), upd ay K (nI c), cs_ups prt (K * 3) (cs_ids nd [(l, c), (c + 1, m), (m + 1, u)].length), cs_ups ylo nd ([(l, c), (c + 1, m), (m + 1, u)].map (fun c => nI c.1)), cs_ups yhi nd ([(l, c), (c + 1, m), (m + 1, u)].map (fun c => nI c.2)), sN, sP, sX, sK, it, vr)) : wY_split_239 post (nI K) (nI l) (nI u) (nI c) x5 x6 t z (nI K) ob (nI n) pl (nI nd) sts res era usd sp lv ret out ycls prp lst siz dnd (tk) (tv) opd yrk rn op nm ay prt ylo yhi sN sP sX sK it vr := by
  have cK : (nI K).toNatClampNeg = K := nI_clamp (by omega)
  have iK : vp_in (nI K) 280 := vp_in_nI hK280 (by decide)
  have k0 : nI K * 3 = nI (K * 3) := gr_mul K 3 rfl
  have k1 : nI K * 3 + 1 = nI (K * 3 + 1) := gr_lin K 3 1 rfl rfl
  have k2 : nI K * 3 + 2 = nI (K * 3 + 2) := gr_lin K 3 2 rfl rfl
  have j0 : (nI (K * 3)).toNatClampNeg = K * 3 := nI_clamp (by omega)
  have j1 : (nI (K * 3 + 1)).toNatClampNeg = K * 3 + 1 := nI_clamp (by omega)
  have j2 : (nI (K * 3 + 2)).toNatClampNeg = K * 3 + 2 := nI_clamp (by omega)
  have i0 : vp_in (nI K * 3) 840 := by rw [k0]; exact vp_in_nI (by omega) (by decide)
  have i1 : vp_in (nI K * 3 + 1) 840 := by rw [k1]; exact vp_in_nI (by omega) (by decide)
  have i2 : vp_in (nI K * 3 + 2) 840 := by rw [k2]; exact vp_in_nI (by omega) (by decide)
  refine ⟨iK, nm_r (e' := upd op K z) (by rw [cK]) ⟨vp_in_nI hc40 (by decide), iK, nm_r (e' := upd nm K (tv c)) (by rw [cK, nI_clamp (by omega)]) ⟨iK, nm_r (e' := upd ay K (nI c)) (by rw [cK]) ?_⟩⟩⟩
  refine br_t ht ?_
  rw [nI_1 c]
  refine cy_colon hn hK hA hw hB hsuf hm him hZm hWm hTm ?_
  refine cs_add (by omega) ⟨i0, nm_r (e' := upd prt (K * 3) (nI nd)) (by rw [k0, j0]) ?_⟩
  refine cs_add (nd := nd + 1) (by omega) ⟨i1, nm_r (e' := upd (upd prt (K * 3) (nI nd)) (K * 3 + 1) (nI (nd + 1))) (by rw [k1, j1]) ?_⟩
  rw [nI_1 m]
  exact cs_add (nd := nd + 2) (by omega) ⟨i2, nm_r (e' := upd (upd (upd prt (K * 3) (nI nd)) (K * 3 + 1) (nI (nd + 1))) (K * 3 + 2) (nI (nd + 2))) (by rw [k2, j2]) hp⟩
end
end
section
section
variable {ob pl sts res era usd sp lv ret out : Int32} {ycls prp lst siz dnd opd yrk rn op nm ay prt ylo yhi sN sP sX sK it vr tk tv : Nat → Int32} {n nd K : Nat} {T : Nat → Nat}
theorem cs_tkl (hn : n ≤ 40) (hK : ∀ i, i < n → tk i = nI (T i) ∧ T i < 23) {l : Nat} (hl : l < n) : tk (nI l).toNatClampNeg = nI (T l) ∧ (∀ x, T l ≠ x → x < 23 → ¬ tk (nI l).toNatClampNeg = nI x) ∧ vp_in (nI l) 40 := by
  have e : tk (nI l).toNatClampNeg = nI (T l) := by rw [nI_clamp (by omega)]; exact (hK l hl).1
  exact ⟨e, fun x z hx y => z ((nI_eq (by have := (hK l hl).2; omega) (by omega)).1 (e.symm.trans y)), vp_in_nI (by omega) (by decide)⟩
theorem cs_122 (hn : n ≤ 40) (hK : ∀ i, i < n → tk i = nI (T i) ∧ T i < 23) {post : SY → Prop} {l u c : Nat} {two : Int32} (hl : l < n) (h1 : T l = 16 ∨ T l = 12 → wY_split_122 post (nI K) (nI l) (nI u) (nI c) two 1 ob (nI n) pl (nI nd) sts res era usd sp lv ret out ycls prp lst siz dnd (tk) (tv) opd yrk rn op nm ay prt ylo yhi sN sP sX sK it vr) (h0 : ¬ (T l = 16 ∨ T l = 12) → wY_split_122 post (nI K) (nI l) (nI u) (nI c) two 0 ob (nI n) pl (nI nd) sts res era usd sp lv ret out ycls prp lst siz dnd (tk) (tv) opd yrk rn op nm ay prt ylo yhi sN sP sX sK it vr) : wY_split_93 post (nI K) (nI l) (nI u) (nI c) two ob (nI n) pl (nI nd) sts res era usd sp lv ret out ycls prp lst siz dnd (tk) (tv) opd yrk rn op nm ay prt ylo yhi sN sP sX sK it vr := by
  obtain ⟨e1, e2, e3⟩ := cs_tkl hn hK hl
  refine ⟨e3, ?_⟩
  by_cases t16 : T l = 16
  · exact br_t (by rw [e1, t16]; rfl) (h1 (Or.inl t16))
  · refine br_f (e2 16 t16 (by decide)) ⟨e3, ?_⟩
    by_cases t12 : T l = 12
    · exact br_t (by rw [e1, t12]; rfl) (h1 (Or.inr t12))
    · exact br_f (e2 12 t12 (by decide)) (h0 (by omega))
theorem cs_r2 (hn : n ≤ 40) (hK : ∀ i, i < n → tk i = nI (T i) ∧ T i < 23) {post : SY → Prop} {l u c : Nat} (hl : l < c) (hc : c < n) (h : ∀ s2, wY_split_239 post (nI K) (nI l) (nI u) (nI c) 1 s2 (nI (T c)) (nI (T c)) (nI K) ob (nI n) pl (nI nd) sts res era usd sp lv ret out ycls prp lst siz dnd (tk) (tv) opd yrk rn op nm ay prt ylo yhi sN sP sX sK it vr) : wY_split_82 post (nI K) (nI l) (nI u) (nI c) ob (nI n) pl (nI nd) sts res era usd sp lv ret out ycls prp lst siz dnd (tk) (tv) opd yrk rn op nm ay prt ylo yhi sN sP sX sK it vr := by
  obtain ⟨e1, e2, e3⟩ := cs_tkl hn hK hc
  have fin : ∀ s2, wY_split_122 post (nI K) (nI l) (nI u) (nI c) 1 s2 ob (nI n) pl (nI nd) sts res era usd sp lv ret out ycls prp lst siz dnd (tk) (tv) opd yrk rn op nm ay prt ylo yhi sN sP sX sK it vr := by
    intro s2
    have k206 : wY_split_206 post (nI K) (nI l) (nI u) (nI c) 1 s2 ob (nI n) pl (nI nd) sts res era usd sp lv ret out ycls prp lst siz dnd (tk) (tv) opd yrk rn op nm ay prt ylo yhi sN sP sX sK it vr := by
      refine ⟨e3, nm_r (e' := nI (T c)) e1 ?_⟩
      by_cases t16 : nI (T c) = 16
      · exact br_t t16 (br_f (by decide) (h s2))
      · exact br_f t16 (h s2)
    exact br_f (by decide) ⟨e3, br_f (by decide) (br_f (by decide) k206)⟩
  exact br_f (nI_ge hl (by omega)) (cs_122 hn hK (by omega) (fun _ => fin 1) (fun _ => fin 0))
theorem cs_rs (hn : n ≤ 40) (hK : ∀ i, i < n → tk i = nI (T i) ∧ T i < 23) {post : SY → Prop} {l u : Nat} (hl : l < n) (ht : T l = 16 ∨ T l = 12) (h : wY_split_239 post (nI K) (nI l) (nI u) (nI l) 0 1 (nI (T l)) (if T l = 16 then 23 else 12) (nI K) ob (nI n) pl (nI nd) sts res era usd sp lv ret out ycls prp lst siz dnd (tk) (tv) opd yrk rn op nm ay prt ylo yhi sN sP sX sK it vr) : wY_split_82 post (nI K) (nI l) (nI u) (nI l) ob (nI n) pl (nI nd) sts res era usd sp lv ret out ycls prp lst siz dnd (tk) (tv) opd yrk rn op nm ay prt ylo yhi sN sP sX sK it vr := by
  obtain ⟨e1, e2, e3⟩ := cs_tkl hn hK hl
  refine br_t (nI_le (Nat.le_refl _) (by omega)) (cs_122 hn hK hl (fun _ => ?_) (fun z => absurd ht z))
  refine br_t rfl (br_f (by decide) ⟨e3, br_t rfl (br_f (by decide) (br_t rfl (br_f (by decide) ⟨e3, nm_r (e' := nI (T l)) e1 ?_⟩)))⟩)
  by_cases t16 : T l = 16
  · rw [if_pos t16] at h
    exact br_t (by rw [t16]; rfl) (br_t rfl h)
  · rw [if_neg t16] at h
    have t12 : nI (T l) = 12 := by rw [ht.resolve_left t16]; rfl
    refine br_f (by rw [t12]; decide) ?_
    show wY_split_239 post (nI K) (nI l) (nI u) (nI l) 0 1 (nI (T l)) (nI (T l)) (nI K) ob (nI n) pl (nI nd) sts res era usd sp lv ret out ycls prp lst siz dnd (tk) (tv) opd yrk rn op nm ay prt ylo yhi sN sP sX sK it vr
    rw [t12] at h ⊢
    exact h
theorem cs_rp (hn : n ≤ 40) (hK : ∀ i, i < n → tk i = nI (T i) ∧ T i < 23) {post : SY → Prop} {l u : Nat} (hl : l < u) (hu : u ≤ n) (ht : ¬ (T l = 16 ∨ T l = 12)) (hp : T (u - 1) = 1 ∨ T (u - 1) = 2) (h : wY_split_239 post (nI K) (nI l) (nI u) (nI (u - 1)) 0 0 (nI (T (u - 1))) (nI (T (u - 1))) (nI K) ob (nI n) pl (nI nd) sts res era usd sp lv ret out ycls prp lst siz dnd (tk) (tv) opd yrk rn op nm ay prt ylo yhi sN sP sX sK it vr) : wY_split_82 post (nI K) (nI l) (nI u) (nI l) ob (nI n) pl (nI nd) sts res era usd sp lv ret out ycls prp lst siz dnd (tk) (tv) opd yrk rn op nm ay prt ylo yhi sN sP sX sK it vr := by
  obtain ⟨u', rfl⟩ : ∃ u', u = u' + 1 := ⟨u - 1, by omega⟩
  rw [Nat.add_sub_cancel] at hp h
  obtain ⟨e1, e2, e3⟩ := cs_tkl hn hK (l := u') (by omega)
  refine br_t (nI_le (Nat.le_refl _) (by omega)) (cs_122 hn hK (by omega) (fun z => absurd z ht) (fun _ => ?_))
  refine br_t rfl (br_t rfl ?_)
  rw [nI_pred, e1]
  refine ⟨e3, ?_⟩
  have k206 : wY_split_201 post (nI K) (nI l) (nI (u' + 1)) 0 0 ob (nI n) pl (nI nd) sts res era usd sp lv ret out ycls prp lst siz dnd (tk) (tv) opd yrk rn op nm ay prt ylo yhi sN sP sX sK it vr := by
    refine nm_r (nI_pred u') ⟨e3, nm_r (e' := nI (T u')) e1 (br_f ?_ h)⟩
    exact fun z => absurd ((nI_eq (b := 16) (by omega) (by decide)).1 z) (by omega)
  rcases hp with hp | hp
  · rw [hp]
    exact br_t rfl (br_t rfl (br_t rfl (br_t rfl (br_t rfl (br_t rfl k206)))))
  · rw [hp]
    exact br_t rfl (br_t rfl (br_f (by decide) (br_t rfl (br_t rfl (br_t rfl (br_f (by decide) (br_t rfl k206)))))))
theorem cs_rl (hn : n ≤ 40) (hK : ∀ i, i < n → tk i = nI (T i) ∧ T i < 23) {post : SY → Prop} {l u : Nat} (hl : l < u) (hu : u ≤ n) (ht : ¬ (T l = 16 ∨ T l = 12)) (hp : ¬ (T (u - 1) = 1 ∨ T (u - 1) = 2)) (h : wY_split_239 post (nI K) (nI l) (nI u) (nI l) 0 0 (nI (T l)) (nI (T l)) (nI K) ob (nI n) pl (nI nd) sts res era usd sp lv ret out ycls prp lst siz dnd (tk) (tv) opd yrk rn op nm ay prt ylo yhi sN sP sX sK it vr) : wY_split_82 post (nI K) (nI l) (nI u) (nI l) ob (nI n) pl (nI nd) sts res era usd sp lv ret out ycls prp lst siz dnd (tk) (tv) opd yrk rn op nm ay prt ylo yhi sN sP sX sK it vr := by
  obtain ⟨u', rfl⟩ : ∃ u', u = u' + 1 := ⟨u - 1, by omega⟩
  rw [Nat.add_sub_cancel] at hp
  obtain ⟨e1, e2, e3⟩ := cs_tkl hn hK (l := u') (by omega)
  obtain ⟨f1, f2, f3⟩ := cs_tkl hn hK (l := l) (by omega)
  refine br_t (nI_le (Nat.le_refl _) (by omega)) (cs_122 hn hK (by omega) (fun z => absurd z ht) (fun _ => ?_))
  refine br_t rfl (br_t rfl ?_)
  rw [nI_pred, e1]
  have n1 : ¬ nI (T u') = 1 := fun z => absurd ((nI_eq (b := 1) (by have := (hK u' (by omega)).2; omega) (by decide)).1 z) (by omega)
  have n2 : ¬ nI (T u') = 2 := fun z => absurd ((nI_eq (b := 2) (by have := (hK u' (by omega)).2; omega) (by decide)).1 z) (by omega)
  refine ⟨e3, br_t rfl (br_t rfl (br_f n1 (br_f n2 (br_t rfl (br_t rfl (br_f n1 (br_f n2 ⟨f3, nm_r (e' := nI (T l)) f1 (br_f ?_ h)⟩)))))))⟩
  exact fun z => absurd ((nI_eq (b := 16) (by have := (hK l (by omega)).2; omega) (by decide)).1 z) (by omega)
theorem cs_ns (hn : n ≤ 40) (hK : ∀ i, i < n → tk i = nI (T i) ∧ T i < 23) {post : SY → Prop} {l u c j m : Nat} (hl : l < u) (hu : u ≤ n) (hc : c < 40) (hj : j < 40) (hs : ¬ (c = l ∧ T l = 6 ∧ T (u - 1) = 7)) (h : wY_split_82 post (nI K) (nI l) (nI u) (nI c) ob (nI n) pl (nI nd) sts res era usd sp lv ret out ycls prp lst siz dnd (tk) (tv) opd yrk rn op nm ay prt ylo yhi sN sP sX sK it vr) : wY_split_25 post (nI K) ob (nI n) pl (nI nd) sts res era usd sp lv ret out ycls prp lst siz dnd (tk) (tv) opd yrk rn op nm ay prt ylo yhi sN sP sX sK it vr (m + 1) (nI l) (nI u) (nI c) (nI j) := by
  obtain ⟨u', rfl⟩ : ∃ u', u = u' + 1 := ⟨u - 1, by omega⟩
  rw [Nat.add_sub_cancel] at hs
  obtain ⟨e1, e2, e3⟩ := cs_tkl hn hK (l := u') (by omega)
  obtain ⟨f1, f2, f3⟩ := cs_tkl hn hK (l := l) (by omega)
  refine br_f (nI_ge (b := 40) hj (by decide)) ?_
  by_cases cl : c = l
  · refine br_t (by rw [cl]) ⟨f3, ?_⟩
    by_cases t6 : T l = 6
    · refine br_t (by rw [f1, t6]; rfl) ?_
      rw [nI_pred]
      exact ⟨e3, br_f (e2 7 (fun z => hs ⟨cl, t6, z⟩) (by decide)) h⟩
    · exact br_f (f2 6 t6 (by decide)) h
  · exact br_f (fun z => cl ((nI_eq (by omega) (by omega)).1 z)) h
theorem cs_main (hn : n ≤ 40) (hK : ∀ i, i < n → tk i = nI (T i) ∧ T i < 23) (hA : ca_S T n = some (1, [])) (hK280 : K < 280) : ∀ (f l u c j : Nat), u - l ≤ f + 1 → ca_V T n l u → ca_cut T l u c → 2 * j + (u - l) ≤ 42 → nd + (u - l) ≤ 281 → ∃ (t v : Int32) (p : Nat) (ch : List (Nat × Nat)), cs_L T tv n (f + 1) l u t v p ch ∧ ch.length + 1 ≤ u - l ∧ ∀ post : SY → Prop, post (ob, nI n, pl, nI (nd + ch.length), sts, res, era, usd, sp, lv, ret, out, ycls, prp, lst, siz, dnd, tk, tv, opd, yrk, rn, upd op K t, upd nm K v, upd ay K (nI p), cs_ups prt (K * 3) (cs_ids nd ch.length), cs_ups ylo nd (ch.map (fun c => nI c.1)), cs_ups yhi nd (ch.map (fun c => nI c.2)), sN, sP, sX, sK, it, vr) → ∃ m, wY_split_25 post (nI K) ob (nI n) pl (nI nd) sts res era usd sp lv ret out ycls prp lst siz dnd (tk) (tv) opd yrk rn op nm ay prt ylo yhi sN sP sX sK it vr m (nI l) (nI u) (nI c) (nI j) := by
  intro f
  induction f with
  | zero =>
    intro l u c j hf hV hcut hj hnd
    obtain ⟨v1, v2, v3, v4, v5, v6⟩ := id hV
    have lenne : ∀ x, ¬ ∃ E, ca_Z T u = E ++ x :: ca_Z T l := fun x ⟨E, z⟩ => ca_lenne (v5.symm.trans z)
    have hTl : T l < 23 := (hK l (by omega)).2
    rcases hcut with ⟨c1, c2, c3, c4, c5⟩ | ⟨c1, c2, c3, c4, c5⟩ | ⟨c1, c2⟩
    · -- a choice
      obtain ⟨m, m1, m2, m3, m4, m5, m6, m7, m8, m9, m10⟩ := ca_cutif hA hV c1 c2 c4 c3 c5
      refine ⟨8, tv c, c, [(l, c), (c + 1, m), (m + 1, u)], ⟨hV, Or.inr (Or.inr (Or.inr (Or.inr (Or.inr (Or.inr (Or.inr ⟨c, m, c3, m3, c1, m1, m2, c4, c5, m8, m7, m9, rfl, rfl, rfl, rfl, m4, m5, m6⟩))))))⟩, by show 3 + 1 ≤ u - l; omega, fun post hp => ⟨1, cs_ns hn hK v1 v2 (by omega) (by omega) (by omega) (cs_r2 hn hK c1 (by omega) (fun s2 => ?_))⟩⟩
      rw [c3]
      exact cs_if hK280 (by omega) hn hK hA m5.2.2.1 m7 (fun i a b => by obtain ⟨E, hE⟩ := m5.2.2.2.2.2 i a b; exact ⟨E, by rw [hE, m7]⟩) (by omega) (by omega) m8 m10 m3 rfl (by omega) hp
    · -- an operator between two sides
      obtain ⟨d1, d2, d3, d4⟩ := ca_cutop hA hV c2 c3 c4.2.1 c4.1 ⟨c4.2.2.1, c4.2.2.2.1⟩ c1
      have := d2.1
      refine ⟨nI (T c), tv c, c, [(l, c), (c + 1, u)], ⟨hV, Or.inr (Or.inr (Or.inr (Or.inr (Or.inr (Or.inr (Or.inl ⟨c, c2, c3, c1, c4, c5, rfl, rfl, rfl, rfl, d1, d2, d3⟩))))))⟩, by show 2 + 1 ≤ u - l; omega, fun post hp => ⟨1, cs_ns hn hK v1 v2 (by omega) (by omega) (by omega) (cs_r2 hn hK c2 (by omega) (fun s2 => ?_))⟩⟩
      exact cs_two hK280 (by omega) (fun z => absurd ((nI_eq (b := 8) (by have := (hK c (by omega)).2; omega) (by decide)).1 z) (by have := c4.2.2; omega)) (by omega) hp
    · -- no operator of this level
      subst c1
      have post : (¬ (T c = 16 ∨ T c = 12)) → (T (u - 1) = 1 ∨ T (u - 1) = 2) → c + 1 < u → ca_V T n c (u - 1) → ∃ (t v : Int32) (p : Nat) (ch : List (Nat × Nat)), cs_L T tv n (0 + 1) c u t v p ch ∧ ch.length + 1 ≤ u - c ∧ ∀ post : SY → Prop, post (ob, nI n, pl, nI (nd + ch.length), sts, res, era, usd, sp, lv, ret, out, ycls, prp, lst, siz, dnd, tk, tv, opd, yrk, rn, upd op K t, upd nm K v, upd ay K (nI p), cs_ups prt (K * 3) (cs_ids nd ch.length), cs_ups ylo nd (ch.map (fun c => nI c.1)), cs_ups yhi nd (ch.map (fun c => nI c.2)), sN, sP, sX, sK, it, vr) → ∃ m, wY_split_25 post (nI K) ob (nI n) pl (nI nd) sts res era usd sp lv ret out ycls prp lst siz dnd (tk) (tv) opd yrk rn op nm ay prt ylo yhi sN sP sX sK it vr m (nI c) (nI u) (nI c) (nI j) := by
        intro t1 t2 t3 t4
        refine ⟨nI (T (u - 1)), tv (u - 1), u - 1, [(c, u - 1)], ⟨hV, Or.inr (Or.inr (Or.inl ⟨t2, t3, c2, rfl, rfl, rfl, rfl, t4, by omega, by omega⟩))⟩, by show 1 + 1 ≤ u - c; omega, fun post hp => ⟨1, cs_ns hn hK v1 v2 (by omega) (by omega) (by omega) (cs_rp hn hK v1 v2 t1 t2 ?_)⟩⟩
        have tt : nI (T (u - 1)) = 1 ∨ nI (T (u - 1)) = 2 := by
          rcases t2 with z | z
          · exact Or.inl (by rw [z]; rfl)
          · exact Or.inr (by rw [z]; rfl)
        exact cs_post hK280 (by omega) tt (by omega) hp
      have rest : ∀ {i : Nat}, (¬ (T c = 16 ∨ T c = 12)) → c < i → i ≤ u → ca_W T i = 1 → ca_Z T i = ca_Z T c → (i = u → ∃ (t v : Int32) (p : Nat) (ch : List (Nat × Nat)), cs_L T tv n (0 + 1) c u t v p ch ∧ ch.length + 1 ≤ u - c ∧ ∀ post : SY → Prop, post (ob, nI n, pl, nI (nd + ch.length), sts, res, era, usd, sp, lv, ret, out, ycls, prp, lst, siz, dnd, tk, tv, opd, yrk, rn, upd op K t, upd nm K v, upd ay K (nI p), cs_ups prt (K * 3) (cs_ids nd ch.length), cs_ups ylo nd (ch.map (fun c => nI c.1)), cs_ups yhi nd (ch.map (fun c => nI c.2)), sN, sP, sX, sK, it, vr) → ∃ m, wY_split_25 post (nI K) ob (nI n) pl (nI nd) sts res era usd sp lv ret out ycls prp lst siz dnd (tk) (tv) opd yrk rn op nm ay prt ylo yhi sN sP sX sK it vr m (nI c) (nI u) (nI c) (nI j)) → ∃ (t v : Int32) (p : Nat) (ch : List (Nat × Nat)), cs_L T tv n (0 + 1) c u t v p ch ∧ ch.length + 1 ≤ u - c ∧ ∀ post : SY → Prop, post (ob, nI n, pl, nI (nd + ch.length), sts, res, era, usd, sp, lv, ret, out, ycls, prp, lst, siz, dnd, tk, tv, opd, yrk, rn, upd op K t, upd nm K v, upd ay K (nI p), cs_ups prt (K * 3) (cs_ids nd ch.length), cs_ups ylo nd (ch.map (fun c => nI c.1)), cs_ups yhi nd (ch.map (fun c => nI c.2)), sN, sP, sX, sK, it, vr) → ∃ m, wY_split_25 post (nI K) ob (nI n) pl (nI nd) sts res era usd sp lv ret out ycls prp lst siz dnd (tk) (tv) opd yrk rn op nm ay prt ylo yhi sN sP sX sK it vr m (nI c) (nI u) (nI c) (nI j) := by
        intro i t1 i1 i2 i3 i4 H
        rcases ca_prim hA hV c2 i1 i2 i3 i4 with z | ⟨z1, z2, z3⟩
        · exact H z
        · exact post t1 z1 z2 z3
      rcases ca_rule hA (i := c) (by omega) with ⟨w, _⟩ | ⟨w, t, w', z⟩ | ⟨w, t, w', z⟩ | ⟨w, t, w', z⟩ | ⟨w, t, w', z⟩ | ⟨w, _⟩ | ⟨w, _⟩ | ⟨w, _⟩ | ⟨w, _⟩ | ⟨w, _⟩ | ⟨w, _⟩
      · omega
      · -- a leaf
        refine rest (i := c + 1) (by omega) (by omega) (by omega) w' z (fun y => ?_)
        have u1 : u - 1 = c := by omega
        refine ⟨nI (T c), tv c, c, [], ⟨hV, Or.inr (Or.inl ⟨by omega, t, rfl, rfl, rfl, rfl⟩)⟩, by show 0 + 1 ≤ u - c; omega, fun post hp => ⟨1, cs_ns hn hK v1 v2 (by omega) (by omega) (by omega) (cs_rl hn hK v1 v2 (by omega) (by rw [u1]; omega) ?_)⟩⟩
        refine cs_leaf hK280 (by omega) ?_ hp
        rcases t with t | t | t | t <;> rw [t]
        · exact Or.inl rfl
        · exact Or.inr (Or.inl rfl)
        · exact Or.inr (Or.inr (Or.inl rfl))
        · exact Or.inr (Or.inr (Or.inr rfl))
      · -- one side alone
        have cu : c + 1 ≠ u := by intro y; rw [y] at w'; omega
        have hV' : ca_V T n (c + 1) u := ⟨by omega, v2, w', v4, v5.trans z.symm, fun i a b => by rw [z]; exact v6 i (by omega) b⟩
        refine ⟨if T c = 16 then 23 else 12, tv c, c, [(c + 1, u)], ⟨hV, Or.inr (Or.inr (Or.inr (Or.inr (Or.inr (Or.inl ⟨?_, c2, rfl, rfl, rfl, hV', z⟩)))))⟩, by show 1 + 1 ≤ u - c; omega, fun post hp => ⟨1, cs_ns hn hK v1 v2 (by omega) (by omega) (by omega) (cs_rs hn hK (by omega) (by omega) ?_)⟩⟩
        · rcases t with t | t
          · exact Or.inl ⟨t, if_neg (by omega)⟩
          · exact Or.inr ⟨t, if_pos t⟩
        · exact cs_side hK280 (by omega) (fun y => absurd ((nI_eq (b := 8) (by omega) (by decide)).1 y) (by omega)) (by omega) hp
      · -- a bracket
        obtain ⟨m, m1, m2, m3, m4, m5, m6⟩ := ca_life hA (a := c + 1) (H := u) v2 z (lenne _) (by omega)
        have m7 : T m = 7 ∧ ca_Z T (m + 1) = ca_Z T c ∧ ca_W T (m + 1) = 1 := by
          rcases m6 with ⟨a, b, c', d⟩ | ⟨a, b, c', d⟩ | ⟨a, b, c', d⟩
          · exact absurd b (by show ¬ T c = 8; omega)
          · exact absurd b (by show ¬ 20 ≤ T c; omega)
          · exact ⟨a, c', d⟩
        have cm : c + 1 ≠ m := by intro y; rw [y] at w'; omega
        refine rest (i := m + 1) (by omega) (by omega) (by omega) m7.2.2 m7.2.1 (fun y => ?_)
        have um : u - 1 = m := by omega
        omega
      · rcases t with t | t
        · -- a call
          obtain ⟨p1, p2, p3, p4, p5, p6⟩ := ca_head hA (q := c) (by omega) (Or.inl t)
          obtain ⟨m, m1, m2, m3, m4, m5, m6⟩ := ca_life hA (a := c + 1) (H := u) v2 z (lenne _) (by omega)
          have m7 : T m = 7 ∧ ca_Z T (m + 1) = ca_Z T c ∧ ca_W T (m + 1) = 1 := by
            rcases m6 with ⟨a, b, c', d⟩ | ⟨a, b, c', d⟩ | ⟨a, b, c', d⟩
            · exact absurd b (by show ¬ T c = 8; omega)
            · exact absurd b (by show ¬ 20 ≤ T c; omega)
            · exact ⟨a, c', d⟩
          have cm : c + 1 ≠ m := by intro y; rw [y] at w'; omega
          have cm2 : c + 2 ≠ m := by intro y; rw [y] at p5; omega
          refine rest (i := m + 1) (by omega) (by omega) (by omega) m7.2.2 m7.2.1 (fun y => ?_)
          have um : u - 1 = m := by omega
          have hV' : ca_V T n (c + 2) (u - 1) := by
            rw [um]
            exact ⟨by omega, by omega, p5, m5, m3.trans p6.symm, fun i a b => by rw [p6]; exact m4 i (by omega) b⟩
          refine ⟨5, tv c, c, [(c + 2, u - 1)], ⟨hV, Or.inr (Or.inr (Or.inr (Or.inl ⟨t, p4, by rw [um]; exact m7.1, by rw [um]; exact m3, p6, rfl, rfl, rfl, rfl, hV'⟩)))⟩, by show 1 + 1 ≤ u - c; omega, fun post hp => ⟨1, cs_ns hn hK v1 v2 (by omega) (by omega) (by omega) (cs_rl hn hK v1 v2 (by omega) (by rw [um]; omega) ?_)⟩⟩
          rw [t]
          exact cs_call hK280 (by omega) rfl (by omega) (by omega) hp
        · -- a quantifier
          obtain ⟨p1, p2, p3, p4, p5, p6⟩ := ca_head hA (q := c) (by omega) (Or.inr t)
          obtain ⟨m, m1, m2, m3, m4, m5, m6⟩ := ca_life hA (a := c + 1) (H := u) v2 z (lenne _) (by omega)
          have m7 : T m = 9 ∧ ca_Z T (m + 1) = (m, c) :: ca_Z T c ∧ ca_W T (m + 1) = 0 := by
            rcases m6 with ⟨a, b, c', d⟩ | ⟨a, b, c', d⟩ | ⟨a, b, c', d⟩
            · exact absurd b (by show ¬ T c = 8; omega)
            · exact ⟨a, c', d⟩
            · exact absurd b (by show ¬ (T c = 9 ∨ T c = 6 ∨ T c = 5); omega)
          obtain ⟨e, e1, e2, e3, e4, e5, e6⟩ := ca_life hA (a := m + 1) (H := u) v2 m7.2.1 (lenne _) (by omega)
          have e7 : T e = 7 ∧ ca_Z T (e + 1) = ca_Z T c ∧ ca_W T (e + 1) = 1 := by
            rcases e6 with ⟨a, b, c', d⟩ | ⟨a, b, c', d⟩ | ⟨a, b, c', d⟩
            · exact absurd b (by show ¬ T m = 8; omega)
            · exact absurd b (by show ¬ 20 ≤ T m; omega)
            · exact ⟨a, c', d⟩
          have cm : c + 1 ≠ m := by intro y; rw [y] at w'; omega
          have cm2 : c + 2 ≠ m := by intro y; rw [y] at p5; omega
          have em : m + 1 ≠ e := by intro y; rw [y] at m7; omega
          refine rest (i := e + 1) (by omega) (by omega) (by omega) e7.2.2 e7.2.1 (fun y => ?_)
          have um : u - 1 = e := by omega
          have hV1 : ca_V T n (c + 2) m := ⟨by omega, by omega, p5, m5, m3.trans p6.symm, fun i a b => by rw [p6]; exact m4 i (by omega) b⟩
          have hV2 : ca_V T n (m + 1) (u - 1) := by
            rw [um]
            exact ⟨by omega, by omega, m7.2.2, e5, e3.trans m7.2.1.symm, fun i a b => by rw [m7.2.1]; exact e4 i a b⟩
          refine ⟨nI (T c), tv c, c, [(c + 2, m), (m + 1, u - 1)], ⟨hV, Or.inr (Or.inr (Or.inr (Or.inr (Or.inl ⟨m, t, p4, m7.1, by rw [um]; exact e7.1, m3, p6, m7.2.1, by rw [um]; exact e3, rfl, rfl, rfl, rfl, hV1, hV2⟩))))⟩, by show 2 + 1 ≤ u - c; omega, fun post hp => ⟨1, cs_ns hn hK v1 v2 (by omega) (by omega) (by omega) (cs_rl hn hK v1 v2 (by omega) (by rw [um]; omega) ?_)⟩⟩
          refine cs_qnt hK280 (by omega) hn hK hA p5 p6 (fun i a b => m4 i (by omega) b) (by omega) (by omega) m3 m5 m7.1 ?_ (by omega) (by omega) hp
          have t3 : T c = 20 ∨ T c = 21 ∨ T c = 22 := by omega
          rcases t3 with t3 | t3 | t3 <;> rw [t3]
          · exact Or.inl rfl
          · exact Or.inr (Or.inl rfl)
          · exact Or.inr (Or.inr rfl)
      all_goals omega
  | succ f ih =>
    intro l u c j hf hV hcut hj hnd
    obtain ⟨v1, v2, v3, v4, v5, v6⟩ := id hV
    have lenne : ∀ x, ¬ ∃ E, ca_Z T u = E ++ x :: ca_Z T l := fun x ⟨E, z⟩ => ca_lenne (v5.symm.trans z)
    have hTl : T l < 23 := (hK l (by omega)).2
    rcases hcut with ⟨c1, c2, c3, c4, c5⟩ | ⟨c1, c2, c3, c4, c5⟩ | ⟨c1, c2⟩
    · -- a choice
      obtain ⟨m, m1, m2, m3, m4, m5, m6, m7, m8, m9, m10⟩ := ca_cutif hA hV c1 c2 c4 c3 c5
      refine ⟨8, tv c, c, [(l, c), (c + 1, m), (m + 1, u)], ⟨hV, Or.inr (Or.inr (Or.inr (Or.inr (Or.inr (Or.inr (Or.inr ⟨c, m, c3, m3, c1, m1, m2, c4, c5, m8, m7, m9, rfl, rfl, rfl, rfl, m4, m5, m6⟩))))))⟩, by show 3 + 1 ≤ u - l; omega, fun post hp => ⟨1, cs_ns hn hK v1 v2 (by omega) (by omega) (by omega) (cs_r2 hn hK c1 (by omega) (fun s2 => ?_))⟩⟩
      rw [c3]
      exact cs_if hK280 (by omega) hn hK hA m5.2.2.1 m7 (fun i a b => by obtain ⟨E, hE⟩ := m5.2.2.2.2.2 i a b; exact ⟨E, by rw [hE, m7]⟩) (by omega) (by omega) m8 m10 m3 rfl (by omega) hp
    · -- an operator between two sides
      obtain ⟨d1, d2, d3, d4⟩ := ca_cutop hA hV c2 c3 c4.2.1 c4.1 ⟨c4.2.2.1, c4.2.2.2.1⟩ c1
      have := d2.1
      refine ⟨nI (T c), tv c, c, [(l, c), (c + 1, u)], ⟨hV, Or.inr (Or.inr (Or.inr (Or.inr (Or.inr (Or.inr (Or.inl ⟨c, c2, c3, c1, c4, c5, rfl, rfl, rfl, rfl, d1, d2, d3⟩))))))⟩, by show 2 + 1 ≤ u - l; omega, fun post hp => ⟨1, cs_ns hn hK v1 v2 (by omega) (by omega) (by omega) (cs_r2 hn hK c2 (by omega) (fun s2 => ?_))⟩⟩
      exact cs_two hK280 (by omega) (fun z => absurd ((nI_eq (b := 8) (by have := (hK c (by omega)).2; omega) (by decide)).1 z) (by have := c4.2.2; omega)) (by omega) hp
    · -- no operator of this level
      subst c1
      have post : (¬ (T c = 16 ∨ T c = 12)) → (T (u - 1) = 1 ∨ T (u - 1) = 2) → c + 1 < u → ca_V T n c (u - 1) → ∃ (t v : Int32) (p : Nat) (ch : List (Nat × Nat)), cs_L T tv n (f + 1 + 1) c u t v p ch ∧ ch.length + 1 ≤ u - c ∧ ∀ post : SY → Prop, post (ob, nI n, pl, nI (nd + ch.length), sts, res, era, usd, sp, lv, ret, out, ycls, prp, lst, siz, dnd, tk, tv, opd, yrk, rn, upd op K t, upd nm K v, upd ay K (nI p), cs_ups prt (K * 3) (cs_ids nd ch.length), cs_ups ylo nd (ch.map (fun c => nI c.1)), cs_ups yhi nd (ch.map (fun c => nI c.2)), sN, sP, sX, sK, it, vr) → ∃ m, wY_split_25 post (nI K) ob (nI n) pl (nI nd) sts res era usd sp lv ret out ycls prp lst siz dnd (tk) (tv) opd yrk rn op nm ay prt ylo yhi sN sP sX sK it vr m (nI c) (nI u) (nI c) (nI j) := by
        intro t1 t2 t3 t4
        refine ⟨nI (T (u - 1)), tv (u - 1), u - 1, [(c, u - 1)], ⟨hV, Or.inr (Or.inr (Or.inl ⟨t2, t3, c2, rfl, rfl, rfl, rfl, t4, by omega, by omega⟩))⟩, by show 1 + 1 ≤ u - c; omega, fun post hp => ⟨1, cs_ns hn hK v1 v2 (by omega) (by omega) (by omega) (cs_rp hn hK v1 v2 t1 t2 ?_)⟩⟩
        have tt : nI (T (u - 1)) = 1 ∨ nI (T (u - 1)) = 2 := by
          rcases t2 with z | z
          · exact Or.inl (by rw [z]; rfl)
          · exact Or.inr (by rw [z]; rfl)
        exact cs_post hK280 (by omega) tt (by omega) hp
      have rest : ∀ {i : Nat}, (¬ (T c = 16 ∨ T c = 12)) → c < i → i ≤ u → ca_W T i = 1 → ca_Z T i = ca_Z T c → (i = u → ∃ (t v : Int32) (p : Nat) (ch : List (Nat × Nat)), cs_L T tv n (f + 1 + 1) c u t v p ch ∧ ch.length + 1 ≤ u - c ∧ ∀ post : SY → Prop, post (ob, nI n, pl, nI (nd + ch.length), sts, res, era, usd, sp, lv, ret, out, ycls, prp, lst, siz, dnd, tk, tv, opd, yrk, rn, upd op K t, upd nm K v, upd ay K (nI p), cs_ups prt (K * 3) (cs_ids nd ch.length), cs_ups ylo nd (ch.map (fun c => nI c.1)), cs_ups yhi nd (ch.map (fun c => nI c.2)), sN, sP, sX, sK, it, vr) → ∃ m, wY_split_25 post (nI K) ob (nI n) pl (nI nd) sts res era usd sp lv ret out ycls prp lst siz dnd (tk) (tv) opd yrk rn op nm ay prt ylo yhi sN sP sX sK it vr m (nI c) (nI u) (nI c) (nI j)) → ∃ (t v : Int32) (p : Nat) (ch : List (Nat × Nat)), cs_L T tv n (f + 1 + 1) c u t v p ch ∧ ch.length + 1 ≤ u - c ∧ ∀ post : SY → Prop, post (ob, nI n, pl, nI (nd + ch.length), sts, res, era, usd, sp, lv, ret, out, ycls, prp, lst, siz, dnd, tk, tv, opd, yrk, rn, upd op K t, upd nm K v, upd ay K (nI p), cs_ups prt (K * 3) (cs_ids nd ch.length), cs_ups ylo nd (ch.map (fun c => nI c.1)), cs_ups yhi nd (ch.map (fun c => nI c.2)), sN, sP, sX, sK, it, vr) → ∃ m, wY_split_25 post (nI K) ob (nI n) pl (nI nd) sts res era usd sp lv ret out ycls prp lst siz dnd (tk) (tv) opd yrk rn op nm ay prt ylo yhi sN sP sX sK it vr m (nI c) (nI u) (nI c) (nI j) := by
        intro i t1 i1 i2 i3 i4 H
        rcases ca_prim hA hV c2 i1 i2 i3 i4 with z | ⟨z1, z2, z3⟩
        · exact H z
        · exact post t1 z1 z2 z3
      rcases ca_rule hA (i := c) (by omega) with ⟨w, _⟩ | ⟨w, t, w', z⟩ | ⟨w, t, w', z⟩ | ⟨w, t, w', z⟩ | ⟨w, t, w', z⟩ | ⟨w, _⟩ | ⟨w, _⟩ | ⟨w, _⟩ | ⟨w, _⟩ | ⟨w, _⟩ | ⟨w, _⟩
      · omega
      · -- a leaf
        refine rest (i := c + 1) (by omega) (by omega) (by omega) w' z (fun y => ?_)
        have u1 : u - 1 = c := by omega
        refine ⟨nI (T c), tv c, c, [], ⟨hV, Or.inr (Or.inl ⟨by omega, t, rfl, rfl, rfl, rfl⟩)⟩, by show 0 + 1 ≤ u - c; omega, fun post hp => ⟨1, cs_ns hn hK v1 v2 (by omega) (by omega) (by omega) (cs_rl hn hK v1 v2 (by omega) (by rw [u1]; omega) ?_)⟩⟩
        refine cs_leaf hK280 (by omega) ?_ hp
        rcases t with t | t | t | t <;> rw [t]
        · exact Or.inl rfl
        · exact Or.inr (Or.inl rfl)
        · exact Or.inr (Or.inr (Or.inl rfl))
        · exact Or.inr (Or.inr (Or.inr rfl))
      · -- one side alone
        have cu : c + 1 ≠ u := by intro y; rw [y] at w'; omega
        have hV' : ca_V T n (c + 1) u := ⟨by omega, v2, w', v4, v5.trans z.symm, fun i a b => by rw [z]; exact v6 i (by omega) b⟩
        refine ⟨if T c = 16 then 23 else 12, tv c, c, [(c + 1, u)], ⟨hV, Or.inr (Or.inr (Or.inr (Or.inr (Or.inr (Or.inl ⟨?_, c2, rfl, rfl, rfl, hV', z⟩)))))⟩, by show 1 + 1 ≤ u - c; omega, fun post hp => ⟨1, cs_ns hn hK v1 v2 (by omega) (by omega) (by omega) (cs_rs hn hK (by omega) (by omega) ?_)⟩⟩
        · rcases t with t | t
          · exact Or.inl ⟨t, if_neg (by omega)⟩
          · exact Or.inr ⟨t, if_pos t⟩
        · exact cs_side hK280 (by omega) (fun y => absurd ((nI_eq (b := 8) (by omega) (by decide)).1 y) (by omega)) (by omega) hp
      · -- a bracket
        obtain ⟨m, m1, m2, m3, m4, m5, m6⟩ := ca_life hA (a := c + 1) (H := u) v2 z (lenne _) (by omega)
        have m7 : T m = 7 ∧ ca_Z T (m + 1) = ca_Z T c ∧ ca_W T (m + 1) = 1 := by
          rcases m6 with ⟨a, b, c', d⟩ | ⟨a, b, c', d⟩ | ⟨a, b, c', d⟩
          · exact absurd b (by show ¬ T c = 8; omega)
          · exact absurd b (by show ¬ 20 ≤ T c; omega)
          · exact ⟨a, c', d⟩
        have cm : c + 1 ≠ m := by intro y; rw [y] at w'; omega
        refine rest (i := m + 1) (by omega) (by omega) (by omega) m7.2.2 m7.2.1 (fun y => ?_)
        have um : u - 1 = m := by omega
        have hV' : ca_V T n (c + 1) (u - 1) := by
          rw [um]
          exact ⟨by omega, by omega, w', m5, m3.trans z.symm, fun i a b => by rw [z]; exact m4 i a b⟩
        obtain ⟨c', hc', HC⟩ := cy_cut hn hK hA hV'
        obtain ⟨t', v', p', ch', L1, L2, L3⟩ := ih (c + 1) (u - 1) c' (j + 1) (by omega) hV' hc' (by omega) (by omega)
        refine ⟨t', v', p', ch', ⟨hV, Or.inl ⟨t, by rw [um]; exact m7.1, by rw [um]; exact m3, z, L1⟩⟩, by omega, fun post hp => ?_⟩
        obtain ⟨mm, hmm⟩ := L3 post hp
        obtain ⟨u', rfl⟩ : ∃ u', u = u' + 1 := ⟨u - 1, by omega⟩
        rw [Nat.add_sub_cancel] at um hmm HC
        obtain ⟨q1, q2, q3⟩ := cs_tkl hn hK (l := u') (by omega)
        obtain ⟨f1, f2, f3⟩ := cs_tkl hn hK (l := c) (by omega)
        refine ⟨mm + 1, br_f (nI_ge (b := 40) (by omega) (by decide)) (br_t rfl ⟨f3, br_t (by rw [f1, t]; rfl) ?_⟩)⟩
        rw [nI_pred]
        refine ⟨q3, br_t (by rw [q1, um, m7.1]; rfl) (nm_r (nI_1 c) (nm_r (pk_m1 u') (HC _ (nm_r (nI_1 j) hmm))))⟩
      · rcases t with t | t
        · -- a call
          obtain ⟨p1, p2, p3, p4, p5, p6⟩ := ca_head hA (q := c) (by omega) (Or.inl t)
          obtain ⟨m, m1, m2, m3, m4, m5, m6⟩ := ca_life hA (a := c + 1) (H := u) v2 z (lenne _) (by omega)
          have m7 : T m = 7 ∧ ca_Z T (m + 1) = ca_Z T c ∧ ca_W T (m + 1) = 1 := by
            rcases m6 with ⟨a, b, c', d⟩ | ⟨a, b, c', d⟩ | ⟨a, b, c', d⟩
            · exact absurd b (by show ¬ T c = 8; omega)
            · exact absurd b (by show ¬ 20 ≤ T c; omega)
            · exact ⟨a, c', d⟩
          have cm : c + 1 ≠ m := by intro y; rw [y] at w'; omega
          have cm2 : c + 2 ≠ m := by intro y; rw [y] at p5; omega
          refine rest (i := m + 1) (by omega) (by omega) (by omega) m7.2.2 m7.2.1 (fun y => ?_)
          have um : u - 1 = m := by omega
          have hV' : ca_V T n (c + 2) (u - 1) := by
            rw [um]
            exact ⟨by omega, by omega, p5, m5, m3.trans p6.symm, fun i a b => by rw [p6]; exact m4 i (by omega) b⟩
          refine ⟨5, tv c, c, [(c + 2, u - 1)], ⟨hV, Or.inr (Or.inr (Or.inr (Or.inl ⟨t, p4, by rw [um]; exact m7.1, by rw [um]; exact m3, p6, rfl, rfl, rfl, rfl, hV'⟩)))⟩, by show 1 + 1 ≤ u - c; omega, fun post hp => ⟨1, cs_ns hn hK v1 v2 (by omega) (by omega) (by omega) (cs_rl hn hK v1 v2 (by omega) (by rw [um]; omega) ?_)⟩⟩
          rw [t]
          exact cs_call hK280 (by omega) rfl (by omega) (by omega) hp
        · -- a quantifier
          obtain ⟨p1, p2, p3, p4, p5, p6⟩ := ca_head hA (q := c) (by omega) (Or.inr t)
          obtain ⟨m, m1, m2, m3, m4, m5, m6⟩ := ca_life hA (a := c + 1) (H := u) v2 z (lenne _) (by omega)
          have m7 : T m = 9 ∧ ca_Z T (m + 1) = (m, c) :: ca_Z T c ∧ ca_W T (m + 1) = 0 := by
            rcases m6 with ⟨a, b, c', d⟩ | ⟨a, b, c', d⟩ | ⟨a, b, c', d⟩
            · exact absurd b (by show ¬ T c = 8; omega)
            · exact ⟨a, c', d⟩
            · exact absurd b (by show ¬ (T c = 9 ∨ T c = 6 ∨ T c = 5); omega)
          obtain ⟨e, e1, e2, e3, e4, e5, e6⟩ := ca_life hA (a := m + 1) (H := u) v2 m7.2.1 (lenne _) (by omega)
          have e7 : T e = 7 ∧ ca_Z T (e + 1) = ca_Z T c ∧ ca_W T (e + 1) = 1 := by
            rcases e6 with ⟨a, b, c', d⟩ | ⟨a, b, c', d⟩ | ⟨a, b, c', d⟩
            · exact absurd b (by show ¬ T m = 8; omega)
            · exact absurd b (by show ¬ 20 ≤ T m; omega)
            · exact ⟨a, c', d⟩
          have cm : c + 1 ≠ m := by intro y; rw [y] at w'; omega
          have cm2 : c + 2 ≠ m := by intro y; rw [y] at p5; omega
          have em : m + 1 ≠ e := by intro y; rw [y] at m7; omega
          refine rest (i := e + 1) (by omega) (by omega) (by omega) e7.2.2 e7.2.1 (fun y => ?_)
          have um : u - 1 = e := by omega
          have hV1 : ca_V T n (c + 2) m := ⟨by omega, by omega, p5, m5, m3.trans p6.symm, fun i a b => by rw [p6]; exact m4 i (by omega) b⟩
          have hV2 : ca_V T n (m + 1) (u - 1) := by
            rw [um]
            exact ⟨by omega, by omega, m7.2.2, e5, e3.trans m7.2.1.symm, fun i a b => by rw [m7.2.1]; exact e4 i a b⟩
          refine ⟨nI (T c), tv c, c, [(c + 2, m), (m + 1, u - 1)], ⟨hV, Or.inr (Or.inr (Or.inr (Or.inr (Or.inl ⟨m, t, p4, m7.1, by rw [um]; exact e7.1, m3, p6, m7.2.1, by rw [um]; exact e3, rfl, rfl, rfl, rfl, hV1, hV2⟩))))⟩, by show 2 + 1 ≤ u - c; omega, fun post hp => ⟨1, cs_ns hn hK v1 v2 (by omega) (by omega) (by omega) (cs_rl hn hK v1 v2 (by omega) (by rw [um]; omega) ?_)⟩⟩
          refine cs_qnt hK280 (by omega) hn hK hA p5 p6 (fun i a b => m4 i (by omega) b) (by omega) (by omega) m3 m5 m7.1 ?_ (by omega) (by omega) hp
          have t3 : T c = 20 ∨ T c = 21 ∨ T c = 22 := by omega
          rcases t3 with t3 | t3 | t3 <;> rw [t3]
          · exact Or.inl rfl
          · exact Or.inr (Or.inl rfl)
          · exact Or.inr (Or.inr rfl)
      all_goals omega
theorem cs_split (hn : n ≤ 40) (hK : ∀ i, i < n → tk i = nI (T i) ∧ T i < 23) (hA : ca_S T n = some (1, [])) (hK280 : K < 280) {l u : Nat} (hV : ca_V T n l u) (hnd : nd + (u - l) ≤ 281) (el : ylo K = nI l) (eu : yhi K = nI u) : ∃ (t v : Int32) (p : Nat) (ch : List (Nat × Nat)), cs_L T tv n (u - l) l u t v p ch ∧ ch.length + 1 ≤ u - l ∧ ∀ post : SY → Prop, post (ob, nI n, pl, nI (nd + ch.length), sts, res, era, usd, sp, lv, ret, out, ycls, prp, lst, siz, dnd, tk, tv, opd, yrk, rn, upd op K t, upd nm K v, upd ay K (nI p), cs_ups prt (K * 3) (cs_ids nd ch.length), cs_ups ylo nd (ch.map (fun c => nI c.1)), cs_ups yhi nd (ch.map (fun c => nI c.2)), sN, sP, sX, sK, it, vr) → wpY_split post (ob, nI n, pl, nI nd, sts, res, era, usd, sp, lv, ret, out, ycls, prp, lst, siz, dnd, tk, tv, opd, yrk, rn, op, nm, ay, prt, ylo, yhi, sN, sP, sX, sK, it, vr) (nI K) := by
  have hlu := hV.1
  have hun := hV.2.1
  obtain ⟨c, hc, HC⟩ := cy_cut hn hK hA hV
  obtain ⟨t, v, p, ch, L1, L2, L3⟩ := cs_main (nd := nd) hn hK hA hK280 (u - l - 1) l u c 0 (by omega) hV hc (by omega) hnd
  refine ⟨t, v, p, ch, by rw [show u - l - 1 + 1 = u - l by omega] at L1; exact L1, L2, fun post hp => ?_⟩
  have cK : (nI K).toNatClampNeg = K := nI_clamp (by omega)
  have iK : vp_in (nI K) 280 := vp_in_nI hK280 (by decide)
  exact ⟨iK, nm_r (e' := nI l) (by rw [cK]; exact el) ⟨iK, nm_r (e' := nI u) (by rw [cK]; exact eu) (HC _ (L3 post hp))⟩⟩
end
end
section
theorem cs_ups_ne {j : Nat} : ∀ {xs : List Int32} {f : Nat → Int32} {b : Nat}, (j < b ∨ b + xs.length ≤ j) → cs_ups f b xs j = f j
  | [], _, _, _ => rfl
  | x :: r, f, b, h => by
    show cs_ups (upd f b x) (b + 1) r j = f j
    rw [List.length_cons] at h
    rw [cs_ups_ne (by omega), pk_un (by omega)]
theorem cs_ups_in : ∀ {xs : List Int32} {f : Nat → Int32} {b i : Nat} {x : Int32}, xs[i]? = some x → cs_ups f b xs (b + i) = x
  | [], _, _, _, _, h => nomatch h
  | y :: r, f, b, 0, x, h => by
    show cs_ups (upd f b y) (b + 1) r (b + 0) = x
    rw [cs_ups_ne (by omega), Nat.add_zero, pk_us]
    exact Option.some.inj h
  | y :: r, f, b, i + 1, x, h => by
    show cs_ups (upd f b y) (b + 1) r (b + (i + 1)) = x
    rw [show b + (i + 1) = b + 1 + i by omega]
    exact cs_ups_in h
theorem cs_ids_len : ∀ (c nd : Nat), (cs_ids nd c).length = c
  | 0, _ => rfl
  | c + 1, nd => by show (cs_ids (nd + 1) c).length + 1 = c + 1; rw [cs_ids_len c]
theorem cs_ids_get : ∀ {c nd i : Nat}, i < c → (cs_ids nd c)[i]? = some (nI (nd + i))
  | 0, _, _, h => absurd h (by omega)
  | c + 1, nd, 0, _ => rfl
  | c + 1, nd, i + 1, h => by
    show (cs_ids (nd + 1) c)[i]? = _
    rw [cs_ids_get (by omega), show nd + 1 + i = nd + (i + 1) by omega]
def cs_len : List (Nat × Nat) → Nat
  | [] => 0
  | c :: r => (c.2 - c.1) + cs_len r
theorem cs_L_ch {T : Nat → Nat} {tv : Nat → Int32} {n : Nat} : ∀ {f l u : Nat} {t v : Int32} {p : Nat} {ch : List (Nat × Nat)}, cs_L T tv n f l u t v p ch → (∀ c, c ∈ ch → ca_V T n c.1 c.2) ∧ ch.length ≤ 3 ∧ cs_len ch + 1 ≤ u - l ∧ p < n := by
  intro f
  induction f with
  | zero => intro l u t v p ch h; exact absurd h id
  | succ f ih =>
    intro l u t v p ch h
    obtain ⟨hV, h⟩ := h
    have v1 := hV.1
    have v2 := hV.2.1
    rcases h with ⟨_, _, _, _, h⟩ | ⟨h1, _, _, _, h5, h6⟩ | ⟨_, _, _, _, _, h5, h6, h7, _⟩ | ⟨_, _, _, _, _, _, _, h5, h6, h7⟩ | ⟨m, _, _, _, _, _, _, _, _, _, _, h5, h6, h7, h8⟩ | ⟨_, _, _, h5, h6, h7, _⟩ | ⟨c, _, _, _, _, _, _, _, h5, h6, h7, h8, _⟩ | ⟨c, m, _, _, _, _, _, _, _, _, _, _, _, _, h5, h6, h7, h8, h9⟩
    · obtain ⟨a, b, c, d⟩ := ih h
      exact ⟨a, b, by omega, d⟩
    · subst h6; exact ⟨(fun c hc => nomatch hc), by decide, by show 0 + 1 ≤ u - l; omega, by omega⟩
    · subst h6
      refine ⟨fun c hc => ?_, by show 1 ≤ 3; omega, by show (u - 1 - l) + 0 + 1 ≤ u - l; omega, by omega⟩
      rw [List.mem_singleton.mp hc]; exact h7
    · subst h6
      have := h7.1
      refine ⟨fun c hc => ?_, by show 1 ≤ 3; omega, by show (u - 1 - (l + 2)) + 0 + 1 ≤ u - l; omega, by omega⟩
      rw [List.mem_singleton.mp hc]; exact h7
    · subst h6
      have := h7.1
      have := h8.1
      refine ⟨fun c hc => ?_, by show 2 ≤ 3; omega, by show (m - (l + 2)) + ((u - 1 - (m + 1)) + 0) + 1 ≤ u - l; omega, by omega⟩
      rcases List.mem_cons.mp hc with z | z
      · rw [z]; exact h7
      · rw [List.mem_singleton.mp z]; exact h8
    · subst h6
      refine ⟨fun c hc => ?_, by show 1 ≤ 3; omega, by show (u - (l + 1)) + 0 + 1 ≤ u - l; omega, by omega⟩
      rw [List.mem_singleton.mp hc]; exact h7
    · subst h6
      have := h7.1
      have := h8.1
      refine ⟨fun d hd => ?_, by show 2 ≤ 3; omega, by show (c - l) + ((u - (c + 1)) + 0) + 1 ≤ u - l; omega, by omega⟩
      rcases List.mem_cons.mp hd with z | z
      · rw [z]; exact h7
      · rw [List.mem_singleton.mp z]; exact h8
    · subst h6
      have := h7.1
      have := h8.1
      have := h9.1
      refine ⟨fun d hd => ?_, by show 3 ≤ 3; omega, by show (c - l) + ((m - (c + 1)) + ((u - (m + 1)) + 0)) + 1 ≤ u - l; omega, by omega⟩
      rcases List.mem_cons.mp hd with z | z
      · rw [z]; exact h7
      · rcases List.mem_cons.mp z with y | y
        · rw [y]; exact h8
        · rw [List.mem_singleton.mp y]; exact h9
def cl_sum (g : Nat → Nat) : Nat → Nat → Nat
  | _, 0 => 0
  | k, c + 1 => g k + cl_sum g (k + 1) c
theorem cl_sum_add (g : Nat → Nat) : ∀ (c k d : Nat), cl_sum g k (c + d) = cl_sum g k c + cl_sum g (k + c) d
  | 0, k, d => by rw [Nat.zero_add, Nat.add_zero]; show _ = 0 + _; omega
  | c + 1, k, d => by
    rw [show c + 1 + d = c + d + 1 by omega]
    show g k + cl_sum g (k + 1) (c + d) = g k + cl_sum g (k + 1) c + _
    rw [cl_sum_add g c (k + 1) d, show k + 1 + c = k + (c + 1) by omega]; omega
theorem cl_sum_eq {g g' : Nat → Nat} : ∀ (c k : Nat), (∀ j, k ≤ j → j < k + c → g j = g' j) → cl_sum g k c = cl_sum g' k c
  | 0, _, _ => rfl
  | c + 1, k, h => by
    show g k + _ = g' k + _
    rw [h k (by omega) (by omega), cl_sum_eq c (k + 1) (fun j a b => h j (by omega) (by omega))]
theorem cl_sum_ge {g : Nat → Nat} : ∀ (c k : Nat), (∀ j, k ≤ j → j < k + c → 1 ≤ g j) → c ≤ cl_sum g k c
  | 0, _, _ => Nat.le_refl _
  | c + 1, k, h => by
    show c + 1 ≤ g k + _
    have a := h k (by omega) (by omega)
    have b := cl_sum_ge c (k + 1) (fun j a b => h j (by omega) (by omega))
    omega
theorem cl_sum_ch {g : Nat → Nat} : ∀ (ch : List (Nat × Nat)) (k : Nat), (∀ (i : Nat) (c : Nat × Nat), ch[i]? = some c → g (k + i) = c.2 - c.1) → cl_sum g k ch.length = cs_len ch
  | [], _, _ => rfl
  | c :: r, k, h => by
    show g k + cl_sum g (k + 1) r.length = (c.2 - c.1) + cs_len r
    have e := h 0 c rfl
    rw [Nat.add_zero] at e
    rw [e, cl_sum_ch r (k + 1) (fun i d hd => by rw [show k + 1 + i = k + (i + 1) by omega]; exact h (i + 1) d hd)]
/-- the table of nodes while the first k of N are split -/
def cl_I (T : Nat → Nat) (tv : Nat → Int32) (n N k : Nat) (lN hN bN cN : Nat → Nat) (op nm ay prt ylo yhi : Nat → Int32) : Prop :=
  1 ≤ N ∧ k ≤ N ∧ k + cl_sum (fun j => hN j - lN j) k (N - k) ≤ n ∧ lN 0 = 0 ∧ hN 0 = n ∧
  (∀ j, j < N → ylo (240 + j) = nI (lN j) ∧ yhi (240 + j) = nI (hN j) ∧ ca_V T n (lN j) (hN j)) ∧
  (∀ j, j < k → ∃ (p : Nat) (ch : List (Nat × Nat)) (f : Nat), cs_L T tv n f (lN j) (hN j) (op (240 + j)) (nm (240 + j)) p ch ∧ ay (240 + j) = nI p ∧ j < bN j ∧ bN j + ch.length ≤ N ∧ ch.length = cN j ∧ ∀ (i : Nat) (c : Nat × Nat), ch[i]? = some c → prt ((240 + j) * 3 + i) = nI (240 + (bN j + i)) ∧ lN (bN j + i) = c.1 ∧ hN (bN j + i) = c.2) ∧
  (∀ j, 0 < j → j < N → ∃ q i, q < k ∧ i < cN q ∧ j = bN q + i)
section
variable {ob pl sts res era usd sp lv ret out : Int32} {ycls prp lst siz dnd opd yrk rn sN sP sX sK it vr tk tv : Nat → Int32} {n : Nat} {T : Nat → Nat}
theorem cl_step (hn : n ≤ 40) (hK : ∀ i, i < n → tk i = nI (T i) ∧ T i < 23) (hA : ca_S T n = some (1, [])) {N k : Nat} {lN hN bN cN : Nat → Nat} {op nm ay prt ylo yhi : Nat → Int32} (hI : cl_I T tv n N k lN hN bN cN op nm ay prt ylo yhi) (hk : k < N) : ∃ (N' : Nat) (lN' hN' bN' cN' : Nat → Nat) (op' nm' ay' prt' ylo' yhi' : Nat → Int32), cl_I T tv n N' (k + 1) lN' hN' bN' cN' op' nm' ay' prt' ylo' yhi' ∧ (∀ j, 280 ≤ j ∨ j < 240 → op' j = op j ∧ nm' j = nm j ∧ ay' j = ay j) ∧ (∀ j, 840 ≤ j ∨ j < 720 → prt' j = prt j) ∧ ∀ post : SY → Prop, post (ob, nI n, pl, nI (240 + N'), sts, res, era, usd, sp, lv, ret, out, ycls, prp, lst, siz, dnd, tk, tv, opd, yrk, rn, op', nm', ay', prt', ylo', yhi', sN, sP, sX, sK, it, vr) → wpY_split post (ob, nI n, pl, nI (240 + N), sts, res, era, usd, sp, lv, ret, out, ycls, prp, lst, siz, dnd, tk, tv, opd, yrk, rn, op, nm, ay, prt, ylo, yhi, sN, sP, sX, sK, it, vr) (nI (240 + k)) := by
  obtain ⟨i1, i2, i3, i3a, i3b, i4, i5, i6⟩ := hI
  obtain ⟨el, eu, hV⟩ := i4 k hk
  have v1 := hV.1
  have v2 := hV.2.1
  have es : N - k = (N - (k + 1)) + 1 := by omega
  have s1 : cl_sum (fun j => hN j - lN j) k (N - k) = (hN k - lN k) + cl_sum (fun j => hN j - lN j) (k + 1) (N - (k + 1)) := by rw [es]; rfl
  have s2 := cl_sum_ge (g := fun j => hN j - lN j) (N - (k + 1)) (k + 1) (fun j a b => by
    show 1 ≤ hN j - lN j
    have := (i4 j (by omega)).2.2.1
    omega)
  obtain ⟨t, v, p, ch, L1, L2, L3⟩ := cs_split (nd := 240 + N) (K := 240 + k) hn hK hA (by omega) hV (by omega) el eu
  obtain ⟨m1, m2, m3, m4⟩ := cs_L_ch L1
  have chl : ch.length ≤ cs_len ch := by
    have hx : ∀ (cs : List (Nat × Nat)), (∀ c, c ∈ cs → ca_V T n c.1 c.2) → cs.length ≤ cs_len cs := by
      intro cs
      induction cs with
      | nil => intro _; exact Nat.le_refl _
      | cons c r ih =>
        intro h
        have a := (h c (List.mem_cons_self ..)).1
        have b := ih (fun d hd => h d (List.mem_cons_of_mem _ hd))
        show r.length + 1 ≤ (c.2 - c.1) + cs_len r
        omega
    exact hx ch m1
  let gl : Nat → Nat := fun j => if N ≤ j then (ch[j - N]?.getD (0, 0)).1 else lN j
  let gh : Nat → Nat := fun j => if N ≤ j then (ch[j - N]?.getD (0, 0)).2 else hN j
  have gl0 : ∀ j, j < N → gl j = lN j := fun j h => if_neg (by omega)
  have gh0 : ∀ j, j < N → gh j = hN j := fun j h => if_neg (by omega)
  have gl1 : ∀ (i : Nat) (c : Nat × Nat), ch[i]? = some c → gl (N + i) = c.1 := by
    intro i c hc
    show (if N ≤ N + i then (ch[N + i - N]?.getD (0, 0)).1 else lN (N + i)) = c.1
    rw [if_pos (by omega), Nat.add_sub_cancel_left, hc]; rfl
  have gh1 : ∀ (i : Nat) (c : Nat × Nat), ch[i]? = some c → gh (N + i) = c.2 := by
    intro i c hc
    show (if N ≤ N + i then (ch[N + i - N]?.getD (0, 0)).2 else hN (N + i)) = c.2
    rw [if_pos (by omega), Nat.add_sub_cancel_left, hc]; rfl
  have some_of : ∀ i, i < ch.length → ∃ c, ch[i]? = some c := fun i h => ⟨ch[i], List.getElem?_eq_getElem h⟩
  have lt_of : ∀ (i : Nat) (c : Nat × Nat), ch[i]? = some c → i < ch.length := by
    intro i c hc
    by_cases h : i < ch.length
    · exact h
    · rw [List.getElem?_eq_none (by omega)] at hc; cases hc
  refine ⟨N + ch.length, gl, gh, fun j => if j = k then N else bN j, fun j => if j = k then ch.length else cN j, upd op (240 + k) t, upd nm (240 + k) v, upd ay (240 + k) (nI p), cs_ups prt ((240 + k) * 3) (cs_ids (240 + N) ch.length), cs_ups ylo (240 + N) (ch.map (fun c => nI c.1)), cs_ups yhi (240 + N) (ch.map (fun c => nI c.2)), ⟨by omega, by omega, ?_, by rw [gl0 0 (by omega)]; exact i3a, by rw [gh0 0 (by omega)]; exact i3b, ?_, ?_, ?_⟩, ?_, ?_, ?_⟩
  · -- the sum
    have e1 : N + ch.length - (k + 1) = (N - (k + 1)) + ch.length := by omega
    rw [e1, cl_sum_add, show k + 1 + (N - (k + 1)) = N by omega]
    rw [cl_sum_eq (g' := fun j => hN j - lN j) (N - (k + 1)) (k + 1) (fun j a b => by
      show gh j - gl j = hN j - lN j
      rw [gh0 j (by omega), gl0 j (by omega)])]
    rw [cl_sum_ch ch N (fun i c hc => by
      show gh (N + i) - gl (N + i) = c.2 - c.1
      rw [gh1 i c hc, gl1 i c hc])]
    omega
  · -- the spans
    intro j hj
    by_cases jN : j < N
    · rw [gl0 j jN, gh0 j jN, cs_ups_ne (by omega), cs_ups_ne (by omega)]
      exact i4 j jN
    · obtain ⟨i, rfl⟩ : ∃ i, j = N + i := ⟨j - N, by omega⟩
      obtain ⟨c, hc⟩ := some_of i (by omega)
      rw [gl1 i c hc, gh1 i c hc]
      refine ⟨?_, ?_, m1 c (List.mem_of_getElem? hc)⟩
      · rw [show 240 + (N + i) = 240 + N + i by omega]
        exact cs_ups_in (by rw [List.getElem?_map, hc]; rfl)
      · rw [show 240 + (N + i) = 240 + N + i by omega]
        exact cs_ups_in (by rw [List.getElem?_map, hc]; rfl)
  · -- what is split
    intro j hj
    by_cases jk : j = k
    · subst jk
      refine ⟨p, ch, hN j - lN j, ?_, pk_us, ?_, ?_, ?_, ?_⟩
      · rw [gl0 j hk, gh0 j hk, pk_us, pk_us]; exact L1
      · show j < if j = j then N else bN j
        rw [if_pos rfl]; exact hk
      · show (if j = j then N else bN j) + ch.length ≤ N + ch.length
        rw [if_pos rfl]; exact Nat.le_refl _
      · show ch.length = if j = j then ch.length else cN j
        rw [if_pos rfl]
      · intro i c hc
        show cs_ups prt ((240 + j) * 3) (cs_ids (240 + N) ch.length) ((240 + j) * 3 + i) = nI (240 + ((if j = j then N else bN j) + i)) ∧ gl ((if j = j then N else bN j) + i) = c.1 ∧ gh ((if j = j then N else bN j) + i) = c.2
        rw [if_pos rfl]
        exact ⟨by rw [cs_ups_in (cs_ids_get (lt_of i c hc)), Nat.add_assoc], gl1 i c hc, gh1 i c hc⟩
    · obtain ⟨p', ch', f', q1, q2, q3, q4, q4a, q5⟩ := i5 j (by omega)
      have q6 := (cs_L_ch q1).2.1
      have bj : (fun x => if x = k then N else bN x) j = bN j := if_neg jk
      have cj : (fun x => if x = k then ch.length else cN x) j = cN j := if_neg jk
      refine ⟨p', ch', f', ?_, by rw [pk_un (by omega)]; exact q2, by rw [bj]; exact q3, by rw [bj]; omega, by rw [cj]; exact q4a, ?_⟩
      · rw [gl0 j (by omega), gh0 j (by omega), pk_un (by omega), pk_un (by omega)]; exact q1
      · intro i c hc
        have il : i < ch'.length := by
          by_cases h : i < ch'.length
          · exact h
          · rw [List.getElem?_eq_none (by omega)] at hc; cases hc
        obtain ⟨r1, r2, r3⟩ := q5 i c hc
        rw [bj, gl0 _ (by omega), gh0 _ (by omega), cs_ups_ne (by rw [cs_ids_len]; omega)]
        exact ⟨r1, r2, r3⟩
  · -- every node has one above it
    intro j h0 hj
    by_cases jN : j < N
    · obtain ⟨q, i, a1, a2, a3⟩ := i6 j h0 jN
      refine ⟨q, i, by omega, ?_, ?_⟩
      · show i < if q = k then ch.length else cN q
        rw [if_neg (by omega)]; exact a2
      · show j = (if q = k then N else bN q) + i
        rw [if_neg (by omega)]; exact a3
    · refine ⟨k, j - N, by omega, ?_, ?_⟩
      · show j - N < if k = k then ch.length else cN k
        rw [if_pos rfl]; omega
      · show j = (if k = k then N else bN k) + (j - N)
        rw [if_pos rfl]; omega
  · intro j hj
    rw [pk_un (by omega), pk_un (by omega), pk_un (by omega)]
    exact ⟨rfl, rfl, rfl⟩
  · intro j hj
    exact cs_ups_ne (by rw [cs_ids_len]; omega)
  · intro post hp
    refine L3 post ?_
    rw [show 240 + N + ch.length = 240 + (N + ch.length) by omega]
    exact hp
theorem cl_loop (hn : n ≤ 40) (hK : ∀ i, i < n → tk i = nI (T i) ∧ T i < 23) (hA : ca_S T n = some (1, [])) : ∀ (d : Nat) {N k : Nat} {lN hN bN cN : Nat → Nat} {op nm ay prt ylo yhi : Nat → Int32}, cl_I T tv n N k lN hN bN cN op nm ay prt ylo yhi → n ≤ k + d → ∃ (N' : Nat) (lN' hN' bN' cN' : Nat → Nat) (op' nm' ay' prt' ylo' yhi' : Nat → Int32), cl_I T tv n N' N' lN' hN' bN' cN' op' nm' ay' prt' ylo' yhi' ∧ (∀ j, 280 ≤ j ∨ j < 240 → op' j = op j ∧ nm' j = nm j ∧ ay' j = ay j) ∧ (∀ j, 840 ≤ j ∨ j < 720 → prt' j = prt j) ∧ ∀ (post : Int32 → SY → Prop) (x1 x2 : Int32), (∀ m, wY_compile_134 post x1 x2 (m + 1) (nI (240 + N')) ob (nI n) pl (nI (240 + N')) sts res era usd sp lv ret out ycls prp lst siz dnd (tk) (tv) opd yrk rn (op') (nm') (ay') (prt') (ylo') (yhi') sN sP sX sK it vr) → ∃ m, wY_compile_134 post x1 x2 m (nI (240 + k)) ob (nI n) pl (nI (240 + N)) sts res era usd sp lv ret out ycls prp lst siz dnd (tk) (tv) opd yrk rn op nm ay prt ylo yhi sN sP sX sK it vr := by
  intro d
  induction d with
  | zero =>
    intro N k lN hN bN cN op nm ay prt ylo yhi hI hd
    have i2 := hI.2.1
    have i3 := hI.2.2.1
    have kN : k = N := by
      have := cl_sum_ge (g := fun j => hN j - lN j) (N - k) k (fun j a b => by
        show 1 ≤ hN j - lN j
        have := (hI.2.2.2.2.2.1 j (by omega)).2.2.1
        omega)
      omega
    subst kN
    exact ⟨k, lN, hN, bN, cN, op, nm, ay, prt, ylo, yhi, hI, fun j _ => ⟨rfl, rfl, rfl⟩, fun j _ => rfl, fun post x1 x2 H => ⟨1, H 0⟩⟩
  | succ d ih =>
    intro N k lN hN bN cN op nm ay prt ylo yhi hI hd
    have i2 := hI.2.1
    have i3 := hI.2.2.1
    by_cases kN : k < N
    · obtain ⟨N1, lN1, hN1, bN1, cN1, op1, nm1, ay1, prt1, ylo1, yhi1, I1, E1, E2, H1⟩ := cl_step (ob := ob) (pl := pl) (sts := sts) (res := res) (era := era) (usd := usd) (sp := sp) (lv := lv) (ret := ret) (out := out) (ycls := ycls) (prp := prp) (lst := lst) (siz := siz) (dnd := dnd) (opd := opd) (yrk := yrk) (rn := rn) (sN := sN) (sP := sP) (sX := sX) (sK := sK) (it := it) (vr := vr) hn hK hA hI kN
      obtain ⟨N2, lN2, hN2, bN2, cN2, op2, nm2, ay2, prt2, ylo2, yhi2, I2, F1, F2, H2⟩ := ih I1 (by omega)
      have sum := cl_sum_ge (g := fun j => hN j - lN j) (N - k) k (fun j a b => by
        show 1 ≤ hN j - lN j
        have := (hI.2.2.2.2.2.1 j (by omega)).2.2.1
        omega)
      refine ⟨N2, lN2, hN2, bN2, cN2, op2, nm2, ay2, prt2, ylo2, yhi2, I2, fun j hj => ?_, fun j hj => (F2 j hj).trans (E2 j hj), fun post x1 x2 H => ?_⟩
      · exact ⟨(F1 j hj).1.trans (E1 j hj).1, (F1 j hj).2.1.trans (E1 j hj).2.1, (F1 j hj).2.2.trans (E1 j hj).2.2⟩
      · obtain ⟨m, hm⟩ := H2 post x1 x2 H
        refine ⟨m + 1, br_f (nI_ge (by omega) (by omega)) (nm_r (nI_1 (240 + k)) (H1 _ ?_))⟩
        exact hm
    · have kN2 : k = N := by omega
      subst kN2
      exact ⟨k, lN, hN, bN, cN, op, nm, ay, prt, ylo, yhi, hI, fun j _ => ⟨rfl, rfl, rfl⟩, fun j _ => rfl, fun post x1 x2 H => ⟨1, H 0⟩⟩
theorem cl_start (hA : ca_S T n = some (1, [])) {op nm ay prt ylo yhi : Nat → Int32} (h1 : ylo 240 = nI 0) (h2 : yhi 240 = nI n) : cl_I T tv n 1 0 (fun _ => 0) (fun _ => n) (fun _ => 0) (fun _ => 0) op nm ay prt ylo yhi := by
  refine ⟨by omega, by omega, ?_, rfl, rfl, fun j hj => ?_, fun j hj => absurd hj (by omega), fun j h0 hj => absurd hj (by omega)⟩
  · show 0 + ((n - 0) + 0) ≤ n
    omega
  · have : j = 0 := by omega
    subst this
    exact ⟨h1, h2, ca_V0 hA⟩
end
end
section
/-- node k stands for the tokens l .. u-1; w: how strongly its operator binds; B: the bound variables -/
def cg_G (T : Nat → Nat) (tv yo yn ya yc : Nat → Int32) (yp : Nat → Nat → Nat) (nn : Nat) : Nat → (Nat → Prop) → Nat → Nat → Nat → Nat → Prop
  | 0 => fun _ _ _ _ _ => False
  | f + 1 => fun B k w l u => k < nn ∧ l < u ∧ (
      (u = l + 1 ∧ (T l = 0 ∨ T l = 3 ∨ T l = 19 ∨ (T l = 4 ∧ ∃ v, v < 3 ∧ tv l = nI v ∧ B v)) ∧ yo k = nI (T l) ∧ yn k = tv l ∧ ya k = nI l ∧ w = 8) ∨
      (∃ c, u = c + 1 ∧ (T c = 1 ∨ T c = 2) ∧ (∃ x, x < 6 ∧ tv c = nI x) ∧ yo k = nI (T c) ∧ yn k = tv c ∧ ya k = nI c ∧ cg_G T tv yo yn ya yc yp nn f B (yp k 0) 8 l c ∧ w = 8) ∨
      (∃ c w', u = c + 1 ∧ T l = 6 ∧ T c = 7 ∧ ca_o T c = l ∧ (l = 0 ∨ ¬ (T (l - 1) = 5 ∨ 20 ≤ T (l - 1))) ∧ cg_G T tv yo yn ya yc yp nn f B k w' (l + 1) c ∧ 1 ≤ w' ∧ w = 8) ∨
      (∃ c w' x, u = c + 1 ∧ T l = 5 ∧ T (l + 1) = 6 ∧ T c = 7 ∧ ca_o T c = l ∧ x < 6 ∧ tv l = nI x ∧ yo k = 5 ∧ yn k = tv l ∧ ya k = nI l ∧ cg_G T tv yo yn ya yc yp nn f B (yp k 0) w' (l + 2) c ∧ 1 ≤ w' ∧ w = 8) ∨
      (∃ c m w1 w2 v, u = c + 1 ∧ 20 ≤ T l ∧ T l < 23 ∧ T (l + 1) = 6 ∧ T m = 9 ∧ ca_o T m = l ∧ T c = 7 ∧ ca_o T c = l ∧ v < 3 ∧ tv l = nI v ∧ ¬ B v ∧ yo k = nI (T l) ∧ yn k = tv l ∧ ya k = nI l ∧ cg_G T tv yo yn ya yc yp nn f B (yp k 0) w1 (l + 2) m ∧ 1 ≤ w1 ∧ cg_G T tv yo yn ya yc yp nn f (fun x => x = v ∨ B x) (yp k 1) w2 (m + 1) c ∧ 1 ≤ w2 ∧ w = 8) ∨
      (∃ w', (T l = 12 ∧ yo k = 12 ∨ T l = 16 ∧ yo k = 23 ∧ (l = 0 ∨ ¬ (T (l - 1) ≤ 4 ∨ T (l - 1) = 7 ∨ T (l - 1) = 19))) ∧ ya k = nI l ∧ cg_G T tv yo yn ya yc yp nn f B (yp k 0) w' (l + 1) u ∧ 7 ≤ w' ∧ w = 7) ∨
      (∃ c w1 w2, 10 ≤ T c ∧ T c ≤ 18 ∧ T c ≠ 12 ∧ 0 < c ∧ (T (c - 1) ≤ 4 ∨ T (c - 1) = 7 ∨ T (c - 1) = 19) ∧ yo k = nI (T c) ∧ ya k = nI c ∧ cg_G T tv yo yn ya yc yp nn f B (yp k 0) w1 l c ∧ cg_G T tv yo yn ya yc yp nn f B (yp k 1) w2 (c + 1) u ∧ w = ca_wt (T c) + 1 ∧ w ≤ w1 ∧ w < w2) ∨
      (∃ c m w1 w2 w3, T c = 8 ∧ T m = 9 ∧ ca_o T m = c ∧ yo k = 8 ∧ ya k = nI c ∧ yc k = nI m ∧ cg_G T tv yo yn ya yc yp nn f B (yp k 0) w1 l c ∧ 2 ≤ w1 ∧ cg_G T tv yo yn ya yc yp nn f B (yp k 1) w2 (c + 1) m ∧ 1 ≤ w2 ∧ cg_G T tv yo yn ya yc yp nn f B (yp k 2) w3 (m + 1) u ∧ 1 ≤ w3 ∧ w = 1))
/-- all operators of the span's own level bind at least as strongly as q -/
def cg_LB (T : Nat → Nat) (l u q : Nat) : Prop := q ≤ 8 ∧ (2 ≤ q → ∀ j, l < j → j < u → T j = 8 → ca_h T j ≠ ca_h T l) ∧ (∀ j, l < j → j < u → ca_op T l j → q ≤ ca_wt (T j) + 1) ∧ (q = 8 → T l ≠ 12 ∧ T l ≠ 16)
def cg_B (T : Nat → Nat) (tv : Nat → Int32) (l : Nat) : Nat → Prop := fun v => v < 3 ∧ ca_B T tv (ca_Z T l) (nI v)
section
variable {T : Nat → Nat} {tv : Nat → Int32} {n : Nat}
theorem ca_wt_op {t : Nat} (h : 10 ≤ t ∧ t ≤ 18 ∧ t ≠ 12) : 1 ≤ ca_wt t ∧ ca_wt t ≤ 5 := by
  have e : t = 10 ∨ t = 11 ∨ t = 13 ∨ t = 14 ∨ t = 15 ∨ t = 16 ∨ t = 17 ∨ t = 18 := by omega
  rcases e with rfl | rfl | rfl | rfl | rfl | rfl | rfl | rfl <;> decide
theorem cg_LB1 {l u : Nat} : cg_LB T l u 1 := ⟨by omega, fun z => absurd z (by omega), fun j _ _ _ => by omega, fun z => absurd z (by omega)⟩
theorem cg_Be {a b : Nat} (h : ca_Z T b = ca_Z T a) : cg_B T tv b = cg_B T tv a := by unfold cg_B; rw [h]
theorem cg_Bs {a b : Nat} {e : Nat × Nat} (h : ca_Z T b = e :: ca_Z T a) (ht : T e.1 ≠ 9) : cg_B T tv b = cg_B T tv a := by
  unfold cg_B
  funext v
  rw [h, ca_B_cons]
  exact propext ⟨fun ⟨x, y⟩ => ⟨x, y.resolve_left (fun z => ht z.1)⟩, fun ⟨x, y⟩ => ⟨x, Or.inr y⟩⟩
theorem cg_Bq {a b m v : Nat} (h : ca_Z T b = (m, a) :: ca_Z T a) (ht : T m = 9) (hv : v < 3) (ev : tv a = nI v) : cg_B T tv b = (fun x => x = v ∨ cg_B T tv a x) := by
  unfold cg_B
  funext x
  rw [h, ca_B_cons]
  refine propext ⟨fun ⟨h1, h2⟩ => ?_, fun h => ?_⟩
  · rcases h2 with ⟨_, h3⟩ | h3
    · exact Or.inl ((nI_eq (by omega) (by omega)).1 (h3.symm.trans ev))
    · exact Or.inr ⟨h1, h3⟩
  · rcases h with h | ⟨h1, h2⟩
    · subst h; exact ⟨hv, Or.inl ⟨ht, ev⟩⟩
    · exact ⟨h1, Or.inr h2⟩
theorem cg_opn (hA : ca_S T n = some (1, [])) {i : Nat} (hi : i ≤ n) {e : Nat × Nat} {r : List (Nat × Nat)} (z : ca_Z T i = e :: r) : ca_o T i = e.2 := by
  unfold ca_o
  rw [ca_some hA hi, z]
theorem cg_w0 (hA : ca_S T n = some (1, [])) {l : Nat} (hl : l < n) (hw : ca_W T l = 0) : (l = 0 ∨ ¬ (T (l - 1) = 5 ∨ 20 ≤ T (l - 1))) ∧ (l = 0 ∨ ¬ (T (l - 1) ≤ 4 ∨ T (l - 1) = 7 ∨ T (l - 1) = 19)) := by
  by_cases z : l = 0
  · exact ⟨Or.inl z, Or.inl z⟩
  · obtain ⟨j, rfl⟩ : ∃ j, l = j + 1 := ⟨l - 1, by omega⟩
    have r := ca_rule hA (i := j) (by omega)
    unfold ca_R at r
    rw [Nat.add_sub_cancel]
    refine ⟨Or.inr ?_, Or.inr ?_⟩
    · omega
    · omega
theorem cg_all (hA : ca_S T n = some (1, [])) (hn : n ≤ 40) (hT23 : ∀ i, i < n → T i < 23) (hTv : ∀ i, i < n → T i = 4 ∨ 20 ≤ T i → ∃ v, v < 3 ∧ tv i = nI v) (hT6 : ∀ i, i < n → T i = 1 ∨ T i = 2 ∨ T i = 5 → ∃ x, x < 6 ∧ tv i = nI x) (hD : ca_D T tv n) {N : Nat} {lN hN bN cN : Nat → Nat} {op nm ay prt ylo yhi : Nat → Int32} (hI : cl_I T tv n N N lN hN bN cN op nm ay prt ylo yhi) :
    ∀ (d j l u f p : Nat) (ch : List (Nat × Nat)), j < N → u - l ≤ d → cs_L T tv n f l u (op (240 + j)) (nm (240 + j)) p ch → ay (240 + j) = nI p → (∀ (i : Nat) (c : Nat × Nat), ch[i]? = some c → bN j + i < N ∧ lN (bN j + i) = c.1 ∧ hN (bN j + i) = c.2) → ∀ q, cg_LB T l u q → ∃ w, q ≤ w ∧ cg_G T tv (fun j => op (240 + j)) (fun j => nm (240 + j)) (fun j => ay (240 + j)) (fun j => nI (hN (bN j + 1))) (fun j i => bN j + i) N d (cg_B T tv l) j w l u := by
  intro d
  induction d with
  | zero =>
    intro j l u f p ch hj hd hL
    cases f with
    | zero => exact absurd hL id
    | succ f => have := hL.1.1; omega
  | succ d ih =>
    intro j l u f p ch hj hd hL hay hch q hq
    cases f with
    | zero => exact absurd hL id
    | succ f =>
      obtain ⟨hV, hL⟩ := hL
      have v1 := hV.1
      have v2 := hV.2.1
      have v3 := hV.2.2.1
      obtain ⟨w01, w02⟩ := cg_w0 hA (by omega : l < n) v3
      -- the child i of node j, with its span
      have child : ∀ (i : Nat) (c : Nat × Nat), ch[i]? = some c → c.2 - c.1 ≤ d → ∀ q', cg_LB T c.1 c.2 q' → ∃ w, q' ≤ w ∧ cg_G T tv (fun j => op (240 + j)) (fun j => nm (240 + j)) (fun j => ay (240 + j)) (fun j => nI (hN (bN j + 1))) (fun j i => bN j + i) N d (cg_B T tv c.1) (bN j + i) w c.1 c.2 := by
        intro i c hc hcd q' hq'
        obtain ⟨e1, e2, e3⟩ := hch i c hc
        obtain ⟨p', ch', f', b1, b2, b3, b4, b5, b6⟩ := hI.2.2.2.2.2.2.1 (bN j + i) e1
        rw [e2, e3] at b1
        refine ih (bN j + i) c.1 c.2 f' p' ch' e1 hcd b1 b2 (fun i' c' hc' => ?_) q' hq'
        have il : i' < ch'.length := by
          by_cases h : i' < ch'.length
          · exact h
          · rw [List.getElem?_eq_none (by omega)] at hc'; cases hc'
        exact ⟨by omega, (b6 i' c' hc').2⟩
      rcases hL with ⟨h1, h2, h3, h4, h5⟩ | ⟨h1, h2, h3, h4, h5, h6⟩ | ⟨h1, h2, h3, h4, h5, h6, h7, h8, h9, h10⟩ | ⟨h1, h2, h3, h4, h5, h6, h7, h8, h9, h10⟩ | ⟨m, h1, h2, h3, h4, h5, h6, h7, h8, h9, h10, h11, h12, h13, h14⟩ | ⟨h1, h2, h3, h4, h5, h6, h7⟩ | ⟨c, h1, h2, h3, h4, h5, h6, h7, h8, h9, h10, h11, h12⟩ | ⟨c, m, h1, h2, h3, h4, h5, h6, h7, h8, h9, h10, h11, h12, h13, h14, h15, h16, h17⟩
      · -- brackets
        have u2 : u - 1 ≤ n := by omega
        obtain ⟨w', hw1, hw2⟩ := ih j (l + 1) (u - 1) f p ch hj (by omega) h5 hay hch 1 cg_LB1
        rw [cg_Bs h4 (by show T l ≠ 9; omega)] at hw2
        exact ⟨8, hq.1, hj, v1, Or.inr (Or.inr (Or.inl ⟨u - 1, w', by omega, h1, h2, cg_opn hA u2 h3, w01, hw2, hw1, rfl⟩))⟩
      · -- a leaf
        refine ⟨8, hq.1, hj, v1, Or.inl ⟨h1, ?_, h3, h4, by rw [← h5]; exact hay, rfl⟩⟩
        rcases h2 with z | z | z | z
        · exact Or.inl z
        · exact Or.inr (Or.inl z)
        · obtain ⟨v, hv, ev⟩ := hTv l (by omega) (Or.inl z)
          refine Or.inr (Or.inr (Or.inr ⟨z, v, hv, ev, hv, ?_⟩))
          rw [← ev]; exact (hD l (by omega)).1 z
        · exact Or.inr (Or.inr (Or.inl z))
      · -- a property
        subst h7
        obtain ⟨w', hw1, hw2⟩ := child 0 _ rfl (by show u - 1 - l ≤ d; omega) 8 ⟨by omega, fun _ j a b t z => (h3 j a (by have : j < u - 1 := b; omega) z).1 t, fun j a b z => absurd z.2.2 ((h3 j a (by have : j < u - 1 := b; omega) z.1).2 z.2.1), fun _ => ⟨h9, h10⟩⟩
        have w8 : w' = 8 := by
          cases d with
          | zero => exact absurd hw2 id
          | succ d =>
            obtain ⟨_, _, hw3⟩ := hw2
            rcases hw3 with ⟨_, _, _, _, _, z⟩ | ⟨_, _, _, _, _, _, _, _, z⟩ | ⟨_, _, _, _, _, _, _, _, _, z⟩ | ⟨_, _, _, _, _, _, _, _, _, _, _, _, _, _, _, z⟩ | ⟨_, _, _, _, _, _, _, _, _, _, _, _, _, _, _, _, _, _, _, _, _, _, _, z⟩ | ⟨_, _, _, _, _, z⟩ | ⟨c, _, _, y1, y2, y3, _, _, _, _, _, _, z, _, _⟩ | ⟨_, _, _, _, _, _, _, _, _, _, _, _, _, _, _, _, _, z⟩
            all_goals first | exact z | omega | skip
            have := ca_wt_op ⟨y1, y2, y3⟩
            omega
        rw [w8] at hw2
        refine ⟨8, hq.1, hj, v1, Or.inr (Or.inl ⟨u - 1, by omega, h1, hT6 (u - 1) (by omega) (by omega), h4, h5, by rw [← h6]; exact hay, hw2, rfl⟩)⟩
      · -- a call
        subst h9
        obtain ⟨x, hx, ex⟩ := hT6 l (by omega) (by omega)
        obtain ⟨w', hw1, hw2⟩ := child 0 _ rfl (by show u - 1 - (l + 2) ≤ d; omega) 1 cg_LB1
        have e : cg_B T tv (l + 2) = cg_B T tv l := cg_Bs h5 (by show T l ≠ 9; omega)
        have hw3 : cg_G T tv (fun j => op (240 + j)) (fun j => nm (240 + j)) (fun j => ay (240 + j)) (fun j => nI (hN (bN j + 1))) (fun j i => bN j + i) N d (cg_B T tv (l + 2)) (bN j + 0) w' (l + 2) (u - 1) := hw2
        rw [e] at hw3
        exact ⟨8, hq.1, hj, v1, Or.inr (Or.inr (Or.inr (Or.inl ⟨u - 1, w', x, by omega, h1, h2, h3, cg_opn hA (by omega) h4, hx, ex, h6, h7, by rw [← h8]; exact hay, hw3, hw1, rfl⟩)))⟩
      · -- a quantifier
        subst h12
        obtain ⟨v, hv, ev⟩ := hTv l (by omega) (Or.inr h1)
        have k1 := h13.1
        have k2 := h14.1
        have k3 := h14.2.1
        obtain ⟨w1, hw1, hw1'⟩ := child 0 _ rfl (by show m - (l + 2) ≤ d; omega) 1 cg_LB1
        obtain ⟨w2, hw2, hw2'⟩ := child 1 _ rfl (by show u - 1 - (m + 1) ≤ d; omega) 1 cg_LB1
        have e1 : cg_B T tv (l + 2) = cg_B T tv l := cg_Bs h6 (by show T l ≠ 9; omega)
        have e2 : cg_B T tv (m + 1) = (fun x => x = v ∨ cg_B T tv l x) := cg_Bq h7 h3 hv ev
        have g1 : cg_G T tv (fun j => op (240 + j)) (fun j => nm (240 + j)) (fun j => ay (240 + j)) (fun j => nI (hN (bN j + 1))) (fun j i => bN j + i) N d (cg_B T tv (l + 2)) (bN j + 0) w1 (l + 2) m := hw1'
        have g2 : cg_G T tv (fun j => op (240 + j)) (fun j => nm (240 + j)) (fun j => ay (240 + j)) (fun j => nI (hN (bN j + 1))) (fun j i => bN j + i) N d (cg_B T tv (m + 1)) (bN j + 1) w2 (m + 1) (u - 1) := hw2'
        rw [e1] at g1
        rw [e2] at g2
        refine ⟨8, hq.1, hj, v1, Or.inr (Or.inr (Or.inr (Or.inr (Or.inl ⟨u - 1, m, w1, w2, v, by omega, h1, hT23 l (by omega), h2, h3, cg_opn hA (by omega) h5, h4, cg_opn hA (by omega) h8, hv, ev, fun z => ?_, h9, h10, by rw [← h11]; exact hay, g1, hw1, g2, hw2, rfl⟩))))⟩
        have := (hD l (by omega)).2 h1
        rw [ev] at this
        exact this z.2
      · -- one side alone
        subst h5
        have hh : ca_h T (l + 1) = ca_h T l := by
          have := ca_hs hA (i := l) (by omega)
          rw [if_neg (by omega), if_neg (by omega)] at this; omega
        have hLB : cg_LB T (l + 1) u 7 := by
          refine ⟨by omega, fun _ j a b t z => ?_, fun j a b z => ?_, fun z => absurd z (by omega)⟩
          · exact (h2 j (by omega) b (by omega)).1 t
          · have z1 := z.1
            exact absurd z.2.2 ((h2 j (by omega) b (by omega)).2 z.2.1)
        obtain ⟨w', hw1, hw2⟩ := child 0 _ rfl (by show u - (l + 1) ≤ d; omega) 7 hLB
        have e : cg_B T tv (l + 1) = cg_B T tv l := cg_Be h7
        have g1 : cg_G T tv (fun j => op (240 + j)) (fun j => nm (240 + j)) (fun j => ay (240 + j)) (fun j => nI (hN (bN j + 1))) (fun j i => bN j + i) N d (cg_B T tv (l + 1)) (bN j + 0) w' (l + 1) u := hw2
        rw [e] at g1
        have q7 : q ≤ 7 := by
          have a1 := hq.1
          have a2 := hq.2.2.2
          by_cases z : q = 8
          · have := a2 z; omega
          · omega
        refine ⟨7, q7, hj, v1, Or.inr (Or.inr (Or.inr (Or.inr (Or.inr (Or.inl ⟨w', ?_, by rw [← h4]; exact hay, g1, hw1, rfl⟩)))))⟩
        rcases h1 with ⟨a, b⟩ | ⟨a, b⟩
        · exact Or.inl ⟨a, b⟩
        · exact Or.inr ⟨a, b, w02⟩
      · -- an operator between two sides
        subst h9
        have k1 := h10.1
        have k2 := h11.1
        have hh : ca_h T (c + 1) = ca_h T l := by
          have := ca_hs hA (i := c) (by omega)
          have t1 := h4.2.2
          rw [if_neg (by omega), if_neg (by omega)] at this
          have := h4.1
          omega
        have h55 := (ca_wt_op h4.2.2).2
        have hLB : cg_LB T l c (ca_wt (T c) + 1) := ⟨by omega, fun _ j a b t z => h3 j a (by omega) t z, fun j a b z => by have := (h5 j a (by omega) z).1; omega, fun z => absurd z (by omega)⟩
        obtain ⟨w1, hw1, hw1'⟩ := child 0 _ rfl (by show c - l ≤ d; omega) (ca_wt (T c) + 1) hLB
        obtain ⟨w2, hw2, hw2'⟩ := child 1 _ rfl (by show u - (c + 1) ≤ d; omega) (ca_wt (T c) + 2) ⟨by omega, fun _ j a b t z => h3 j (by have : c + 1 < j := a; omega) b t (by have z' : ca_h T j = ca_h T (c + 1) := z; omega), fun j a b z => by
          have a' : c + 1 < j := a
          have z1 : ca_h T j = ca_h T (c + 1) := z.1
          have := (h5 j (by omega) b ⟨by omega, z.2⟩).2 (by omega)
          omega, fun z => absurd z (by omega)⟩
        have e2 : cg_B T tv (c + 1) = cg_B T tv l := cg_Be h12
        have g1 : cg_G T tv (fun j => op (240 + j)) (fun j => nm (240 + j)) (fun j => ay (240 + j)) (fun j => nI (hN (bN j + 1))) (fun j i => bN j + i) N d (cg_B T tv l) (bN j + 0) w1 l c := hw1'
        have g2 : cg_G T tv (fun j => op (240 + j)) (fun j => nm (240 + j)) (fun j => ay (240 + j)) (fun j => nI (hN (bN j + 1))) (fun j i => bN j + i) N d (cg_B T tv (c + 1)) (bN j + 1) w2 (c + 1) u := hw2'
        rw [e2] at g2
        have qw : q ≤ ca_wt (T c) + 1 := hq.2.2.1 c h1 h2 h4
        have en := (ca_end hA (i := c) (by omega) (by omega)).1 h4.2.1
        exact ⟨ca_wt (T c) + 1, qw, hj, v1, Or.inr (Or.inr (Or.inr (Or.inr (Or.inr (Or.inr (Or.inl ⟨c, w1, w2, h4.2.2.1, h4.2.2.2.1, h4.2.2.2.2, by omega, en, h6, by rw [← h8]; exact hay, g1, g2, rfl, hw1, by omega⟩))))))⟩
      · -- a choice
        subst h14
        have k1 := h15.1
        have k2 := h16.1
        have k3 := h17.1
        obtain ⟨w1, hw1, hw1'⟩ := child 0 _ rfl (by show c - l ≤ d; omega) 2 ⟨by omega, fun _ j a b t z => h7 j a b t z, fun j a b z => by
          have := ca_wt_op z.2.2
          omega, fun z => absurd z (by omega)⟩
        obtain ⟨w2, hw2, hw2'⟩ := child 1 _ rfl (by show m - (c + 1) ≤ d; omega) 1 cg_LB1
        obtain ⟨w3, hw3, hw3'⟩ := child 2 _ rfl (by show u - (m + 1) ≤ d; omega) 1 cg_LB1
        have e2 : cg_B T tv (c + 1) = cg_B T tv l := cg_Bs h9 (by show T c ≠ 9; omega)
        have e3 : cg_B T tv (m + 1) = cg_B T tv l := cg_Be h10
        have g1 : cg_G T tv (fun j => op (240 + j)) (fun j => nm (240 + j)) (fun j => ay (240 + j)) (fun j => nI (hN (bN j + 1))) (fun j i => bN j + i) N d (cg_B T tv l) (bN j + 0) w1 l c := hw1'
        have g2 : cg_G T tv (fun j => op (240 + j)) (fun j => nm (240 + j)) (fun j => ay (240 + j)) (fun j => nI (hN (bN j + 1))) (fun j i => bN j + i) N d (cg_B T tv (c + 1)) (bN j + 1) w2 (c + 1) m := hw2'
        have g3 : cg_G T tv (fun j => op (240 + j)) (fun j => nm (240 + j)) (fun j => ay (240 + j)) (fun j => nI (hN (bN j + 1))) (fun j i => bN j + i) N d (cg_B T tv (m + 1)) (bN j + 2) w3 (m + 1) u := hw3'
        rw [e2] at g2
        rw [e3] at g3
        have q1 : q ≤ 1 := by
          have a2 := hq.2.1
          by_cases z : 2 ≤ q
          · exact absurd h6 (a2 z c h3 (by omega) h1)
          · omega
        have ym : nI (hN (bN j + 1)) = nI m := by rw [(hch 1 _ rfl).2.2]
        exact ⟨1, q1, hj, v1, Or.inr (Or.inr (Or.inr (Or.inr (Or.inr (Or.inr (Or.inr ⟨c, m, w1, w2, w3, h1, h2, cg_opn hA (by omega) h8, h11, by rw [← h13]; exact hay, ym, g1, hw1, g2, hw2, g3, hw3, rfl⟩))))))⟩
end
end
section
abbrev cm_I : Type := Int32 × Int32 × Int32 × Int32
/-- the kind of a node -/
def cn_k (yo yn rk : Nat → Int32) (yp : Nat → Nat → Nat) (k : Nat) : Int32 :=
  if yo k = 8 then (if h : k < yp k 1 ∧ yp k 1 < 40 then cn_k yo yn rk yp (yp k 1) else 0)
  else if yo k = 5 then rk (yn k).toNatClampNeg
  else if yo k = 3 ∨ yo k = 4 ∨ yo k = 19 then 3
  else if yo k = 1 ∨ yo k = 2 then (if 2 < yn k then (if yn k = 3 then 3 else 4) else 1)
  else if (10 ≤ yo k ∧ yo k ≤ 14) ∨ yo k = 20 ∨ yo k = 21 then 2
  else 1
termination_by 40 - k
decreasing_by omega
/-- the demand of a node on its children -/
def cn_ok (yo yn rk : Nat → Int32) (yp : Nat → Nat → Nat) (k : Nat) : Bool :=
  if yo k = 0 ∨ yo k = 3 ∨ yo k = 4 ∨ yo k = 19 then true
  else if yo k = 1 ∨ yo k = 2 ∨ yo k = 5 then decide (cn_k yo yn rk yp (yp k 0) = 3)
  else if yo k = 23 then decide (cn_k yo yn rk yp (yp k 0) = 1)
  else if yo k = 12 then decide (cn_k yo yn rk yp (yp k 0) = 2)
  else if 20 ≤ yo k then decide (cn_k yo yn rk yp (yp k 0) = 4 ∧ cn_k yo yn rk yp (yp k 1) = (if yo k = 22 then 1 else 2))
  else if yo k = 8 then decide (cn_k yo yn rk yp (yp k 0) = 2 ∧ cn_k yo yn rk yp (yp k 1) = cn_k yo yn rk yp (yp k 2))
  else if yo k = 13 then decide (cn_k yo yn rk yp (yp k 0) = cn_k yo yn rk yp (yp k 1) ∧ ¬ cn_k yo yn rk yp (yp k 0) = 4)
  else if yo k = 10 ∨ yo k = 11 then decide (cn_k yo yn rk yp (yp k 0) = 2 ∧ cn_k yo yn rk yp (yp k 1) = 2)
  else decide (cn_k yo yn rk yp (yp k 0) = 1 ∧ cn_k yo yn rk yp (yp k 1) = 1)
def cn_s (yo yn ya rk : Nat → Int32) (yp : Nat → Nat → Nat) (k : Nat) : Nat := if cn_ok yo yn rk yp k = true then 100 else (ya k).toNatClampNeg
/-- the least place below node k whose demand isn't met -/
def cn_b (yo yn ya rk : Nat → Int32) (yp : Nat → Nat → Nat) (k : Nat) : Nat :=
  min (cn_s yo yn ya rk yp k) (min (if h : 0 < gr_ar (yo k) ∧ k < yp k 0 ∧ yp k 0 < 40 then cn_b yo yn ya rk yp (yp k 0) else 100) (min (if h : 1 < gr_ar (yo k) ∧ k < yp k 1 ∧ yp k 1 < 40 then cn_b yo yn ya rk yp (yp k 1) else 100) (if h : 2 < gr_ar (yo k) ∧ k < yp k 2 ∧ yp k 2 < 40 then cn_b yo yn ya rk yp (yp k 2) else 100)))
termination_by 40 - k
decreasing_by all_goals omega
/-- a list with a second one behind it, which knows where it begins -/
def cn_seq (A : List cm_I) (a : Nat) (B : Nat → List cm_I) : List cm_I := A ++ B (a + A.length)
/-- the instructions of node k, from a on -/
def cn_c (yo yn ya yc : Nat → Int32) (yp : Nat → Nat → Nat) (k a : Nat) : List cm_I :=
  if yo k = 0 ∨ yo k = 3 ∨ yo k = 4 ∨ yo k = 19 then [(yo k, yn k, 0, ya k)]
  else if h0 : k < yp k 0 ∧ yp k 0 < 40 then
    (if yo k = 1 ∨ yo k = 2 ∨ yo k = 5 then cn_c yo yn ya yc yp (yp k 0) a ++ [(yo k, yn k, 0, ya k)]
    else if yo k = 12 ∨ yo k = 23 then cn_c yo yn ya yc yp (yp k 0) a ++ [(yo k, 0, 0, ya k)]
    else if h1 : k < yp k 1 ∧ yp k 1 < 40 then
      (if yo k = 8 then
        (if h2 : k < yp k 2 ∧ yp k 2 < 40 then
          cn_seq (cn_c yo yn ya yc yp (yp k 0) a) a (fun m => (8, 0, nI (m + 1 + (cn_c yo yn ya yc yp (yp k 1) (m + 1)).length + 1), ya k) :: cn_seq (cn_c yo yn ya yc yp (yp k 1) (m + 1)) (m + 1) (fun m2 => (9, 0, nI (m2 + 1 + (cn_c yo yn ya yc yp (yp k 2) (m2 + 1)).length), yc k) :: cn_c yo yn ya yc yp (yp k 2) (m2 + 1)))
        else [])
      else if yo k = 10 ∨ yo k = 11 then
        cn_seq (cn_c yo yn ya yc yp (yp k 0) a) a (fun m => (yo k, 0, nI (m + 1 + (cn_c yo yn ya yc yp (yp k 1) (m + 1)).length), ya k) :: cn_c yo yn ya yc yp (yp k 1) (m + 1))
      else if 20 ≤ yo k then
        cn_seq (cn_c yo yn ya yc yp (yp k 0) a) a (fun m => (yo k, yn k, nI (m + 1 + (cn_c yo yn ya yc yp (yp k 1) (m + 1)).length + 1), ya k) :: (cn_c yo yn ya yc yp (yp k 1) (m + 1) ++ [(24, nI m, 0, ya k)]))
      else cn_seq (cn_c yo yn ya yc yp (yp k 0) a) a (fun m => cn_c yo yn ya yc yp (yp k 1) m ++ [(yo k, 0, 0, ya k)]))
    else [])
  else []
termination_by 40 - k
decreasing_by all_goals omega
section
variable {yo yn ya yc rk : Nat → Int32} {yp : Nat → Nat → Nat} {k : Nat}
theorem cn_c_leaf {a : Nat} (h : yo k = 0 ∨ yo k = 3 ∨ yo k = 4 ∨ yo k = 19) : cn_c yo yn ya yc yp k a = [(yo k, yn k, 0, ya k)] := by
  rw [cn_c, if_pos h]
theorem cn_c_un {a : Nat} (h0 : k < yp k 0 ∧ yp k 0 < 40) (h : yo k = 1 ∨ yo k = 2 ∨ yo k = 5) : cn_c yo yn ya yc yp k a = cn_c yo yn ya yc yp (yp k 0) a ++ [(yo k, yn k, 0, ya k)] := by
  rw [cn_c, if_neg (by rcases h with z | z | z <;> rw [z] <;> decide), dif_pos h0, if_pos h]
theorem cn_c_si {a : Nat} (h0 : k < yp k 0 ∧ yp k 0 < 40) (h : yo k = 12 ∨ yo k = 23) : cn_c yo yn ya yc yp k a = cn_c yo yn ya yc yp (yp k 0) a ++ [(yo k, 0, 0, ya k)] := by
  rw [cn_c, if_neg (by rcases h with z | z <;> rw [z] <;> decide), dif_pos h0, if_neg (by rcases h with z | z <;> rw [z] <;> decide), if_pos h]
theorem cn_c_if {a : Nat} (h0 : k < yp k 0 ∧ yp k 0 < 40) (h1 : k < yp k 1 ∧ yp k 1 < 40) (h2 : k < yp k 2 ∧ yp k 2 < 40) (h : yo k = 8) : cn_c yo yn ya yc yp k a = cn_seq (cn_c yo yn ya yc yp (yp k 0) a) a (fun m => (8, 0, nI (m + 1 + (cn_c yo yn ya yc yp (yp k 1) (m + 1)).length + 1), ya k) :: cn_seq (cn_c yo yn ya yc yp (yp k 1) (m + 1)) (m + 1) (fun m2 => (9, 0, nI (m2 + 1 + (cn_c yo yn ya yc yp (yp k 2) (m2 + 1)).length), yc k) :: cn_c yo yn ya yc yp (yp k 2) (m2 + 1))) := by
  rw [cn_c, if_neg (by rw [h]; decide), dif_pos h0, if_neg (by rw [h]; decide), if_neg (by rw [h]; decide), dif_pos h1, if_pos h, dif_pos h2]
theorem cn_c_lo {a : Nat} (h0 : k < yp k 0 ∧ yp k 0 < 40) (h1 : k < yp k 1 ∧ yp k 1 < 40) (h : yo k = 10 ∨ yo k = 11) : cn_c yo yn ya yc yp k a = cn_seq (cn_c yo yn ya yc yp (yp k 0) a) a (fun m => (yo k, 0, nI (m + 1 + (cn_c yo yn ya yc yp (yp k 1) (m + 1)).length), ya k) :: cn_c yo yn ya yc yp (yp k 1) (m + 1)) := by
  rw [cn_c, if_neg (by rcases h with z | z <;> rw [z] <;> decide), dif_pos h0, if_neg (by rcases h with z | z <;> rw [z] <;> decide), if_neg (by rcases h with z | z <;> rw [z] <;> decide), dif_pos h1, if_neg (by rcases h with z | z <;> rw [z] <;> decide), if_pos h]
theorem cn_c_qn {a : Nat} (h0 : k < yp k 0 ∧ yp k 0 < 40) (h1 : k < yp k 1 ∧ yp k 1 < 40) (h : yo k = 20 ∨ yo k = 21 ∨ yo k = 22) : cn_c yo yn ya yc yp k a = cn_seq (cn_c yo yn ya yc yp (yp k 0) a) a (fun m => (yo k, yn k, nI (m + 1 + (cn_c yo yn ya yc yp (yp k 1) (m + 1)).length + 1), ya k) :: (cn_c yo yn ya yc yp (yp k 1) (m + 1) ++ [(24, nI m, 0, ya k)])) := by
  rw [cn_c, if_neg (by rcases h with z | z | z <;> rw [z] <;> decide), dif_pos h0, if_neg (by rcases h with z | z | z <;> rw [z] <;> decide), if_neg (by rcases h with z | z | z <;> rw [z] <;> decide), dif_pos h1, if_neg (by rcases h with z | z | z <;> rw [z] <;> decide), if_neg (by rcases h with z | z | z <;> rw [z] <;> decide), if_pos (by rcases h with z | z | z <;> rw [z] <;> decide)]
theorem cn_c_bi {a : Nat} (h0 : k < yp k 0 ∧ yp k 0 < 40) (h1 : k < yp k 1 ∧ yp k 1 < 40) (h : yo k = 13 ∨ yo k = 14 ∨ yo k = 15 ∨ yo k = 16 ∨ yo k = 17 ∨ yo k = 18) : cn_c yo yn ya yc yp k a = cn_seq (cn_c yo yn ya yc yp (yp k 0) a) a (fun m => cn_c yo yn ya yc yp (yp k 1) m ++ [(yo k, 0, 0, ya k)]) := by
  rw [cn_c, if_neg (by rcases h with z | z | z | z | z | z <;> rw [z] <;> decide), dif_pos h0, if_neg (by rcases h with z | z | z | z | z | z <;> rw [z] <;> decide), if_neg (by rcases h with z | z | z | z | z | z <;> rw [z] <;> decide), dif_pos h1, if_neg (by rcases h with z | z | z | z | z | z <;> rw [z] <;> decide), if_neg (by rcases h with z | z | z | z | z | z <;> rw [z] <;> decide), if_neg (by rcases h with z | z | z | z | z | z <;> rw [z] <;> decide)]
theorem cn_b_0 (h : gr_ar (yo k) = 0) : cn_b yo yn ya rk yp k = min (cn_s yo yn ya rk yp k) 100 := by
  rw [cn_b, dif_neg (by omega), dif_neg (by omega), dif_neg (by omega)]; rfl
theorem cn_b_1 (h0 : k < yp k 0 ∧ yp k 0 < 40) (h : gr_ar (yo k) = 1) : cn_b yo yn ya rk yp k = min (cn_s yo yn ya rk yp k) (min (cn_b yo yn ya rk yp (yp k 0)) 100) := by
  rw [cn_b, dif_pos ⟨by omega, h0⟩, dif_neg (by omega), dif_neg (by omega)]; rfl
theorem cn_b_2 (h0 : k < yp k 0 ∧ yp k 0 < 40) (h1 : k < yp k 1 ∧ yp k 1 < 40) (h : gr_ar (yo k) = 2) : cn_b yo yn ya rk yp k = min (cn_s yo yn ya rk yp k) (min (cn_b yo yn ya rk yp (yp k 0)) (min (cn_b yo yn ya rk yp (yp k 1)) 100)) := by
  rw [cn_b, dif_pos ⟨by omega, h0⟩, dif_pos ⟨by omega, h1⟩, dif_neg (by omega)]
theorem cn_b_3 (h0 : k < yp k 0 ∧ yp k 0 < 40) (h1 : k < yp k 1 ∧ yp k 1 < 40) (h2 : k < yp k 2 ∧ yp k 2 < 40) (h : gr_ar (yo k) = 3) : cn_b yo yn ya rk yp k = min (cn_s yo yn ya rk yp k) (min (cn_b yo yn ya rk yp (yp k 0)) (min (cn_b yo yn ya rk yp (yp k 1)) (cn_b yo yn ya rk yp (yp k 2)))) := by
  rw [cn_b, dif_pos ⟨by omega, h0⟩, dif_pos ⟨by omega, h1⟩, dif_pos ⟨by omega, h2⟩]
theorem cn_b_le : cn_b yo yn ya rk yp k ≤ cn_s yo yn ya rk yp k := by
  rw [cn_b]; exact Nat.min_le_left _ _
end
/-! the machine that reads the tokens -/
def cm_end (T : Nat → Nat) (i : Nat) : Bool := decide (T i ≤ 4 ∨ T i = 7 ∨ T i = 19)
def cm_pre (T : Nat → Nat) (i : Nat) : Bool := decide (T i = 12) || (decide (T i = 16) && (decide (i = 0) || !cm_end T (i - 1)))
def cm_str (T : Nat → Nat) (i : Nat) : Nat :=
  if T i = 9 then 1 else if T i = 10 then 2 else if T i = 11 then 3 else if T i = 12 then 7 else if T i = 13 ∨ T i = 14 then 4 else if T i = 15 then 5
  else if T i = 16 then (if cm_pre T i = true then 7 else 5) else if T i = 17 ∨ T i = 18 then 6 else 0
def cm_aim : List cm_I → Nat → Int32 → List cm_I
  | [], _, _ => []
  | x :: r, 0, v => (x.1, x.2.1, v, x.2.2.2) :: r
  | x :: r, i + 1, v => x :: cm_aim r i v
def cm_dem (ok : Bool) (p lst : Nat) : Nat := if ok = true then lst else min lst p
abbrev cm_R : Type := List Int32 × List cm_I × Nat
def cm_ap (T : Nat → Nat) (i c : Nat) (z : cm_R) : Option cm_R :=
  if cm_pre T i = true then (match z.1 with
    | x :: ks => some ((if T i = 12 then 2 else 1) :: ks, z.2.1 ++ [((if T i = 12 then 12 else 23), 0, 0, nI i)], cm_dem (decide (x = (if T i = 12 then 2 else 1))) i z.2.2)
    | [] => none)
  else if T i = 9 then (match z.1 with
    | y2 :: y1 :: x :: ks => some (y1 :: ks, cm_aim z.2.1 c (nI z.2.1.length), cm_dem (decide (y1 = y2)) (ca_o T i) (cm_dem (decide (x = 2)) (ca_o T i) z.2.2))
    | _ => none)
  else if T i = 10 ∨ T i = 11 then (match z.1 with
    | y :: x :: ks => some (2 :: ks, cm_aim z.2.1 c (nI z.2.1.length), cm_dem (decide (x = 2 ∧ y = 2)) i z.2.2)
    | _ => none)
  else (match z.1 with
    | y :: x :: ks => some ((if 15 ≤ T i then 1 else 2) :: ks, z.2.1 ++ [(nI (T i), 0, 0, nI i)], cm_dem (if T i = 13 then decide (x = y ∧ ¬ x = 4) else decide (x = 1 ∧ y = 1)) i z.2.2)
    | _ => none)
def cm_se (T : Nat → Nat) (q : Nat) : List (Nat × Nat) → cm_R → Option (List (Nat × Nat) × cm_R)
  | [], z => some ([], z)
  | e :: r, z => if cm_str T e.1 < q then some (e :: r, z) else (match cm_ap T e.1 e.2 z with
    | none => none
    | some z' => cm_se T q r z')
def cm_sf (T : Nat → Nat) (i : Nat) : Nat := if T i = 7 ∨ T i = 9 then 1 else if T i = 8 then 2 else if cm_str T i = 0 ∨ cm_str T i = 7 then 8 else cm_str T i
def cm_kp (p : Int32) : Int32 := if 3 ≤ p then (if p = 3 then 3 else 4) else 1
def cm_tr (T : Nat → Nat) (tv kc : Nat → Int32) (i : Nat) (s : List (Nat × Nat) × cm_R) : Option (List (Nat × Nat) × cm_R) :=
  if T i = 0 then some (s.1, (1 :: s.2.1, s.2.2.1 ++ [(0, tv i, 0, nI i)], s.2.2.2))
  else if T i = 3 ∨ T i = 4 ∨ T i = 19 then some (s.1, (3 :: s.2.1, s.2.2.1 ++ [(nI (T i), tv i, 0, nI i)], s.2.2.2))
  else if T i = 1 ∨ T i = 2 then (match s.2.1 with
    | x :: ks => some (s.1, (cm_kp (tv i) :: ks, s.2.2.1 ++ [(nI (T i), tv i, 0, nI i)], cm_dem (decide (x = 3)) i s.2.2.2))
    | [] => none)
  else if T i = 6 then (if 0 < i ∧ (T (i - 1) = 5 ∨ 20 ≤ T (i - 1)) then some s else some ((i, 0) :: s.1, s.2))
  else if T i = 9 then (match s.1 with
    | [] => none
    | e :: r => if ¬ e.1 = ca_o T i then none
      else if 20 ≤ T (ca_o T i) then some ((e.1, s.2.2.1.length) :: r, (s.2.1, s.2.2.1 ++ [(nI (T (ca_o T i)), tv (ca_o T i), 0, nI (ca_o T i))], s.2.2.2))
      else some ((i, s.2.2.1.length) :: r, (s.2.1, cm_aim (s.2.2.1 ++ [(9, 0, 0, nI i)]) e.2 (nI (s.2.2.1.length + 1)), s.2.2.2)))
  else if T i = 7 then (match s.1 with
    | [] => none
    | e :: r => if ¬ e.1 = ca_o T i then none
      else if T (ca_o T i) = 5 then (match s.2.1 with
        | x :: ks => some (r, (kc (ca_o T i) :: ks, s.2.2.1 ++ [(5, tv (ca_o T i), 0, nI (ca_o T i))], cm_dem (decide (x = 3)) (ca_o T i) s.2.2.2))
        | [] => none)
      else if 20 ≤ T (ca_o T i) then (match s.2.1 with
        | y :: x :: ks => some (r, ((if T (ca_o T i) = 22 then 1 else 2) :: ks, cm_aim (s.2.2.1 ++ [(24, nI e.2, 0, nI (ca_o T i))]) e.2 (nI (s.2.2.1.length + 1)), cm_dem (decide (x = 4 ∧ y = (if T (ca_o T i) = 22 then 1 else 2))) (ca_o T i) s.2.2.2))
        | _ => none)
      else some (r, s.2))
  else if T i = 8 ∨ T i = 10 ∨ T i = 11 then some ((i, s.2.2.1.length) :: s.1, (s.2.1, s.2.2.1 ++ [(nI (T i), 0, 0, nI i)], s.2.2.2))
  else some ((i, 0) :: s.1, s.2)
def cm_step (T : Nat → Nat) (tv kc : Nat → Int32) (i : Nat) (s : List (Nat × Nat) × cm_R) : Option (List (Nat × Nat) × cm_R) := match cm_se T (cm_sf T i) s.1 s.2 with
  | none => none
  | some s' => cm_tr T tv kc i s'
def cm_run (T : Nat → Nat) (tv kc : Nat → Int32) : Nat → Nat → List (Nat × Nat) × cm_R → Option (List (Nat × Nat) × cm_R)
  | _, 0, s => some s
  | l, c + 1, s => match cm_step T tv kc l s with
    | none => none
    | some s' => cm_run T tv kc (l + 1) c s'
section
variable {T : Nat → Nat} {tv kc : Nat → Int32}
theorem cm_run_add : ∀ (c l d : Nat) (s : List (Nat × Nat) × cm_R), cm_run T tv kc l (c + d) s = (match cm_run T tv kc l c s with | none => none | some s' => cm_run T tv kc (l + c) d s')
  | 0, l, d, s => by rw [Nat.zero_add]; rfl
  | c + 1, l, d, s => by
    rw [show c + 1 + d = (c + d) + 1 by omega]
    show (match cm_step T tv kc l s with | none => none | some s' => cm_run T tv kc (l + 1) (c + d) s') = (match (match cm_step T tv kc l s with | none => none | some s' => cm_run T tv kc (l + 1) c s') with | none => none | some s' => cm_run T tv kc (l + (c + 1)) d s')
    cases cm_step T tv kc l s with
    | none => rfl
    | some s' =>
      dsimp only
      rw [cm_run_add c (l + 1) d s', show l + 1 + c = l + (c + 1) by omega]
theorem cm_run_2 {l m u : Nat} {s s' : List (Nat × Nat) × cm_R} (h1 : l ≤ m) (h2 : m ≤ u) (h : cm_run T tv kc l (m - l) s = some s') : cm_run T tv kc l (u - l) s = cm_run T tv kc m (u - m) s' := by
  rw [show u - l = (m - l) + (u - m) by omega, cm_run_add, h, show l + (m - l) = m by omega]
theorem cm_run_1 {l u : Nat} {s s' : List (Nat × Nat) × cm_R} (h1 : l < u) (h : cm_step T tv kc l s = some s') : cm_run T tv kc l (u - l) s = cm_run T tv kc (l + 1) (u - (l + 1)) s' := by
  rw [show u - l = (u - (l + 1)) + 1 by omega]
  show (match cm_step T tv kc l s with | none => none | some s' => cm_run T tv kc (l + 1) (u - (l + 1)) s') = _
  rw [h]
theorem cm_run_0 {l : Nat} {s : List (Nat × Nat) × cm_R} : cm_run T tv kc l (l - l) s = some s := by rw [Nat.sub_self]; rfl
theorem cm_stop {q : Nat} {stk : List (Nat × Nat)} {z : cm_R} (h : ∀ e r, stk = e :: r → cm_str T e.1 < q) : cm_se T q stk z = some (stk, z) := by
  cases stk with
  | nil => rfl
  | cons e r =>
    show (if cm_str T e.1 < q then some (e :: r, z) else _) = _
    rw [if_pos (h e r rfl)]
theorem cm_str7 (i : Nat) : cm_str T i ≤ 7 := by
  unfold cm_str
  repeat' split
  all_goals omega
theorem cm_aim_app (A : List cm_I) (x : cm_I) (B : List cm_I) (v : Int32) : cm_aim (A ++ x :: B) A.length v = A ++ (x.1, x.2.1, v, x.2.2.2) :: B := by
  induction A with
  | nil => rfl
  | cons y r ih =>
    show y :: cm_aim (r ++ x :: B) r.length v = y :: (r ++ _)
    rw [ih]
end
end
section
def cm_rq (w : Nat) : Nat := if 7 ≤ w then 8 else if w ≤ 1 then 2 else w
def cm_pu (yo yn ya yc rk : Nat → Int32) (yp : Nat → Nat → Nat) (k : Nat) (kd : List Int32) (code : List cm_I) (lst : Nat) : cm_R :=
  (cn_k yo yn rk yp k :: kd, code ++ cn_c yo yn ya yc yp k code.length, min lst (cn_b yo yn ya rk yp k))
def cm_P (T : Nat → Nat) (tv yo yn ya yc rk : Nat → Int32) (yp : Nat → Nat → Nat) (k w l u : Nat) : Prop :=
  ∀ (stk : List (Nat × Nat)) (kd : List Int32) (code : List cm_I) (lst : Nat), lst ≤ 100 → (∀ e r, stk = e :: r → cm_str T e.1 < cm_rq w) →
    ∃ st', cm_run T tv (fun o => rk (tv o).toNatClampNeg) l (u - l) (stk, (kd, code, lst)) = some st' ∧ (∀ q, q ≤ w → cm_se T q st'.1 st'.2 = cm_se T q stk (cm_pu yo yn ya yc rk yp k kd code lst)) ∧ (w = 8 → st' = (stk, cm_pu yo yn ya yc rk yp k kd code lst))
section
variable {T : Nat → Nat} {tv kc : Nat → Int32} {i : Nat}
theorem cm_eq3 {stk : List (Nat × Nat)} {a a' : List Int32} {b b' : List cm_I} {c c' : Nat} (h1 : a = a') (h2 : b = b') (h3 : c = c') : some (stk, (a, b, c)) = some (stk, (a', b', c')) := by rw [h1, h2, h3]
theorem cm_se8 {stk : List (Nat × Nat)} {z : cm_R} : cm_se T 8 stk z = some (stk, z) := cm_stop (fun e _ _ => by have := cm_str7 (T := T) e.1; omega)
theorem cm_stp {s s' : List (Nat × Nat) × cm_R} (h : cm_se T (cm_sf T i) s.1 s.2 = some s') : cm_step T tv kc i s = cm_tr T tv kc i s' := by
  unfold cm_step; rw [h]
theorem cm_sf8 (h : cm_str T i = 0 ∨ cm_str T i = 7) (h7 : T i ≠ 7) (h9 : T i ≠ 9) (h8 : T i ≠ 8) : cm_sf T i = 8 := by
  unfold cm_sf
  rw [if_neg (by omega), if_neg h8, if_pos h]
theorem cm_sf1 (h : T i = 7 ∨ T i = 9) : cm_sf T i = 1 := if_pos h
theorem cm_sf2 (h : T i = 8) : cm_sf T i = 2 := by unfold cm_sf; rw [if_neg (by omega), if_pos h]
theorem cm_str0 (h : T i ≤ 8 ∨ T i = 19 ∨ 20 ≤ T i) : cm_str T i = 0 := by
  unfold cm_str
  rw [if_neg (by omega), if_neg (by omega), if_neg (by omega), if_neg (by omega), if_neg (by omega), if_neg (by omega), if_neg (by omega), if_neg (by omega)]
theorem cm_pre_n (h12 : T i ≠ 12) (h : T i = 16 → 0 < i ∧ (T (i - 1) ≤ 4 ∨ T (i - 1) = 7 ∨ T (i - 1) = 19)) : cm_pre T i = false := by
  unfold cm_pre
  rw [decide_eq_false h12]
  by_cases t : T i = 16
  · obtain ⟨h1, h2⟩ := h t
    unfold cm_end
    rw [decide_eq_true h2, decide_eq_false (by omega : ¬ i = 0), decide_eq_true t]; rfl
  · rw [decide_eq_false t]; rfl
theorem cm_pre_y (h : T i = 12 ∨ (T i = 16 ∧ (i = 0 ∨ ¬ (T (i - 1) ≤ 4 ∨ T (i - 1) = 7 ∨ T (i - 1) = 19)))) : cm_pre T i = true := by
  unfold cm_pre
  rcases h with h | ⟨h1, h2⟩
  · rw [decide_eq_true h]; rfl
  · rw [decide_eq_true h1]
    rcases h2 with h2 | h2
    · rw [decide_eq_true h2]; cases decide (T i = 12) <;> rfl
    · unfold cm_end
      rw [decide_eq_false h2]
      cases decide (T i = 12) <;> cases decide (i = 0) <;> rfl
theorem cm_str_pre (h : T i = 12 ∨ (T i = 16 ∧ cm_pre T i = true)) : cm_str T i = 7 := by
  unfold cm_str
  rcases h with h | ⟨h1, h2⟩
  · rw [if_neg (by omega), if_neg (by omega), if_neg (by omega), if_pos h]
  · rw [if_neg (by omega), if_neg (by omega), if_neg (by omega), if_neg (by omega), if_neg (by omega), if_neg (by omega), if_pos h1, if_pos h2]
theorem cm_str_op (h : 10 ≤ T i ∧ T i ≤ 18 ∧ T i ≠ 12) (hp : cm_pre T i = false) : cm_str T i = ca_wt (T i) + 1 := by
  have e : T i = 10 ∨ T i = 11 ∨ T i = 13 ∨ T i = 14 ∨ T i = 15 ∨ T i = 16 ∨ T i = 17 ∨ T i = 18 := by omega
  unfold cm_str
  rcases e with e | e | e | e | e | e | e | e <;> rw [e] <;> first | rfl | (rw [hp]; rfl)
theorem cm_str9 (h : T i = 9) : cm_str T i = 1 := if_pos h
theorem cm_dem_eq {ok : Bool} {p L : Nat} (h : L ≤ 100) : cm_dem ok p L = min L (if ok = true then 100 else p) := by
  unfold cm_dem
  by_cases z : ok = true
  · rw [if_pos z, if_pos z]; omega
  · rw [if_neg z, if_neg z]
theorem cm_ar1 {x : Int32} (h : x = 1 ∨ x = 2 ∨ x = 5 ∨ x = 12 ∨ x = 23) : gr_ar x = 1 := by
  rcases h with rfl | rfl | rfl | rfl | rfl <;> decide
theorem cm_ar2 {x : Int32} (h : x = 10 ∨ x = 11 ∨ x = 13 ∨ x = 14 ∨ x = 15 ∨ x = 16 ∨ x = 17 ∨ x = 18 ∨ x = 20 ∨ x = 21 ∨ x = 22) : gr_ar x = 2 := by
  rcases h with rfl | rfl | rfl | rfl | rfl | rfl | rfl | rfl | rfl | rfl | rfl <;> decide
end
section
variable {yo yn ya yc rk : Nat → Int32} {yp : Nat → Nat → Nat} {k : Nat}
theorem cn_ok_un (h : yo k = 1 ∨ yo k = 2 ∨ yo k = 5) : cn_ok yo yn rk yp k = decide (cn_k yo yn rk yp (yp k 0) = 3) := by
  unfold cn_ok
  rw [if_neg (by rcases h with z | z | z <;> rw [z] <;> decide), if_pos h]
theorem cn_ok_12 (h : yo k = 12) : cn_ok yo yn rk yp k = decide (cn_k yo yn rk yp (yp k 0) = 2) := by
  unfold cn_ok
  rw [if_neg (by rw [h]; decide), if_neg (by rw [h]; decide), if_neg (by rw [h]; decide), if_pos h]
theorem cn_ok_23 (h : yo k = 23) : cn_ok yo yn rk yp k = decide (cn_k yo yn rk yp (yp k 0) = 1) := by
  unfold cn_ok
  rw [if_neg (by rw [h]; decide), if_neg (by rw [h]; decide), if_pos h]
theorem cn_ok_qn (h : yo k = 20 ∨ yo k = 21 ∨ yo k = 22) : cn_ok yo yn rk yp k = decide (cn_k yo yn rk yp (yp k 0) = 4 ∧ cn_k yo yn rk yp (yp k 1) = (if yo k = 22 then 1 else 2)) := by
  unfold cn_ok
  rw [if_neg (by rcases h with z | z | z <;> rw [z] <;> decide), if_neg (by rcases h with z | z | z <;> rw [z] <;> decide), if_neg (by rcases h with z | z | z <;> rw [z] <;> decide), if_neg (by rcases h with z | z | z <;> rw [z] <;> decide), if_pos (by rcases h with z | z | z <;> rw [z] <;> decide)]
theorem cn_ok_8 (h : yo k = 8) : cn_ok yo yn rk yp k = decide (cn_k yo yn rk yp (yp k 0) = 2 ∧ cn_k yo yn rk yp (yp k 1) = cn_k yo yn rk yp (yp k 2)) := by
  unfold cn_ok
  rw [if_neg (by rw [h]; decide), if_neg (by rw [h]; decide), if_neg (by rw [h]; decide), if_neg (by rw [h]; decide), if_neg (by rw [h]; decide), if_pos h]
theorem cn_ok_13 (h : yo k = 13) : cn_ok yo yn rk yp k = decide (cn_k yo yn rk yp (yp k 0) = cn_k yo yn rk yp (yp k 1) ∧ ¬ cn_k yo yn rk yp (yp k 0) = 4) := by
  unfold cn_ok
  rw [if_neg (by rw [h]; decide), if_neg (by rw [h]; decide), if_neg (by rw [h]; decide), if_neg (by rw [h]; decide), if_neg (by rw [h]; decide), if_neg (by rw [h]; decide), if_pos h]
theorem cn_ok_lo (h : yo k = 10 ∨ yo k = 11) : cn_ok yo yn rk yp k = decide (cn_k yo yn rk yp (yp k 0) = 2 ∧ cn_k yo yn rk yp (yp k 1) = 2) := by
  unfold cn_ok
  rw [if_neg (by rcases h with z | z <;> rw [z] <;> decide), if_neg (by rcases h with z | z <;> rw [z] <;> decide), if_neg (by rcases h with z | z <;> rw [z] <;> decide), if_neg (by rcases h with z | z <;> rw [z] <;> decide), if_neg (by rcases h with z | z <;> rw [z] <;> decide), if_neg (by rcases h with z | z <;> rw [z] <;> decide), if_neg (by rcases h with z | z <;> rw [z] <;> decide), if_pos h]
theorem cn_ok_ar (h : yo k = 14 ∨ yo k = 15 ∨ yo k = 16 ∨ yo k = 17 ∨ yo k = 18) : cn_ok yo yn rk yp k = decide (cn_k yo yn rk yp (yp k 0) = 1 ∧ cn_k yo yn rk yp (yp k 1) = 1) := by
  unfold cn_ok
  rw [if_neg (by rcases h with z | z | z | z | z <;> rw [z] <;> decide), if_neg (by rcases h with z | z | z | z | z <;> rw [z] <;> decide), if_neg (by rcases h with z | z | z | z | z <;> rw [z] <;> decide), if_neg (by rcases h with z | z | z | z | z <;> rw [z] <;> decide), if_neg (by rcases h with z | z | z | z | z <;> rw [z] <;> decide), if_neg (by rcases h with z | z | z | z | z <;> rw [z] <;> decide), if_neg (by rcases h with z | z | z | z | z <;> rw [z] <;> decide), if_neg (by rcases h with z | z | z | z | z <;> rw [z] <;> decide)]
end
section
variable {T : Nat → Nat} {tv yo yn ya yc rk : Nat → Int32} {yp : Nat → Nat → Nat} {k l u : Nat}
theorem cp_leaf (hu : u = l + 1) (hl : l < 1000) (ht : T l = 0 ∨ T l = 3 ∨ T l = 19 ∨ T l = 4) (ho : yo k = nI (T l)) (hn : yn k = tv l) (ha : ya k = nI l) : cm_P T tv yo yn ya yc rk yp k 8 l u := by
  intro stk kd code lst hlst htop
  have s0 : cm_str T l = 0 := cm_str0 (by omega)
  have hlf : yo k = 0 ∨ yo k = 3 ∨ yo k = 4 ∨ yo k = 19 := by
    rcases ht with z | z | z | z <;> rw [ho, z]
    · exact Or.inl rfl
    · exact Or.inr (Or.inl rfl)
    · exact Or.inr (Or.inr (Or.inr rfl))
    · exact Or.inr (Or.inr (Or.inl rfl))
  have hb : cn_b yo yn ya rk yp k = 100 := by
    rw [cn_b_0 (if_pos hlf)]
    unfold cn_s cn_ok
    rw [if_pos hlf]; rfl
  have hpush : cm_tr T tv (fun o => rk (tv o).toNatClampNeg) l (stk, (kd, code, lst)) = some (stk, cm_pu yo yn ya yc rk yp k kd code lst) := by
    unfold cm_pu
    rw [cn_c_leaf hlf, hb, Nat.min_eq_left hlst, ho, hn, ha]
    unfold cm_tr
    rcases ht with z | z | z | z
    · rw [if_pos z, cn_k, ho, z]; rfl
    · rw [if_neg (by omega), if_pos (Or.inl z), cn_k, ho, z]; rfl
    · rw [if_neg (by omega), if_pos (Or.inr (Or.inr z)), cn_k, ho, z]; rfl
    · rw [if_neg (by omega), if_pos (Or.inr (Or.inl z)), cn_k, ho, z]; rfl
  refine ⟨_, ?_, fun q _ => rfl, fun _ => rfl⟩
  subst hu
  rw [cm_run_1 (Nat.lt_succ_self l) ((cm_stp (by rw [cm_sf8 (Or.inl s0) (by omega) (by omega) (by omega)]; exact cm_se8)).trans hpush)]
  exact cm_run_0
theorem cp_post {c : Nat} (hu : u = c + 1) (hlc : l ≤ c) (hc : c < 1000) (ht : T c = 1 ∨ T c = 2) (hx : ∃ x, x < 6 ∧ tv c = nI x) (ho : yo k = nI (T c)) (hn : yn k = tv c) (ha : ya k = nI c) (h0 : k < yp k 0 ∧ yp k 0 < 40) (ih : cm_P T tv yo yn ya yc rk yp (yp k 0) 8 l c) : cm_P T tv yo yn ya yc rk yp k 8 l u := by
  intro stk kd code lst hlst htop
  obtain ⟨st, r1, r2, r3⟩ := ih stk kd code lst hlst htop
  rw [r3 rfl] at r1
  have s0 : cm_str T c = 0 := cm_str0 (by omega)
  have hop : yo k = 1 ∨ yo k = 2 := by
    rcases ht with z | z <;> rw [ho, z]
    · exact Or.inl rfl
    · exact Or.inr rfl
  obtain ⟨x, hx6, ex⟩ := hx
  have kk : cn_k yo yn rk yp k = cm_kp (tv c) := by
    rw [cn_k, if_neg (by rcases hop with z | z <;> rw [z] <;> decide), if_neg (by rcases hop with z | z <;> rw [z] <;> decide), if_neg (by rcases hop with z | z <;> rw [z] <;> decide), if_pos hop, hn, ex]
    unfold cm_kp
    by_cases z : 3 ≤ x
    · have p1 : (2 : Int32) < nI x := nI_lt (a := 2) (by omega) (by omega)
      have p2 : (3 : Int32) ≤ nI x := nI_le (a := 3) z (by omega)
      rw [if_pos p1, if_pos p2]
    · have p1 : ¬ (2 : Int32) < nI x := nI_nlt (a := 2) (by omega) (by omega)
      have p2 : ¬ (3 : Int32) ≤ nI x := nI_ge (b := 3) (by omega) (by decide)
      rw [if_neg p1, if_neg p2]
  have hb : cn_b yo yn ya rk yp k = min (if decide (cn_k yo yn rk yp (yp k 0) = 3) = true then 100 else c) (min (cn_b yo yn ya rk yp (yp k 0)) 100) := by
    rw [cn_b_1 h0 (cm_ar1 (by rcases hop with z | z <;> rw [z] <;> decide))]
    unfold cn_s
    rw [cn_ok_un (by rcases hop with z | z <;> rw [z] <;> decide), ha, nI_clamp (by omega)]
  have hstep : cm_tr T tv (fun o => rk (tv o).toNatClampNeg) c (stk, cm_pu yo yn ya yc rk yp (yp k 0) kd code lst) = some (stk, cm_pu yo yn ya yc rk yp k kd code lst) := by
    unfold cm_pu
    rw [cn_c_un h0 (by rcases hop with z | z <;> rw [z] <;> decide), hb, kk, ho, hn, ha]
    unfold cm_tr
    rw [if_neg (by omega), if_neg (by omega), if_pos ht]
    show some (stk, (cm_kp (tv c) :: kd, (code ++ _) ++ [(nI (T c), tv c, 0, nI c)], cm_dem _ c (min lst (cn_b yo yn ya rk yp (yp k 0))))) = _
    rw [cm_dem_eq (by omega), List.append_assoc]
    refine congrArg some (congrArg (fun y => (stk, (cm_kp (tv c) :: kd, _, y))) ?_)
    generalize (if decide (cn_k yo yn rk yp (yp k 0) = 3) = true then 100 else c) = A
    omega
  refine ⟨_, ?_, fun q _ => rfl, fun _ => rfl⟩
  subst hu
  rw [cm_run_2 hlc (Nat.le_succ c) r1, cm_run_1 (Nat.lt_succ_self c) ((cm_stp (by rw [cm_sf8 (Or.inl s0) (by omega) (by omega) (by omega)]; exact cm_se8)).trans hstep)]
  exact cm_run_0
theorem cp_par {c w' : Nat} (hu : u = c + 1) (hlc : l + 1 ≤ c) (ht : T l = 6) (htc : T c = 7) (hoc : ca_o T c = l) (hprev : l = 0 ∨ ¬ (T (l - 1) = 5 ∨ 20 ≤ T (l - 1))) (hw : 1 ≤ w') (ih : cm_P T tv yo yn ya yc rk yp k w' (l + 1) c) : cm_P T tv yo yn ya yc rk yp k 8 l u := by
  intro stk kd code lst hlst htop
  have s0 : cm_str T l = 0 := cm_str0 (by omega)
  obtain ⟨st, r1, r2, r3⟩ := ih ((l, 0) :: stk) kd code lst hlst (fun e r z => by
    rw [← (List.cons.inj z).1]
    show cm_str T l < cm_rq w'
    rw [s0]; unfold cm_rq; repeat' split
    all_goals omega)
  have a1 : cm_step T tv (fun o => rk (tv o).toNatClampNeg) l (stk, (kd, code, lst)) = some ((l, 0) :: stk, (kd, code, lst)) := by
    rw [cm_stp (s' := (stk, (kd, code, lst))) (by rw [cm_sf8 (Or.inl s0) (by omega) (by omega) (by omega)]; exact cm_se8)]
    unfold cm_tr
    rw [if_neg (by omega), if_neg (by omega), if_neg (by omega), if_pos ht, if_neg (by omega)]
  have a2 : cm_step T tv (fun o => rk (tv o).toNatClampNeg) c st = some (stk, cm_pu yo yn ya yc rk yp k kd code lst) := by
    rw [cm_stp (s' := ((l, 0) :: stk, cm_pu yo yn ya yc rk yp k kd code lst)) (by
      rw [cm_sf1 (Or.inl htc), r2 1 hw]
      exact cm_stop (fun e r z => by rw [← (List.cons.inj z).1]; show cm_str T l < 1; omega))]
    unfold cm_tr
    rw [if_neg (by omega), if_neg (by omega), if_neg (by omega), if_neg (by omega), if_neg (by omega), if_pos htc]
    show (if ¬ l = ca_o T c then none else _) = _
    rw [hoc, if_neg (fun z => z rfl), if_neg (by omega), if_neg (by omega)]
  refine ⟨_, ?_, fun q _ => rfl, fun _ => rfl⟩
  subst hu
  rw [cm_run_1 (by omega) a1, cm_run_2 (m := c) hlc (by omega) r1, cm_run_1 (Nat.lt_succ_self c) a2]
  exact cm_run_0
theorem cp_call {c w' : Nat} (hu : u = c + 1) (hlc : l + 2 ≤ c) (hl : l < 1000) (ht : T l = 5) (ht1 : T (l + 1) = 6) (htc : T c = 7) (hoc : ca_o T c = l) (ho : yo k = 5) (hn : yn k = tv l) (ha : ya k = nI l) (h0 : k < yp k 0 ∧ yp k 0 < 40) (hw : 1 ≤ w') (ih : cm_P T tv yo yn ya yc rk yp (yp k 0) w' (l + 2) c) : cm_P T tv yo yn ya yc rk yp k 8 l u := by
  intro stk kd code lst hlst htop
  have s0 : cm_str T l = 0 := cm_str0 (by omega)
  have s1 : cm_str T (l + 1) = 0 := cm_str0 (by omega)
  obtain ⟨st, r1, r2, r3⟩ := ih ((l, 0) :: stk) kd code lst hlst (fun e r z => by
    rw [← (List.cons.inj z).1]
    show cm_str T l < cm_rq w'
    rw [s0]; unfold cm_rq; repeat' split
    all_goals omega)
  have a1 : cm_step T tv (fun o => rk (tv o).toNatClampNeg) l (stk, (kd, code, lst)) = some ((l, 0) :: stk, (kd, code, lst)) := by
    rw [cm_stp (s' := (stk, (kd, code, lst))) (by rw [cm_sf8 (Or.inl s0) (by omega) (by omega) (by omega)]; exact cm_se8)]
    unfold cm_tr
    rw [if_neg (by omega), if_neg (by omega), if_neg (by omega), if_neg (by omega), if_neg (by omega), if_neg (by omega), if_neg (by omega)]
  have a3 : cm_step T tv (fun o => rk (tv o).toNatClampNeg) (l + 1) ((l, 0) :: stk, (kd, code, lst)) = some ((l, 0) :: stk, (kd, code, lst)) := by
    rw [cm_stp (s' := ((l, 0) :: stk, (kd, code, lst))) (by rw [cm_sf8 (Or.inl s1) (by omega) (by omega) (by omega)]; exact cm_se8)]
    unfold cm_tr
    rw [if_neg (by omega), if_neg (by omega), if_neg (by omega), if_pos ht1, if_pos (by rw [Nat.add_sub_cancel]; omega)]
  have kk : cn_k yo yn rk yp k = rk (tv l).toNatClampNeg := by rw [cn_k, if_neg (by rw [ho]; decide), if_pos ho, hn]
  have hb : cn_b yo yn ya rk yp k = min (if decide (cn_k yo yn rk yp (yp k 0) = 3) = true then 100 else l) (min (cn_b yo yn ya rk yp (yp k 0)) 100) := by
    rw [cn_b_1 h0 (cm_ar1 (by rw [ho]; decide))]
    unfold cn_s
    rw [cn_ok_un (by rw [ho]; decide), ha, nI_clamp (by omega)]
  have a2 : cm_step T tv (fun o => rk (tv o).toNatClampNeg) c st = some (stk, cm_pu yo yn ya yc rk yp k kd code lst) := by
    rw [cm_stp (s' := ((l, 0) :: stk, cm_pu yo yn ya yc rk yp (yp k 0) kd code lst)) (by
      rw [cm_sf1 (Or.inl htc), r2 1 hw]
      exact cm_stop (fun e r z => by rw [← (List.cons.inj z).1]; show cm_str T l < 1; omega))]
    unfold cm_tr
    rw [if_neg (by omega), if_neg (by omega), if_neg (by omega), if_neg (by omega), if_neg (by omega), if_pos htc]
    show (if ¬ l = ca_o T c then none else _) = _
    rw [hoc, if_neg (fun z => z rfl), if_pos ht]
    unfold cm_pu
    rw [cn_c_un h0 (by rw [ho]; decide), hb, kk, ho, hn, ha]
    show some (stk, (rk (tv l).toNatClampNeg :: kd, (code ++ _) ++ [(5, tv l, 0, nI l)], cm_dem _ l (min lst (cn_b yo yn ya rk yp (yp k 0))))) = _
    rw [cm_dem_eq (by omega), List.append_assoc]
    refine congrArg some (congrArg (fun y => (stk, (rk (tv l).toNatClampNeg :: kd, _, y))) ?_)
    generalize (if decide (cn_k yo yn rk yp (yp k 0) = 3) = true then 100 else l) = A
    omega
  refine ⟨_, ?_, fun q _ => rfl, fun _ => rfl⟩
  subst hu
  rw [cm_run_1 (by omega) a1, cm_run_1 (by omega) a3, cm_run_2 (m := c) hlc (by omega) r1, cm_run_1 (Nat.lt_succ_self c) a2]
  exact cm_run_0
theorem cp_qnt {c m w1 w2 : Nat} (hu : u = c + 1) (hlm : l + 2 ≤ m) (hmc : m + 1 ≤ c) (hl : l < 1000) (ht : 20 ≤ T l) (ht23 : T l < 23) (ht1 : T (l + 1) = 6) (htm : T m = 9) (hom : ca_o T m = l) (htc : T c = 7) (hoc : ca_o T c = l) (ho : yo k = nI (T l)) (hn : yn k = tv l) (ha : ya k = nI l) (h0 : k < yp k 0 ∧ yp k 0 < 40) (h1 : k < yp k 1 ∧ yp k 1 < 40) (hw1 : 1 ≤ w1) (hw2 : 1 ≤ w2) (ih1 : cm_P T tv yo yn ya yc rk yp (yp k 0) w1 (l + 2) m) (ih2 : cm_P T tv yo yn ya yc rk yp (yp k 1) w2 (m + 1) c) : cm_P T tv yo yn ya yc rk yp k 8 l u := by
  intro stk kd code lst hlst htop
  have s0 : cm_str T l = 0 := cm_str0 (by omega)
  have s1 : cm_str T (l + 1) = 0 := cm_str0 (by omega)
  have rqp : ∀ w, 0 < cm_rq w := by
    intro w; unfold cm_rq; repeat' split
    all_goals omega
  have hop : yo k = 20 ∨ yo k = 21 ∨ yo k = 22 := by
    have z3 : T l = 20 ∨ T l = 21 ∨ T l = 22 := by omega
    rcases z3 with z | z | z <;> rw [ho, z]
    · exact Or.inl rfl
    · exact Or.inr (Or.inl rfl)
    · exact Or.inr (Or.inr rfl)
  have h22 : yo k = 22 ↔ T l = 22 := by
    rw [ho]; exact nI_eq (b := 22) (by omega) (by decide)
  obtain ⟨st, r1, r2, r3⟩ := ih1 ((l, 0) :: stk) kd code lst hlst (fun e r z => by
    rw [← (List.cons.inj z).1]
    show cm_str T l < cm_rq w1
    rw [s0]; exact rqp w1)
  have a1 : cm_step T tv (fun o => rk (tv o).toNatClampNeg) l (stk, (kd, code, lst)) = some ((l, 0) :: stk, (kd, code, lst)) := by
    rw [cm_stp (s' := (stk, (kd, code, lst))) (by rw [cm_sf8 (Or.inl s0) (by omega) (by omega) (by omega)]; exact cm_se8)]
    unfold cm_tr
    rw [if_neg (by omega), if_neg (by omega), if_neg (by omega), if_neg (by omega), if_neg (by omega), if_neg (by omega), if_neg (by omega)]
  have a3 : cm_step T tv (fun o => rk (tv o).toNatClampNeg) (l + 1) ((l, 0) :: stk, (kd, code, lst)) = some ((l, 0) :: stk, (kd, code, lst)) := by
    rw [cm_stp (s' := ((l, 0) :: stk, (kd, code, lst))) (by rw [cm_sf8 (Or.inl s1) (by omega) (by omega) (by omega)]; exact cm_se8)]
    unfold cm_tr
    rw [if_neg (by omega), if_neg (by omega), if_neg (by omega), if_pos ht1, if_pos (by rw [Nat.add_sub_cancel]; omega)]
  have la : (code ++ cn_c yo yn ya yc yp (yp k 0) code.length).length = code.length + (cn_c yo yn ya yc yp (yp k 0) code.length).length := List.length_append
  have a4 : cm_step T tv (fun o => rk (tv o).toNatClampNeg) m st = some ((l, code.length + (cn_c yo yn ya yc yp (yp k 0) code.length).length) :: stk, (cn_k yo yn rk yp (yp k 0) :: kd, (code ++ cn_c yo yn ya yc yp (yp k 0) code.length) ++ [(nI (T l), tv l, 0, nI l)], min lst (cn_b yo yn ya rk yp (yp k 0)))) := by
    rw [cm_stp (s' := ((l, 0) :: stk, cm_pu yo yn ya yc rk yp (yp k 0) kd code lst)) (by
      rw [cm_sf1 (Or.inr htm), r2 1 hw1]
      exact cm_stop (fun e r z => by rw [← (List.cons.inj z).1]; show cm_str T l < 1; omega))]
    unfold cm_tr
    rw [if_neg (by omega), if_neg (by omega), if_neg (by omega), if_neg (by omega), if_pos htm]
    show (if ¬ l = ca_o T m then none else _) = _
    rw [hom, if_neg (fun z => z rfl), if_pos ht]
    unfold cm_pu
    dsimp only
    rw [la]
  obtain ⟨st2, q1, q2, q3⟩ := ih2 ((l, code.length + (cn_c yo yn ya yc yp (yp k 0) code.length).length) :: stk) (cn_k yo yn rk yp (yp k 0) :: kd) ((code ++ cn_c yo yn ya yc yp (yp k 0) code.length) ++ [(nI (T l), tv l, 0, nI l)]) (min lst (cn_b yo yn ya rk yp (yp k 0))) (by omega) (fun e r z => by
    rw [← (List.cons.inj z).1]
    show cm_str T l < cm_rq w2
    rw [s0]; exact rqp w2)
  have lb : ((code ++ cn_c yo yn ya yc yp (yp k 0) code.length) ++ [(nI (T l), tv l, 0, nI l)]).length = code.length + (cn_c yo yn ya yc yp (yp k 0) code.length).length + 1 := by
    rw [List.length_append, la]; rfl
  have kk : cn_k yo yn rk yp k = (if T l = 22 then 1 else 2) := by
    rw [cn_k, if_neg (by rcases hop with z | z | z <;> rw [z] <;> decide), if_neg (by rcases hop with z | z | z <;> rw [z] <;> decide), if_neg (by rcases hop with z | z | z <;> rw [z] <;> decide), if_neg (by rcases hop with z | z | z <;> rw [z] <;> decide)]
    by_cases z : T l = 22
    · rw [if_pos z, if_neg (by rw [h22.2 z]; decide)]
    · have hop2 : yo k = 20 ∨ yo k = 21 := by
        rcases hop with y | y | y
        · exact Or.inl y
        · exact Or.inr y
        · exact absurd (h22.1 y) z
      rw [if_neg z, if_pos (Or.inr hop2)]
  have hb : cn_b yo yn ya rk yp k = min (if decide (cn_k yo yn rk yp (yp k 0) = 4 ∧ cn_k yo yn rk yp (yp k 1) = (if T l = 22 then 1 else 2)) = true then 100 else l) (min (cn_b yo yn ya rk yp (yp k 0)) (min (cn_b yo yn ya rk yp (yp k 1)) 100)) := by
    rw [cn_b_2 h0 h1 (cm_ar2 (by rcases hop with z | z | z <;> rw [z] <;> decide))]
    unfold cn_s
    rw [cn_ok_qn hop, ha, nI_clamp (by omega)]
    by_cases z : T l = 22
    · rw [if_pos (h22.2 z), if_pos z]
    · rw [if_neg (fun y => z (h22.1 y)), if_neg z]
  have a2 : cm_step T tv (fun o => rk (tv o).toNatClampNeg) c st2 = some (stk, cm_pu yo yn ya yc rk yp k kd code lst) := by
    rw [cm_stp (s' := ((l, code.length + (cn_c yo yn ya yc yp (yp k 0) code.length).length) :: stk, cm_pu yo yn ya yc rk yp (yp k 1) (cn_k yo yn rk yp (yp k 0) :: kd) ((code ++ cn_c yo yn ya yc yp (yp k 0) code.length) ++ [(nI (T l), tv l, 0, nI l)]) (min lst (cn_b yo yn ya rk yp (yp k 0))))) (by
      rw [cm_sf1 (Or.inl htc), q2 1 hw2]
      exact cm_stop (fun e r z => by rw [← (List.cons.inj z).1]; show cm_str T l < 1; omega))]
    unfold cm_tr
    rw [if_neg (by omega), if_neg (by omega), if_neg (by omega), if_neg (by omega), if_neg (by omega), if_pos htc]
    show (if ¬ l = ca_o T c then none else _) = _
    rw [hoc, if_neg (fun z => z rfl), if_neg (by omega), if_pos ht]
    unfold cm_pu
    rw [cn_c_qn h0 h1 hop, hb, kk, lb, ho, hn, ha]
    dsimp only
    rw [cm_dem_eq (by omega)]
    unfold cn_seq
    have e1 : ((code ++ cn_c yo yn ya yc yp (yp k 0) code.length) ++ [(nI (T l), tv l, 0, nI l)]) ++ cn_c yo yn ya yc yp (yp k 1) (code.length + (cn_c yo yn ya yc yp (yp k 0) code.length).length + 1) ++ [(24, nI (code.length + (cn_c yo yn ya yc yp (yp k 0) code.length).length), 0, nI l)] = (code ++ cn_c yo yn ya yc yp (yp k 0) code.length) ++ (nI (T l), tv l, 0, nI l) :: (cn_c yo yn ya yc yp (yp k 1) (code.length + (cn_c yo yn ya yc yp (yp k 0) code.length).length + 1) ++ [(24, nI (code.length + (cn_c yo yn ya yc yp (yp k 0) code.length).length), 0, nI l)]) := by
      simp only [List.append_assoc, List.cons_append, List.nil_append]
    have e2 := cm_aim_app (code ++ cn_c yo yn ya yc yp (yp k 0) code.length) (nI (T l), tv l, 0, nI l) (cn_c yo yn ya yc yp (yp k 1) (code.length + (cn_c yo yn ya yc yp (yp k 0) code.length).length + 1) ++ [(24, nI (code.length + (cn_c yo yn ya yc yp (yp k 0) code.length).length), 0, nI l)])
    rw [la] at e2
    rw [e1, e2, List.length_append, lb, List.append_assoc]
    refine cm_eq3 rfl rfl ?_
    generalize (if decide (cn_k yo yn rk yp (yp k 0) = 4 ∧ cn_k yo yn rk yp (yp k 1) = (if T l = 22 then 1 else 2)) = true then 100 else l) = A
    omega
  refine ⟨_, ?_, fun q _ => rfl, fun _ => rfl⟩
  subst hu
  rw [cm_run_1 (by omega) a1, cm_run_1 (by omega) a3, cm_run_2 (m := m) hlm (by omega) r1, cm_run_1 (by omega) a4, cm_run_2 (m := c) hmc (by omega) q1, cm_run_1 (Nat.lt_succ_self c) a2]
  exact cm_run_0
end
end
section
theorem cm_rq_ge {w : Nat} (h : 2 ≤ w) : w ≤ cm_rq w ∨ w = 8 ∨ 8 < w := by
  unfold cm_rq; repeat' split
  all_goals omega
theorem cm_rq_lt {a w : Nat} (ha : a ≤ 6) (h : a < w) (h2 : 2 ≤ w) : a < cm_rq w := by
  unfold cm_rq; repeat' split
  all_goals omega
theorem cm_rq_mono {w w1 : Nat} (h : w ≤ w1) : cm_rq w ≤ cm_rq w1 := by
  unfold cm_rq; repeat' split
  all_goals omega
theorem cm_rq_eq {w : Nat} (h : 2 ≤ w) (h6 : w ≤ 6) : cm_rq w = w := by
  unfold cm_rq; rw [if_neg (by omega), if_neg (by omega)]
theorem cm_se_ap {T : Nat → Nat} {q : Nat} {e : Nat × Nat} {r : List (Nat × Nat)} {z z' : cm_R} (h : q ≤ cm_str T e.1) (ha : cm_ap T e.1 e.2 z = some z') : cm_se T q (e :: r) z = cm_se T q r z' := by
  show (if cm_str T e.1 < q then some (e :: r, z) else (match cm_ap T e.1 e.2 z with | none => none | some z' => cm_se T q r z')) = _
  rw [if_neg (by omega), ha]
theorem cm_eqz {a a' : List Int32} {b b' : List cm_I} {c c' : Nat} (h1 : a = a') (h2 : b = b') (h3 : c = c') : some ((a, b, c) : cm_R) = some ((a', b', c') : cm_R) := by rw [h1, h2, h3]
section
variable {T : Nat → Nat} {tv yo yn ya yc rk : Nat → Int32} {yp : Nat → Nat → Nat} {k l u : Nat}
theorem cn_k_12 (h : yo k = 12) : cn_k yo yn rk yp k = 2 := by rw [cn_k, h]; rfl
theorem cn_k_23 (h : yo k = 23) : cn_k yo yn rk yp k = 1 := by rw [cn_k, h]; rfl
theorem cp_pre {w' : Nat} (hlu : l < u) (hl : l < 1000) (ht : T l = 12 ∧ yo k = 12 ∨ T l = 16 ∧ yo k = 23 ∧ (l = 0 ∨ ¬ (T (l - 1) ≤ 4 ∨ T (l - 1) = 7 ∨ T (l - 1) = 19))) (ha : ya k = nI l) (h0 : k < yp k 0 ∧ yp k 0 < 40) (hw : 7 ≤ w') (ih : cm_P T tv yo yn ya yc rk yp (yp k 0) w' (l + 1) u) : cm_P T tv yo yn ya yc rk yp k 7 l u := by
  intro stk kd code lst hlst htop
  have hpre : cm_pre T l = true := cm_pre_y (by
    rcases ht with ⟨z, _⟩ | ⟨z, _, y⟩
    · exact Or.inl z
    · exact Or.inr ⟨z, y⟩)
  have s7 : cm_str T l = 7 := cm_str_pre (by
    rcases ht with ⟨z, _⟩ | ⟨z, _, _⟩
    · exact Or.inl z
    · exact Or.inr ⟨z, hpre⟩)
  obtain ⟨st, r1, r2, r3⟩ := ih ((l, 0) :: stk) kd code lst hlst (fun e r z => by
    rw [← (List.cons.inj z).1]
    show cm_str T l < cm_rq w'
    rw [s7]; unfold cm_rq; rw [if_pos hw]; omega)
  have a1 : cm_step T tv (fun o => rk (tv o).toNatClampNeg) l (stk, (kd, code, lst)) = some ((l, 0) :: stk, (kd, code, lst)) := by
    rw [cm_stp (s' := (stk, (kd, code, lst))) (by rw [cm_sf8 (Or.inr s7) (by omega) (by omega) (by omega)]; exact cm_se8)]
    unfold cm_tr
    rw [if_neg (by omega), if_neg (by omega), if_neg (by omega), if_neg (by omega), if_neg (by omega), if_neg (by omega), if_neg (by omega)]
  have hop : yo k = 12 ∨ yo k = 23 := by
    rcases ht with ⟨_, z⟩ | ⟨_, z, _⟩
    · exact Or.inl z
    · exact Or.inr z
  have ap : cm_ap T l 0 (cm_pu yo yn ya yc rk yp (yp k 0) kd code lst) = some (cm_pu yo yn ya yc rk yp k kd code lst) := by
    unfold cm_ap cm_pu
    rw [if_pos hpre, cn_c_si h0 hop, cn_b_1 h0 (cm_ar1 (by rcases hop with z | z <;> rw [z] <;> decide)), ha]
    dsimp only
    rw [cm_dem_eq (by omega), List.append_assoc]
    unfold cn_s
    rw [ha, nI_clamp (by omega)]
    rcases ht with ⟨z, y⟩ | ⟨z, y, _⟩
    · rw [if_pos z, if_pos z, cn_ok_12 y]
      refine cm_eqz ?_ (by rw [y]) ?_
      · rw [cn_k_12 y]
      · generalize (if decide (cn_k yo yn rk yp (yp k 0) = 2) = true then 100 else l) = A
        omega
    · rw [if_neg (by omega), if_neg (by omega), cn_ok_23 y]
      refine cm_eqz ?_ (by rw [y]) ?_
      · rw [cn_k_23 y]
      · generalize (if decide (cn_k yo yn rk yp (yp k 0) = 1) = true then 100 else l) = A
        omega
  refine ⟨st, ?_, fun q hq => ?_, fun z => absurd z (by omega)⟩
  · rw [cm_run_1 hlu a1]; exact r1
  · rw [r2 q (by omega)]
    exact cm_se_ap (by show q ≤ cm_str T l; omega) ap
theorem cp_bin {c w1 w2 : Nat} (hlc : l ≤ c) (hcu : c + 1 ≤ u) (hc : c < 1000) (ht : 13 ≤ T c ∧ T c ≤ 18) (hend : 0 < c ∧ (T (c - 1) ≤ 4 ∨ T (c - 1) = 7 ∨ T (c - 1) = 19)) (ho : yo k = nI (T c)) (ha : ya k = nI c) (h0 : k < yp k 0 ∧ yp k 0 < 40) (h1 : k < yp k 1 ∧ yp k 1 < 40) (hw1 : ca_wt (T c) + 1 ≤ w1) (hw2 : ca_wt (T c) + 1 < w2) (ih1 : cm_P T tv yo yn ya yc rk yp (yp k 0) w1 l c) (ih2 : cm_P T tv yo yn ya yc rk yp (yp k 1) w2 (c + 1) u) : cm_P T tv yo yn ya yc rk yp k (ca_wt (T c) + 1) l u := by
  intro stk kd code lst hlst htop
  have hwt := ca_wt_op (t := T c) ⟨by omega, by omega, by omega⟩
  have hnp : cm_pre T c = false := cm_pre_n (by omega) (fun _ => hend)
  have sc : cm_str T c = ca_wt (T c) + 1 := cm_str_op ⟨by omega, by omega, by omega⟩ hnp
  have htop2 : ∀ e r, stk = e :: r → cm_str T e.1 < ca_wt (T c) + 1 := fun e r z => by
    have := htop e r z
    rw [cm_rq_eq (by omega) (by omega)] at this
    exact this
  obtain ⟨st, r1, r2, r3⟩ := ih1 stk kd code lst hlst (fun e r z => Nat.lt_of_lt_of_le (htop e r z) (cm_rq_mono hw1))
  have sf : cm_sf T c = ca_wt (T c) + 1 := by
    unfold cm_sf
    rw [if_neg (by omega), if_neg (by omega), if_neg (by omega), sc]
  have a1 : cm_step T tv (fun o => rk (tv o).toNatClampNeg) c st = some ((c, 0) :: stk, cm_pu yo yn ya yc rk yp (yp k 0) kd code lst) := by
    rw [cm_stp (s' := (stk, cm_pu yo yn ya yc rk yp (yp k 0) kd code lst)) (by rw [sf, r2 _ hw1]; exact cm_stop htop2)]
    unfold cm_tr
    rw [if_neg (by omega), if_neg (by omega), if_neg (by omega), if_neg (by omega), if_neg (by omega), if_neg (by omega), if_neg (by omega)]
  obtain ⟨st2, q1, q2, q3⟩ := ih2 ((c, 0) :: stk) (cn_k yo yn rk yp (yp k 0) :: kd) (code ++ cn_c yo yn ya yc yp (yp k 0) code.length) (min lst (cn_b yo yn ya rk yp (yp k 0))) (by omega) (fun e r z => by
    rw [← (List.cons.inj z).1]
    show cm_str T c < cm_rq w2
    rw [sc]; exact cm_rq_lt (by omega) hw2 (by omega))
  have hop : yo k = 13 ∨ yo k = 14 ∨ yo k = 15 ∨ yo k = 16 ∨ yo k = 17 ∨ yo k = 18 := by
    have e : T c = 13 ∨ T c = 14 ∨ T c = 15 ∨ T c = 16 ∨ T c = 17 ∨ T c = 18 := by omega
    rcases e with e | e | e | e | e | e <;> rw [ho, e] <;> decide
  have la : (code ++ cn_c yo yn ya yc yp (yp k 0) code.length).length = code.length + (cn_c yo yn ya yc yp (yp k 0) code.length).length := List.length_append
  have kk : cn_k yo yn rk yp k = (if 15 ≤ T c then 1 else 2) := by
    have e : T c = 13 ∨ T c = 14 ∨ T c = 15 ∨ T c = 16 ∨ T c = 17 ∨ T c = 18 := by omega
    rcases e with e | e | e | e | e | e <;> rw [cn_k, ho, e] <;> rfl
  have ok : cn_ok yo yn rk yp k = (if T c = 13 then decide (cn_k yo yn rk yp (yp k 0) = cn_k yo yn rk yp (yp k 1) ∧ ¬ cn_k yo yn rk yp (yp k 0) = 4) else decide (cn_k yo yn rk yp (yp k 0) = 1 ∧ cn_k yo yn rk yp (yp k 1) = 1)) := by
    by_cases z : T c = 13
    · rw [if_pos z, cn_ok_13 (by rw [ho, z]; rfl)]
    · rw [if_neg z]
      refine cn_ok_ar ?_
      have e : T c = 14 ∨ T c = 15 ∨ T c = 16 ∨ T c = 17 ∨ T c = 18 := by omega
      rcases e with e | e | e | e | e <;> rw [ho, e] <;> decide
  have ap : cm_ap T c 0 (cm_pu yo yn ya yc rk yp (yp k 1) (cn_k yo yn rk yp (yp k 0) :: kd) (code ++ cn_c yo yn ya yc yp (yp k 0) code.length) (min lst (cn_b yo yn ya rk yp (yp k 0)))) = some (cm_pu yo yn ya yc rk yp k kd code lst) := by
    unfold cm_ap cm_pu
    rw [if_neg (by rw [hnp]; decide), if_neg (by omega), if_neg (by omega), cn_c_bi h0 h1 hop, cn_b_2 h0 h1 (cm_ar2 (by rcases hop with z | z | z | z | z | z <;> rw [z] <;> decide)), kk, la]
    dsimp only
    rw [cm_dem_eq (by omega), ← ok, ho, ha]
    unfold cn_seq cn_s
    rw [ha, nI_clamp (by omega)]
    refine cm_eqz rfl (by simp only [List.append_assoc]) ?_
    generalize (if cn_ok yo yn rk yp k = true then 100 else c) = A
    omega
  refine ⟨st2, ?_, fun q hq => ?_, fun z => absurd z (by omega)⟩
  · rw [cm_run_2 (m := c) hlc (by omega) r1, cm_run_1 (by omega) a1]; exact q1
  · rw [q2 q (by omega)]
    exact cm_se_ap (by show q ≤ cm_str T c; omega) ap
theorem cp_log {c w1 w2 : Nat} (hlc : l ≤ c) (hcu : c + 1 ≤ u) (hc : c < 1000) (ht : T c = 10 ∨ T c = 11) (ho : yo k = nI (T c)) (ha : ya k = nI c) (h0 : k < yp k 0 ∧ yp k 0 < 40) (h1 : k < yp k 1 ∧ yp k 1 < 40) (hw1 : ca_wt (T c) + 1 ≤ w1) (hw2 : ca_wt (T c) + 1 < w2) (ih1 : cm_P T tv yo yn ya yc rk yp (yp k 0) w1 l c) (ih2 : cm_P T tv yo yn ya yc rk yp (yp k 1) w2 (c + 1) u) : cm_P T tv yo yn ya yc rk yp k (ca_wt (T c) + 1) l u := by
  intro stk kd code lst hlst htop
  have hwt := ca_wt_op (t := T c) ⟨by omega, by omega, by omega⟩
  have hnp : cm_pre T c = false := cm_pre_n (by omega) (fun z => absurd z (by omega))
  have sc : cm_str T c = ca_wt (T c) + 1 := cm_str_op ⟨by omega, by omega, by omega⟩ hnp
  have htop2 : ∀ e r, stk = e :: r → cm_str T e.1 < ca_wt (T c) + 1 := fun e r z => by
    have := htop e r z
    rw [cm_rq_eq (by omega) (by omega)] at this
    exact this
  obtain ⟨st, r1, r2, r3⟩ := ih1 stk kd code lst hlst (fun e r z => Nat.lt_of_lt_of_le (htop e r z) (cm_rq_mono hw1))
  have sf : cm_sf T c = ca_wt (T c) + 1 := by
    unfold cm_sf
    rw [if_neg (by omega), if_neg (by omega), if_neg (by omega), sc]
  have la : (code ++ cn_c yo yn ya yc yp (yp k 0) code.length).length = code.length + (cn_c yo yn ya yc yp (yp k 0) code.length).length := List.length_append
  have a1 : cm_step T tv (fun o => rk (tv o).toNatClampNeg) c st = some ((c, code.length + (cn_c yo yn ya yc yp (yp k 0) code.length).length) :: stk, (cn_k yo yn rk yp (yp k 0) :: kd, (code ++ cn_c yo yn ya yc yp (yp k 0) code.length) ++ [(nI (T c), 0, 0, nI c)], min lst (cn_b yo yn ya rk yp (yp k 0)))) := by
    rw [cm_stp (s' := (stk, cm_pu yo yn ya yc rk yp (yp k 0) kd code lst)) (by rw [sf, r2 _ hw1]; exact cm_stop htop2)]
    unfold cm_tr
    rw [if_neg (by omega), if_neg (by omega), if_neg (by omega), if_neg (by omega), if_neg (by omega), if_neg (by omega), if_pos (by omega)]
    unfold cm_pu
    dsimp only
    rw [la]
  have lb : ((code ++ cn_c yo yn ya yc yp (yp k 0) code.length) ++ [(nI (T c), 0, 0, nI c)]).length = code.length + (cn_c yo yn ya yc yp (yp k 0) code.length).length + 1 := by
    rw [List.length_append, la]; rfl
  obtain ⟨st2, q1, q2, q3⟩ := ih2 ((c, code.length + (cn_c yo yn ya yc yp (yp k 0) code.length).length) :: stk) (cn_k yo yn rk yp (yp k 0) :: kd) ((code ++ cn_c yo yn ya yc yp (yp k 0) code.length) ++ [(nI (T c), 0, 0, nI c)]) (min lst (cn_b yo yn ya rk yp (yp k 0))) (by omega) (fun e r z => by
    rw [← (List.cons.inj z).1]
    show cm_str T c < cm_rq w2
    rw [sc]; exact cm_rq_lt (by omega) hw2 (by omega))
  have hop : yo k = 10 ∨ yo k = 11 := by
    rcases ht with e | e <;> rw [ho, e] <;> decide
  have kk : cn_k yo yn rk yp k = 2 := by
    rcases ht with e | e <;> rw [cn_k, ho, e] <;> rfl
  have ap : cm_ap T c (code.length + (cn_c yo yn ya yc yp (yp k 0) code.length).length) (cm_pu yo yn ya yc rk yp (yp k 1) (cn_k yo yn rk yp (yp k 0) :: kd) ((code ++ cn_c yo yn ya yc yp (yp k 0) code.length) ++ [(nI (T c), 0, 0, nI c)]) (min lst (cn_b yo yn ya rk yp (yp k 0)))) = some (cm_pu yo yn ya yc rk yp k kd code lst) := by
    unfold cm_ap cm_pu
    rw [if_neg (by rw [hnp]; decide), if_neg (by omega), if_pos ht, cn_c_lo h0 h1 hop, cn_b_2 h0 h1 (cm_ar2 (by rcases hop with z | z <;> rw [z] <;> decide)), kk, lb]
    dsimp only
    rw [cm_dem_eq (by omega), ho, ha]
    unfold cn_seq cn_s
    rw [cn_ok_lo hop, ha, nI_clamp (by omega)]
    have e1 : ((code ++ cn_c yo yn ya yc yp (yp k 0) code.length) ++ [(nI (T c), 0, 0, nI c)]) ++ cn_c yo yn ya yc yp (yp k 1) (code.length + (cn_c yo yn ya yc yp (yp k 0) code.length).length + 1) = (code ++ cn_c yo yn ya yc yp (yp k 0) code.length) ++ (nI (T c), 0, 0, nI c) :: cn_c yo yn ya yc yp (yp k 1) (code.length + (cn_c yo yn ya yc yp (yp k 0) code.length).length + 1) := by
      simp only [List.append_assoc, List.cons_append, List.nil_append]
    have e2 := cm_aim_app (code ++ cn_c yo yn ya yc yp (yp k 0) code.length) (nI (T c), 0, 0, nI c) (cn_c yo yn ya yc yp (yp k 1) (code.length + (cn_c yo yn ya yc yp (yp k 0) code.length).length + 1))
    rw [la] at e2
    have e3 : (((code ++ cn_c yo yn ya yc yp (yp k 0) code.length) ++ [(nI (T c), 0, 0, nI c)]) ++ cn_c yo yn ya yc yp (yp k 1) (code.length + (cn_c yo yn ya yc yp (yp k 0) code.length).length + 1)).length = code.length + (cn_c yo yn ya yc yp (yp k 0) code.length).length + 1 + (cn_c yo yn ya yc yp (yp k 1) (code.length + (cn_c yo yn ya yc yp (yp k 0) code.length).length + 1)).length := by
      rw [List.length_append, lb]
    rw [e3, e1, e2]
    refine cm_eqz rfl (by simp only [List.append_assoc]) ?_
    generalize (if decide (cn_k yo yn rk yp (yp k 0) = 2 ∧ cn_k yo yn rk yp (yp k 1) = 2) = true then 100 else c) = A
    omega
  refine ⟨st2, ?_, fun q hq => ?_, fun z => absurd z (by omega)⟩
  · rw [cm_run_2 (m := c) hlc (by omega) r1, cm_run_1 (by omega) a1]; exact q1
  · rw [q2 q (by omega)]
    exact cm_se_ap (by show q ≤ cm_str T c; omega) ap
theorem cp_if {c m w1 w2 w3 : Nat} (hlc : l ≤ c) (hcm : c + 1 ≤ m) (hmu : m + 1 ≤ u) (hc : c < 1000) (ht : T c = 8) (htm : T m = 9) (hom : ca_o T m = c) (ho : yo k = 8) (ha : ya k = nI c) (hyc : yc k = nI m) (h0 : k < yp k 0 ∧ yp k 0 < 40) (h1 : k < yp k 1 ∧ yp k 1 < 40) (h2 : k < yp k 2 ∧ yp k 2 < 40) (hw1 : 2 ≤ w1) (hw2 : 1 ≤ w2) (hw3 : 1 ≤ w3) (ih1 : cm_P T tv yo yn ya yc rk yp (yp k 0) w1 l c) (ih2 : cm_P T tv yo yn ya yc rk yp (yp k 1) w2 (c + 1) m) (ih3 : cm_P T tv yo yn ya yc rk yp (yp k 2) w3 (m + 1) u) : cm_P T tv yo yn ya yc rk yp k 1 l u := by
  intro stk kd code lst hlst htop
  have s8 : cm_str T c = 0 := cm_str0 (by omega)
  have s9 : cm_str T m = 1 := cm_str9 htm
  have htop2 : ∀ e r, stk = e :: r → cm_str T e.1 < 2 := fun e r z => htop e r z
  obtain ⟨st, r1, r2, r3⟩ := ih1 stk kd code lst hlst (fun e r z => Nat.lt_of_lt_of_le (htop e r z) (cm_rq_mono (by omega)))
  have la : (code ++ cn_c yo yn ya yc yp (yp k 0) code.length).length = code.length + (cn_c yo yn ya yc yp (yp k 0) code.length).length := List.length_append
  have a1 : cm_step T tv (fun o => rk (tv o).toNatClampNeg) c st = some ((c, code.length + (cn_c yo yn ya yc yp (yp k 0) code.length).length) :: stk, (cn_k yo yn rk yp (yp k 0) :: kd, (code ++ cn_c yo yn ya yc yp (yp k 0) code.length) ++ [(8, 0, 0, nI c)], min lst (cn_b yo yn ya rk yp (yp k 0)))) := by
    rw [cm_stp (s' := (stk, cm_pu yo yn ya yc rk yp (yp k 0) kd code lst)) (by rw [cm_sf2 ht, r2 _ hw1]; exact cm_stop htop2)]
    unfold cm_tr
    rw [if_neg (by omega), if_neg (by omega), if_neg (by omega), if_neg (by omega), if_neg (by omega), if_neg (by omega), if_pos (by omega)]
    unfold cm_pu
    dsimp only
    rw [la, ht]; rfl
  have lb : ((code ++ cn_c yo yn ya yc yp (yp k 0) code.length) ++ [((8 : Int32), (0 : Int32), (0 : Int32), nI c)]).length = code.length + (cn_c yo yn ya yc yp (yp k 0) code.length).length + 1 := by
    rw [List.length_append, la]; rfl
  obtain ⟨st2, q1, q2, q3⟩ := ih2 ((c, code.length + (cn_c yo yn ya yc yp (yp k 0) code.length).length) :: stk) (cn_k yo yn rk yp (yp k 0) :: kd) ((code ++ cn_c yo yn ya yc yp (yp k 0) code.length) ++ [(8, 0, 0, nI c)]) (min lst (cn_b yo yn ya rk yp (yp k 0))) (by omega) (fun e r z => by
    rw [← (List.cons.inj z).1]
    show cm_str T c < cm_rq w2
    rw [s8]; unfold cm_rq; repeat' split
    all_goals omega)
  generalize hA : cn_c yo yn ya yc yp (yp k 0) code.length = A at *
  have eB : cm_pu yo yn ya yc rk yp (yp k 1) (cn_k yo yn rk yp (yp k 0) :: kd) ((code ++ A) ++ [(8, 0, 0, nI c)]) (min lst (cn_b yo yn ya rk yp (yp k 0))) = (cn_k yo yn rk yp (yp k 1) :: cn_k yo yn rk yp (yp k 0) :: kd, ((code ++ A) ++ [(8, 0, 0, nI c)]) ++ cn_c yo yn ya yc yp (yp k 1) (code.length + A.length + 1), min (min lst (cn_b yo yn ya rk yp (yp k 0))) (cn_b yo yn ya rk yp (yp k 1))) := by
    unfold cm_pu
    rw [lb]
  generalize hBB : cn_c yo yn ya yc yp (yp k 1) (code.length + A.length + 1) = B at *
  have lc : (((code ++ A) ++ [((8 : Int32), (0 : Int32), (0 : Int32), nI c)]) ++ B).length = code.length + A.length + 1 + B.length := by
    rw [List.length_append, lb]
  -- the code behind the colon
  have e1 : ((((code ++ A) ++ [((8 : Int32), (0 : Int32), (0 : Int32), nI c)]) ++ B) ++ [((9 : Int32), (0 : Int32), (0 : Int32), nI m)]) = (code ++ A) ++ ((8 : Int32), (0 : Int32), (0 : Int32), nI c) :: (B ++ [((9 : Int32), (0 : Int32), (0 : Int32), nI m)]) := by
    simp only [List.append_assoc, List.cons_append, List.nil_append]
  have e2 := cm_aim_app (code ++ A) ((8 : Int32), (0 : Int32), (0 : Int32), nI c) (B ++ [((9 : Int32), (0 : Int32), (0 : Int32), nI m)]) (nI (code.length + A.length + 1 + B.length + 1))
  rw [la] at e2
  have a2 : cm_step T tv (fun o => rk (tv o).toNatClampNeg) m st2 = some ((m, code.length + A.length + 1 + B.length) :: stk, (cn_k yo yn rk yp (yp k 1) :: cn_k yo yn rk yp (yp k 0) :: kd, (code ++ A) ++ (8, 0, nI (code.length + A.length + 1 + B.length + 1), nI c) :: (B ++ [(9, 0, 0, nI m)]), min (min lst (cn_b yo yn ya rk yp (yp k 0))) (cn_b yo yn ya rk yp (yp k 1)))) := by
    rw [cm_stp (s' := ((c, code.length + A.length) :: stk, (cn_k yo yn rk yp (yp k 1) :: cn_k yo yn rk yp (yp k 0) :: kd, ((code ++ A) ++ [(8, 0, 0, nI c)]) ++ B, min (min lst (cn_b yo yn ya rk yp (yp k 0))) (cn_b yo yn ya rk yp (yp k 1))))) (by
      rw [cm_sf1 (Or.inr htm), q2 1 hw2, eB]
      exact cm_stop (fun e r z => by rw [← (List.cons.inj z).1]; show cm_str T c < 1; omega))]
    unfold cm_tr
    rw [if_neg (by omega), if_neg (by omega), if_neg (by omega), if_neg (by omega), if_pos htm]
    show (if ¬ c = ca_o T m then none else _) = _
    rw [hom, if_neg (fun z => z rfl), if_neg (by omega)]
    dsimp only
    rw [lc, e1, e2]
  have ld : ((code ++ A) ++ ((8 : Int32), (0 : Int32), nI (code.length + A.length + 1 + B.length + 1), nI c) :: (B ++ [((9 : Int32), (0 : Int32), (0 : Int32), nI m)])).length = code.length + A.length + 1 + B.length + 1 := by
    rw [List.length_append, la, List.length_cons, List.length_append]
    show code.length + A.length + (B.length + 1 + 1) = _
    omega
  obtain ⟨st3, p1, p2, p3⟩ := ih3 ((m, code.length + A.length + 1 + B.length) :: stk) (cn_k yo yn rk yp (yp k 1) :: cn_k yo yn rk yp (yp k 0) :: kd) ((code ++ A) ++ (8, 0, nI (code.length + A.length + 1 + B.length + 1), nI c) :: (B ++ [(9, 0, 0, nI m)])) (min (min lst (cn_b yo yn ya rk yp (yp k 0))) (cn_b yo yn ya rk yp (yp k 1))) (by omega) (fun e r z => by
    rw [← (List.cons.inj z).1]
    show cm_str T m < cm_rq w3
    rw [s9]; unfold cm_rq; repeat' split
    all_goals omega)
  have eC : cm_pu yo yn ya yc rk yp (yp k 2) (cn_k yo yn rk yp (yp k 1) :: cn_k yo yn rk yp (yp k 0) :: kd) ((code ++ A) ++ (8, 0, nI (code.length + A.length + 1 + B.length + 1), nI c) :: (B ++ [(9, 0, 0, nI m)])) (min (min lst (cn_b yo yn ya rk yp (yp k 0))) (cn_b yo yn ya rk yp (yp k 1))) = (cn_k yo yn rk yp (yp k 2) :: cn_k yo yn rk yp (yp k 1) :: cn_k yo yn rk yp (yp k 0) :: kd, ((code ++ A) ++ (8, 0, nI (code.length + A.length + 1 + B.length + 1), nI c) :: (B ++ [(9, 0, 0, nI m)])) ++ cn_c yo yn ya yc yp (yp k 2) (code.length + A.length + 1 + B.length + 1), min (min (min lst (cn_b yo yn ya rk yp (yp k 0))) (cn_b yo yn ya rk yp (yp k 1))) (cn_b yo yn ya rk yp (yp k 2))) := by
    unfold cm_pu
    rw [ld]
  generalize hCC : cn_c yo yn ya yc yp (yp k 2) (code.length + A.length + 1 + B.length + 1) = C at *
  have hnp : cm_pre T m = false := cm_pre_n (by omega) (fun z => absurd z (by omega))
  have kk : cn_k yo yn rk yp k = cn_k yo yn rk yp (yp k 1) := by
    conv => lhs; rw [cn_k, if_pos ho, dif_pos h1]
  have e4 : ((code ++ A) ++ ((8 : Int32), (0 : Int32), nI (code.length + A.length + 1 + B.length + 1), nI c) :: (B ++ [((9 : Int32), (0 : Int32), (0 : Int32), nI m)])) ++ C = ((code ++ A) ++ ((8 : Int32), (0 : Int32), nI (code.length + A.length + 1 + B.length + 1), nI c) :: B) ++ ((9 : Int32), (0 : Int32), (0 : Int32), nI m) :: C := by
    simp only [List.append_assoc, List.cons_append, List.nil_append]
  have le : ((code ++ A) ++ ((8 : Int32), (0 : Int32), nI (code.length + A.length + 1 + B.length + 1), nI c) :: B).length = code.length + A.length + 1 + B.length := by
    rw [List.length_append, la, List.length_cons]; omega
  have e5 := cm_aim_app ((code ++ A) ++ ((8 : Int32), (0 : Int32), nI (code.length + A.length + 1 + B.length + 1), nI c) :: B) ((9 : Int32), (0 : Int32), (0 : Int32), nI m) C (nI (code.length + A.length + 1 + B.length + 1 + C.length))
  rw [le] at e5
  have lf : (((code ++ A) ++ ((8 : Int32), (0 : Int32), nI (code.length + A.length + 1 + B.length + 1), nI c) :: (B ++ [((9 : Int32), (0 : Int32), (0 : Int32), nI m)])) ++ C).length = code.length + A.length + 1 + B.length + 1 + C.length := by
    rw [List.length_append, ld]
  have ap : cm_ap T m (code.length + A.length + 1 + B.length) (cn_k yo yn rk yp (yp k 2) :: cn_k yo yn rk yp (yp k 1) :: cn_k yo yn rk yp (yp k 0) :: kd, ((code ++ A) ++ (8, 0, nI (code.length + A.length + 1 + B.length + 1), nI c) :: (B ++ [(9, 0, 0, nI m)])) ++ C, min (min (min lst (cn_b yo yn ya rk yp (yp k 0))) (cn_b yo yn ya rk yp (yp k 1))) (cn_b yo yn ya rk yp (yp k 2))) = some (cm_pu yo yn ya yc rk yp k kd code lst) := by
    unfold cm_ap cm_pu
    rw [if_neg (by rw [hnp]; decide), if_pos htm, cn_c_if h0 h1 h2 ho, cn_b_3 h0 h1 h2 (by rw [ho]; decide), kk, hom]
    dsimp only
    rw [lf, e4, e5, cm_dem_eq (L := min (min (min lst (cn_b yo yn ya rk yp (yp k 0))) (cn_b yo yn ya rk yp (yp k 1))) (cn_b yo yn ya rk yp (yp k 2))) (by omega)]
    unfold cn_seq cn_s
    rw [hA]
    dsimp only
    rw [hBB, hCC, ha, hyc, nI_clamp (by omega), cn_ok_8 ho]
    have d2 : ∀ (x y : Bool) (L : Nat), L ≤ 100 → cm_dem y c (min L (if x = true then 100 else c)) = min L (if (x && y) = true then 100 else c) := by
      intro x y L hL
      unfold cm_dem
      cases x <;> cases y
      · rw [if_neg (by decide)]; show min (min L c) c = min L c; omega
      · rw [if_pos rfl]; rfl
      · rw [if_neg (by decide)]; show min (min L 100) c = min L c; omega
      · rw [if_pos rfl]; rfl
    rw [d2 _ _ _ (by omega), ← Bool.decide_and]
    refine cm_eqz rfl (by simp only [List.append_assoc, List.cons_append]) ?_
    generalize (if decide (cn_k yo yn rk yp (yp k 0) = 2 ∧ cn_k yo yn rk yp (yp k 1) = cn_k yo yn rk yp (yp k 2)) = true then 100 else c) = X
    omega
  refine ⟨st3, ?_, fun q hq => ?_, fun z => absurd z (by omega)⟩
  · rw [cm_run_2 (m := c) hlc (by omega) r1, cm_run_1 (by omega) a1, cm_run_2 (m := m) hcm (by omega) q1, cm_run_1 (by omega) a2]; exact p1
  · rw [p2 q (by omega), eC]
    exact cm_se_ap (by show q ≤ cm_str T m; omega) ap
theorem cm_main {nn : Nat} (hP : ∀ k i, k < nn → i < gr_ar (yo k) → k < yp k i ∧ yp k i < 40) : ∀ (f : Nat) (B : Nat → Prop) (k w l u : Nat), cg_G T tv yo yn ya yc yp nn f B k w l u → u < 1000 → cm_P T tv yo yn ya yc rk yp k w l u := by
  have glt : ∀ {f : Nat} {B : Nat → Prop} {k w l u : Nat}, cg_G T tv yo yn ya yc yp nn f B k w l u → l < u := by
    intro f B k w l u h
    cases f with
    | zero => exact absurd h id
    | succ f => exact h.2.1
  intro f
  induction f with
  | zero => intro B k w l u h; exact absurd h id
  | succ f ih =>
    intro B k w l u h hu
    obtain ⟨hk, hlu, h⟩ := h
    rcases h with ⟨h1, h2, h3, h4, h5, h6⟩ | ⟨c, h1, h2, h3, h4, h5, h6, h7, h8⟩ | ⟨c, w', h1, h2, h3, h4, h5, h6, h7, h8⟩ | ⟨c, w', x, h1, h2, h3, h4, h5, h6, h7, h8, h9, h10, h11, h12, h13⟩ | ⟨c, m, w1, w2, v, h1, h2, h3, h4, h5, h6, h7, h8, h9, h10, h11, h12, h13, h14, h15, h16, h17, h18, h19⟩ | ⟨w', h1, h2, h3, h4, h5⟩ | ⟨c, w1, w2, h1, h2, h3, h4, h5, h6, h7, h8, h9, h10, h11, h12⟩ | ⟨c, m, w1, w2, w3, h1, h2, h3, h4, h5, h6, h7, h8, h9, h10, h11, h12, h13⟩
    · subst h6
      refine cp_leaf h1 (by omega) ?_ h3 h4 h5
      rcases h2 with z | z | z | z
      · exact Or.inl z
      · exact Or.inr (Or.inl z)
      · exact Or.inr (Or.inr (Or.inl z))
      · exact Or.inr (Or.inr (Or.inr z.1))
    · subst h8
      have g := glt h7
      have har : gr_ar (yo k) = 1 := cm_ar1 (by rcases h2 with z | z <;> rw [h4, z] <;> decide)
      exact cp_post h1 (by omega) (by omega) h2 h3 h4 h5 h6 (hP k 0 hk (by omega)) (ih _ _ _ _ _ h7 (by omega))
    · subst h8
      have g := glt h6
      exact cp_par h1 (by omega) h2 h3 h4 h5 h7 (ih _ _ _ _ _ h6 (by omega))
    · subst h13
      have g := glt h11
      have har : gr_ar (yo k) = 1 := cm_ar1 (by rw [h8]; decide)
      exact cp_call h1 (by omega) (by omega) h2 h3 h4 h5 h8 h9 h10 (hP k 0 hk (by omega)) h12 (ih _ _ _ _ _ h11 (by omega))
    · subst h19
      have g1 := glt h15
      have g2 := glt h17
      have har : gr_ar (yo k) = 2 := cm_ar2 (by
        have z3 : T l = 20 ∨ T l = 21 ∨ T l = 22 := by omega
        rcases z3 with z | z | z <;> rw [h12, z] <;> decide)
      exact cp_qnt h1 (by omega) (by omega) (by omega) h2 h3 h4 h5 h6 h7 h8 h12 h13 h14 (hP k 0 hk (by omega)) (hP k 1 hk (by omega)) h16 h18 (ih _ _ _ _ _ h15 (by omega)) (ih _ _ _ _ _ h17 (by omega))
    · subst h5
      have har : gr_ar (yo k) = 1 := cm_ar1 (by
        rcases h1 with ⟨_, z⟩ | ⟨_, z, _⟩ <;> rw [z] <;> decide)
      exact cp_pre hlu (by omega) h1 h2 (hP k 0 hk (by omega)) h4 (ih _ _ _ _ _ h3 hu)
    · subst h10
      have g1 := glt h8
      have g2 := glt h9
      have har : gr_ar (yo k) = 2 := cm_ar2 (by
        have z3 : T c = 10 ∨ T c = 11 ∨ T c = 13 ∨ T c = 14 ∨ T c = 15 ∨ T c = 16 ∨ T c = 17 ∨ T c = 18 := by omega
        rcases z3 with z | z | z | z | z | z | z | z <;> rw [h6, z] <;> decide)
      by_cases hl : T c = 10 ∨ T c = 11
      · exact cp_log (by omega) (by omega) (by omega) hl h6 h7 (hP k 0 hk (by omega)) (hP k 1 hk (by omega)) h11 h12 (ih _ _ _ _ _ h8 (by omega)) (ih _ _ _ _ _ h9 (by omega))
      · exact cp_bin (by omega) (by omega) (by omega) ⟨by omega, h2⟩ ⟨h4, h5⟩ h6 h7 (hP k 0 hk (by omega)) (hP k 1 hk (by omega)) h11 h12 (ih _ _ _ _ _ h8 (by omega)) (ih _ _ _ _ _ h9 (by omega))
    · subst h13
      have g1 := glt h7
      have g2 := glt h9
      have g3 := glt h11
      have har : gr_ar (yo k) = 3 := by rw [h4]; decide
      exact cp_if (by omega) (by omega) (by omega) (by omega) h1 h2 h3 h4 h5 h6 (hP k 0 hk (by omega)) (hP k 1 hk (by omega)) (hP k 2 hk (by omega)) h8 h10 h12 (ih _ _ _ _ _ h7 (by omega)) (ih _ _ _ _ _ h9 (by omega)) (ih _ _ _ _ _ h11 (by omega))
end
end
section
/-- the stack of the Java side against the list of the machine -/
def cx_S (T : Nat → Nat) (co sk : Nat → Int32) (J : Nat → Prop) : Nat → List (Nat × Nat) → Prop
  | _, [] => True
  | b, e :: r => e.1 < b ∧ sk r.length = nI e.1 ∧ (((8 ≤ T e.1 ∧ T e.1 ≤ 11) ∨ (20 ≤ T e.1 ∧ J e.1)) → co e.1 = nI e.2 ∧ e.2 < 40) ∧ cx_S T co sk J e.1 r
def cx_K (kd : Nat → Int32) : List Int32 → Prop
  | [] => True
  | x :: r => kd r.length = x ∧ cx_K kd r
def cx_R (T : Nat → Nat) (J : Nat → Prop) (rl0 ro0 ra0 rt0 rp0 : Nat → Int32) (b : Nat) (stk : List (Nat × Nat)) (ks : List Int32) (code : List cm_I) (lst : Nat) (lc sc kc : Int32) (rl ro ra rt rp co sk kd : Nat → Int32) : Prop :=
  lc = nI lst ∧ sc = nI stk.length ∧ kc = nI ks.length ∧ rl 6 = nI code.length ∧ cx_S T co sk J b stk ∧ cx_K kd ks ∧
  (∀ (j : Nat) (x : cm_I), code[j]? = some x → ro (240 + j) = x.1 ∧ ra (240 + j) = x.2.1 ∧ rt (240 + j) = x.2.2.1 ∧ rp (240 + j) = x.2.2.2) ∧ lst ≤ 100 ∧
  (∀ j, j < 6 → rl j = rl0 j) ∧ (∀ j, j < 240 → ro j = ro0 j ∧ ra j = ra0 j ∧ rt j = rt0 j ∧ rp j = rp0 j)
theorem cx_S_b {T : Nat → Nat} {co sk : Nat → Int32} {J : Nat → Prop} {b b' : Nat} (h : b ≤ b') : ∀ {s : List (Nat × Nat)}, cx_S T co sk J b s → cx_S T co sk J b' s
  | [], _ => trivial
  | _ :: _, ⟨h1, h2, h3, h4⟩ => ⟨by omega, h2, h3, h4⟩
theorem cx_S_co {T : Nat → Nat} {co sk : Nat → Int32} {J : Nat → Prop} {x : Nat} {v : Int32} : ∀ {s : List (Nat × Nat)} {b : Nat}, b ≤ x → cx_S T co sk J b s → cx_S T (upd co x v) sk J b s
  | [], _, _, _ => trivial
  | _ :: _, _, hb, ⟨h1, h2, h3, h4⟩ => ⟨h1, h2, fun z => ⟨(pk_un (by omega)).trans (h3 z).1, (h3 z).2⟩, cx_S_co (by omega) h4⟩
theorem cx_S_sk {T : Nat → Nat} {co sk : Nat → Int32} {J : Nat → Prop} {j : Nat} {v : Int32} : ∀ {s : List (Nat × Nat)} {b : Nat}, s.length ≤ j → cx_S T co sk J b s → cx_S T co (upd sk j v) J b s
  | [], _, _, _ => trivial
  | _ :: r, _, hj, ⟨h1, h2, h3, h4⟩ => ⟨h1, (pk_un (by rw [List.length_cons] at hj; omega)).trans h2, h3, cx_S_sk (by rw [List.length_cons] at hj; omega) h4⟩
theorem cx_S_J {T : Nat → Nat} {co sk : Nat → Int32} {J J' : Nat → Prop} : ∀ {s : List (Nat × Nat)} {b : Nat}, (∀ x, x < b → J' x → J x) → cx_S T co sk J b s → cx_S T co sk J' b s
  | [], _, _, _ => trivial
  | _ :: _, _, hJ, ⟨h1, h2, h3, h4⟩ => ⟨h1, h2, fun z => h3 (z.elim Or.inl (fun y => Or.inr ⟨y.1, hJ _ h1 y.2⟩)), cx_S_J (fun x hx => hJ x (by omega)) h4⟩
theorem cx_K_up {kd : Nat → Int32} {j : Nat} {v : Int32} : ∀ {s : List Int32}, s.length ≤ j → cx_K kd s → cx_K (upd kd j v) s
  | [], _, _ => trivial
  | _ :: r, hj, ⟨h1, h2⟩ => ⟨(pk_un (by rw [List.length_cons] at hj; omega)).trans h1, cx_K_up (by rw [List.length_cons] at hj; omega) h2⟩
theorem cm_aim_len : ∀ (code : List cm_I) (c : Nat) (v : Int32), (cm_aim code c v).length = code.length
  | [], _, _ => rfl
  | _ :: _, 0, _ => rfl
  | x :: r, c + 1, v => by show (cm_aim r c v).length + 1 = r.length + 1; rw [cm_aim_len r c v]
theorem cm_aim_get : ∀ (code : List cm_I) (c : Nat) (v : Int32) (j : Nat) (x : cm_I), (cm_aim code c v)[j]? = some x → ∃ y, code[j]? = some y ∧ x.1 = y.1 ∧ x.2.1 = y.2.1 ∧ x.2.2.2 = y.2.2.2 ∧ x.2.2.1 = (if j = c then v else y.2.2.1)
  | [], _, _, _, _, h => nomatch h
  | y :: r, 0, v, 0, x, h => ⟨y, rfl, by rw [← Option.some.inj h], by rw [← Option.some.inj h], by rw [← Option.some.inj h], by rw [← Option.some.inj h]; rfl⟩
  | y :: r, 0, v, j + 1, x, h => ⟨x, h, rfl, rfl, rfl, by rw [if_neg (by omega)]⟩
  | y :: r, c + 1, v, 0, x, h => ⟨y, rfl, by rw [← Option.some.inj h], by rw [← Option.some.inj h], by rw [← Option.some.inj h], by rw [← Option.some.inj h, if_neg (by omega)]⟩
  | y :: r, c + 1, v, j + 1, x, h => by
    obtain ⟨z, h1, h2, h3, h4, h5⟩ := cm_aim_get r c v j x h
    refine ⟨z, h1, h2, h3, h4, ?_⟩
    rw [h5]
    by_cases e : j = c
    · rw [if_pos e, if_pos (by omega)]
    · rw [if_neg e, if_neg (by omega)]
section
variable {oc cp dp vc er ep uu lc sc kc : Int32} {cls num lnk lsz lit fb tk tv rk oo fr fn fi vs ll li lt rl ro ra rt rp co sk kd rl0 ro0 ra0 rt0 rp0 : Nat → Int32} {n b : Nat} {T : Nat → Nat} {J : Nat → Prop} {stk : List (Nat × Nat)} {ks : List Int32} {code : List cm_I} {lst : Nat}
theorem cx_emit {post : Int32 → SX → Prop} {p0 p1 p2 : Int32} (hR : cx_R T J rl0 ro0 ra0 rt0 rp0 b stk ks code lst lc sc kc rl ro ra rt rp co sk kd) (hc : code.length < 40) (H : ∀ (lc' sc' kc' : Int32) (rl' ro' ra' rt' rp' co' sk' kd' : Nat → Int32), cx_R T J rl0 ro0 ra0 rt0 rp0 b stk ks (code ++ [(p0, p1, 0, p2)]) lst lc' sc' kc' rl' ro' ra' rt' rp' co' sk' kd' → post (nI code.length) (oc, nI n, cp, lc', sc', kc', dp, vc, er, ep, uu, cls, num, lnk, lsz, lit, fb, tk, tv, rk, rl', ro', ra', rt', rp', oo, co', sk', kd', fr, fn, fi, vs, ll, li, lt)) : wpX_emit post (oc, nI n, cp, lc, sc, kc, dp, vc, er, ep, uu, cls, num, lnk, lsz, lit, fb, tk, tv, rk, rl, ro, ra, rt, rp, oo, co, sk, kd, fr, fn, fi, vs, ll, li, lt) p0 p1 p2 := by
  obtain ⟨h1, h2, h3, h4, h5, h6, h7, h8, h9, h10⟩ := hR
  have e : 240 + nI code.length = nI (240 + code.length) := nI_add 240 code.length
  have c : (240 + nI code.length).toNatClampNeg = 240 + code.length := by rw [e, nI_clamp (by omega)]
  have i : vp_in (240 + nI code.length) 280 := by rw [e]; exact vp_in_nI (by omega) (by decide)
  refine nm_r (e' := nI code.length) h4 ⟨i, nm_r (by rw [c]) ⟨i, nm_r (by rw [c]) ⟨i, nm_r (by rw [c]) ⟨i, nm_r (by rw [c]) (nm_r (by rw [nI_1]) (H _ _ _ _ _ _ _ _ _ _ _ ⟨h1, h2, h3, ?_, h5, h6, ?_, h8, ?_, ?_⟩))⟩⟩⟩⟩
  · rw [pk_us, List.length_append]; rfl
  · intro j x hx
    by_cases z : j = code.length
    · subst z
      rw [List.getElem?_append_right (Nat.le_refl _), Nat.sub_self] at hx
      have := Option.some.inj hx
      rw [← this, pk_us, pk_us, pk_us, pk_us]
      exact ⟨rfl, rfl, rfl, rfl⟩
    · rw [pk_un (by omega), pk_un (by omega), pk_un (by omega), pk_un (by omega)]
      have jl : j < code.length := by
        by_cases y : j < code.length
        · exact y
        · rw [List.getElem?_eq_none (by rw [List.length_append]; show code.length + 1 ≤ j; omega)] at hx; cases hx
      rw [List.getElem?_append_left jl] at hx
      exact h7 j x hx
  · intro j hj; rw [pk_un (by omega)]; exact h9 j hj
  · intro j hj; rw [pk_un (by omega), pk_un (by omega), pk_un (by omega), pk_un (by omega)]; exact h10 j hj
theorem cx_aim {post : SX → Prop} {i c : Nat} (hR : cx_R T J rl0 ro0 ra0 rt0 rp0 b stk ks code lst lc sc kc rl ro ra rt rp co sk kd) (hi : i < 40) (hco : co i = nI c) (hc : c < 40) (H : ∀ (lc' sc' kc' : Int32) (rl' ro' ra' rt' rp' co' sk' kd' : Nat → Int32), cx_R T J rl0 ro0 ra0 rt0 rp0 b stk ks (cm_aim code c (nI code.length)) lst lc' sc' kc' rl' ro' ra' rt' rp' co' sk' kd' → post (oc, nI n, cp, lc', sc', kc', dp, vc, er, ep, uu, cls, num, lnk, lsz, lit, fb, tk, tv, rk, rl', ro', ra', rt', rp', oo, co', sk', kd', fr, fn, fi, vs, ll, li, lt)) : wpX_aimHere post (oc, nI n, cp, lc, sc, kc, dp, vc, er, ep, uu, cls, num, lnk, lsz, lit, fb, tk, tv, rk, rl, ro, ra, rt, rp, oo, co, sk, kd, fr, fn, fi, vs, ll, li, lt) (nI i) := by
  obtain ⟨h1, h2, h3, h4, h5, h6, h7, h8, h9, h10⟩ := hR
  have ci : co (nI i).toNatClampNeg = nI c := by rw [nI_clamp (by omega)]; exact hco
  have e : 240 + nI c = nI (240 + c) := nI_add 240 c
  refine ⟨vp_in_nI hi (by decide), by rw [ci, e]; exact vp_in_nI (by omega) (by decide), nm_r (e' := upd rt (240 + c) (nI code.length)) (by rw [ci, e, nI_clamp (by omega), h4]) (H _ _ _ _ _ _ _ _ _ _ _ ⟨h1, h2, h3, ?_, h5, h6, ?_, h8, h9, ?_⟩)⟩
  · rw [cm_aim_len]; exact h4
  · intro j x hx
    obtain ⟨y, y1, y2, y3, y4, y5⟩ := cm_aim_get code c _ j x hx
    obtain ⟨g1, g2, g3, g4⟩ := h7 j y y1
    rw [y2, y3, y4, y5]
    refine ⟨g1, g2, ?_, g4⟩
    by_cases z : j = c
    · rw [z, if_pos rfl, pk_us]
    · rw [if_neg z, pk_un (by omega)]; exact g3
  · intro j hj; rw [pk_un (by omega)]; exact h10 j hj
theorem cx_dem {post : SX → Prop} {ok : Bool} {p : Nat} {v : Int32} (hR : cx_R T J rl0 ro0 ra0 rt0 rp0 b stk ks code lst lc sc kc rl ro ra rt rp co sk kd) (hv : v = if ok = true then 1 else 0) (hp : p < 1000) (H : ∀ (lc' sc' kc' : Int32) (rl' ro' ra' rt' rp' co' sk' kd' : Nat → Int32), cx_R T J rl0 ro0 ra0 rt0 rp0 b stk ks code (cm_dem ok p lst) lc' sc' kc' rl' ro' ra' rt' rp' co' sk' kd' → post (oc, nI n, cp, lc', sc', kc', dp, vc, er, ep, uu, cls, num, lnk, lsz, lit, fb, tk, tv, rk, rl', ro', ra', rt', rp', oo, co', sk', kd', fr, fn, fi, vs, ll, li, lt)) : wpX_demand post (oc, nI n, cp, lc, sc, kc, dp, vc, er, ep, uu, cls, num, lnk, lsz, lit, fb, tk, tv, rk, rl, ro, ra, rt, rp, oo, co, sk, kd, fr, fn, fi, vs, ll, li, lt) v (nI p) := by
  obtain ⟨h1, h2, h3, h4, h5, h6, h7, h8, h9, h10⟩ := hR
  subst hv
  cases ok with
  | true => exact br_f (by decide) (H _ _ _ _ _ _ _ _ _ _ _ ⟨h1, h2, h3, h4, h5, h6, h7, h8, h9, h10⟩)
  | false =>
    refine br_t rfl ?_
    rw [h1]
    by_cases z : lst ≤ p
    · refine br_t (nI_le z (by omega)) (H _ _ _ _ _ _ _ _ _ _ _ ⟨?_, h2, h3, h4, h5, h6, h7, ?_, h9, h10⟩)
      · show nI lst = nI (min lst p)
        rw [Nat.min_eq_left z]
      · show min lst p ≤ 100
        omega
    · refine br_f (nI_ge (by omega) (by omega)) (H _ _ _ _ _ _ _ _ _ _ _ ⟨?_, h2, h3, h4, h5, h6, h7, ?_, h9, h10⟩)
      · show nI p = nI (min lst p)
        rw [Nat.min_eq_right (by omega)]
      · show min lst p ≤ 100
        omega
theorem cx_push {post : SX → Prop} {i x : Nat} (hR : cx_R T J rl0 ro0 ra0 rt0 rp0 b stk ks code lst lc sc kc rl ro ra rt rp co sk kd) (hs : stk.length < 40) (hb : b ≤ i) (hx : ((8 ≤ T i ∧ T i ≤ 11) ∨ (20 ≤ T i ∧ J i)) → co i = nI x ∧ x < 40) (H : ∀ (lc' sc' kc' : Int32) (rl' ro' ra' rt' rp' co' sk' kd' : Nat → Int32), cx_R T J rl0 ro0 ra0 rt0 rp0 (i + 1) ((i, x) :: stk) ks code lst lc' sc' kc' rl' ro' ra' rt' rp' co' sk' kd' → post (oc, nI n, cp, lc', sc', kc', dp, vc, er, ep, uu, cls, num, lnk, lsz, lit, fb, tk, tv, rk, rl', ro', ra', rt', rp', oo, co', sk', kd', fr, fn, fi, vs, ll, li, lt)) : wpX_pushToken post (oc, nI n, cp, lc, sc, kc, dp, vc, er, ep, uu, cls, num, lnk, lsz, lit, fb, tk, tv, rk, rl, ro, ra, rt, rp, oo, co, sk, kd, fr, fn, fi, vs, ll, li, lt) (nI i) := by
  obtain ⟨h1, h2, h3, h4, h5, h6, h7, h8, h9, h10⟩ := hR
  subst h2
  exact ⟨vp_in_nI hs (by decide), nm_r (by rw [nI_clamp (by omega)]) (nm_r (nI_1 _) (H _ _ _ _ _ _ _ _ _ _ _ ⟨h1, rfl, h3, h4, ⟨by show i < i + 1; omega, pk_us, hx, cx_S_b hb (cx_S_sk (Nat.le_refl _) h5)⟩, h6, h7, h8, h9, h10⟩))⟩
theorem cx_tk (hn : n ≤ 40) (hK : ∀ i, i < n → tk i = nI (T i) ∧ T i < 23) {i : Nat} (hi : i < n) : tk (nI i).toNatClampNeg = nI (T i) ∧ (∀ x, T i ≠ x → x < 23 → ¬ tk (nI i).toNatClampNeg = nI x) ∧ vp_in (nI i) 40 := by
  have e : tk (nI i).toNatClampNeg = nI (T i) := by rw [nI_clamp (by omega)]; exact (hK i hi).1
  exact ⟨e, fun x z hx y => z ((nI_eq (by have := (hK i hi).2; omega) (by omega)).1 (e.symm.trans y)), vp_in_nI (by omega) (by decide)⟩
theorem cx_end (hn : n ≤ 40) (hK : ∀ i, i < n → tk i = nI (T i) ∧ T i < 23) {post : Int32 → Prop} {i : Nat} (hi : i < n) (h : post (if cm_end T i = true then 1 else 0)) : wpX_endsOperand post (oc, nI n, cp, lc, sc, kc, dp, vc, er, ep, uu, cls, num, lnk, lsz, lit, fb, tk, tv, rk, rl, ro, ra, rt, rp, oo, co, sk, kd, fr, fn, fi, vs, ll, li, lt) (nI i) := by
  obtain ⟨e1, e2, e3⟩ := cx_tk hn hK hi
  have hT := (hK i hi).2
  refine ⟨e3, nm_r (e' := nI (T i)) e1 ?_⟩
  unfold cm_end at h
  have c : T i = 0 ∨ T i = 1 ∨ T i = 2 ∨ T i = 3 ∨ T i = 4 ∨ T i = 5 ∨ T i = 6 ∨ T i = 7 ∨ T i = 8 ∨ T i = 9 ∨ T i = 10 ∨ T i = 11 ∨ T i = 12 ∨ T i = 13 ∨ T i = 14 ∨ T i = 15 ∨ T i = 16 ∨ T i = 17 ∨ T i = 18 ∨ T i = 19 ∨ T i = 20 ∨ T i = 21 ∨ T i = 22 := by omega
  rcases c with c | c | c | c | c | c | c | c | c | c | c | c | c | c | c | c | c | c | c | c | c | c | c <;> rw [c] at h ⊢
  · exact br_f (by decide) (br_f (by decide) (br_t (by decide) (h)))
  · exact br_f (by decide) (br_f (by decide) (br_f (by decide) (br_t (by decide) (h))))
  · exact br_f (by decide) (br_f (by decide) (br_f (by decide) (br_f (by decide) (br_t (by decide) (h)))))
  · exact br_f (by decide) (br_f (by decide) (br_f (by decide) (br_f (by decide) (br_f (by decide) (br_t (by decide) (h))))))
  · exact br_f (by decide) (br_f (by decide) (br_f (by decide) (br_f (by decide) (br_f (by decide) (br_f (by decide) (br_t (by decide) (h)))))))
  · exact br_f (by decide) (br_f (by decide) (br_f (by decide) (br_f (by decide) (br_f (by decide) (br_f (by decide) (br_f (by decide) (br_t (by decide) (h))))))))
  · exact br_f (by decide) (br_f (by decide) (br_f (by decide) (br_f (by decide) (br_f (by decide) (br_f (by decide) (br_f (by decide) (br_f (by decide) (br_t (by decide) (h)))))))))
  · exact br_f (by decide) (br_f (by decide) (br_f (by decide) (br_f (by decide) (br_f (by decide) (br_f (by decide) (br_f (by decide) (br_f (by decide) (br_f (by decide) (br_t (by decide) (h))))))))))
  · exact br_f (by decide) (br_f (by decide) (br_f (by decide) (br_f (by decide) (br_f (by decide) (br_f (by decide) (br_f (by decide) (br_f (by decide) (br_f (by decide) (br_f (by decide) (br_t (by decide) (h)))))))))))
  · exact br_f (by decide) (br_f (by decide) (br_f (by decide) (br_f (by decide) (br_f (by decide) (br_f (by decide) (br_f (by decide) (br_f (by decide) (br_f (by decide) (br_f (by decide) (br_f (by decide) (br_t (by decide) (h))))))))))))
  · exact br_f (by decide) (br_f (by decide) (br_f (by decide) (br_f (by decide) (br_f (by decide) (br_f (by decide) (br_f (by decide) (br_f (by decide) (br_f (by decide) (br_f (by decide) (br_f (by decide) (br_f (by decide) (br_t (by decide) (h)))))))))))))
  · exact br_f (by decide) (br_f (by decide) (br_f (by decide) (br_f (by decide) (br_f (by decide) (br_f (by decide) (br_f (by decide) (br_f (by decide) (br_f (by decide) (br_f (by decide) (br_f (by decide) (br_f (by decide) (br_f (by decide) (br_t (by decide) (h))))))))))))))
  · exact br_f (by decide) (br_f (by decide) (br_f (by decide) (br_f (by decide) (br_f (by decide) (br_f (by decide) (br_f (by decide) (br_f (by decide) (br_f (by decide) (br_f (by decide) (br_f (by decide) (br_f (by decide) (br_f (by decide) (br_f (by decide) (br_t (by decide) (h)))))))))))))))
  · exact br_f (by decide) (br_f (by decide) (br_f (by decide) (br_f (by decide) (br_f (by decide) (br_f (by decide) (br_f (by decide) (br_f (by decide) (br_f (by decide) (br_f (by decide) (br_f (by decide) (br_f (by decide) (br_f (by decide) (br_f (by decide) (br_f (by decide) (br_t (by decide) (h))))))))))))))))
  · exact br_f (by decide) (br_f (by decide) (br_f (by decide) (br_f (by decide) (br_f (by decide) (br_f (by decide) (br_f (by decide) (br_f (by decide) (br_f (by decide) (br_f (by decide) (br_f (by decide) (br_f (by decide) (br_f (by decide) (br_f (by decide) (br_f (by decide) (br_f (by decide) (br_t (by decide) (h)))))))))))))))))
  · exact br_f (by decide) (br_f (by decide) (br_f (by decide) (br_f (by decide) (br_f (by decide) (br_f (by decide) (br_f (by decide) (br_f (by decide) (br_f (by decide) (br_f (by decide) (br_f (by decide) (br_f (by decide) (br_f (by decide) (br_f (by decide) (br_f (by decide) (br_f (by decide) (br_f (by decide) (br_t (by decide) (h))))))))))))))))))
  · exact br_f (by decide) (br_f (by decide) (br_f (by decide) (br_f (by decide) (br_f (by decide) (br_f (by decide) (br_f (by decide) (br_f (by decide) (br_f (by decide) (br_f (by decide) (br_f (by decide) (br_f (by decide) (br_f (by decide) (br_f (by decide) (br_f (by decide) (br_f (by decide) (br_f (by decide) (br_f (by decide) (br_t (by decide) (h)))))))))))))))))))
  · exact br_f (by decide) (br_f (by decide) (br_f (by decide) (br_f (by decide) (br_f (by decide) (br_f (by decide) (br_f (by decide) (br_f (by decide) (br_f (by decide) (br_f (by decide) (br_f (by decide) (br_f (by decide) (br_f (by decide) (br_f (by decide) (br_f (by decide) (br_f (by decide) (br_f (by decide) (br_f (by decide) (br_f (by decide) (br_t (by decide) (h))))))))))))))))))))
  · exact br_f (by decide) (br_f (by decide) (br_f (by decide) (br_f (by decide) (br_f (by decide) (br_f (by decide) (br_f (by decide) (br_f (by decide) (br_f (by decide) (br_f (by decide) (br_f (by decide) (br_f (by decide) (br_f (by decide) (br_f (by decide) (br_f (by decide) (br_f (by decide) (br_f (by decide) (br_f (by decide) (br_f (by decide) (br_f (by decide) (br_t (by decide) (h)))))))))))))))))))))
  · exact br_f (by decide) (br_f (by decide) (br_f (by decide) (br_f (by decide) (br_f (by decide) (br_f (by decide) (br_f (by decide) (br_f (by decide) (br_f (by decide) (br_f (by decide) (br_f (by decide) (br_f (by decide) (br_f (by decide) (br_f (by decide) (br_f (by decide) (br_f (by decide) (br_f (by decide) (br_f (by decide) (br_f (by decide) (br_f (by decide) (br_f (by decide) (br_t (by decide) (h))))))))))))))))))))))
  · exact br_f (by decide) (br_t (by decide) (h))
  · exact br_f (by decide) (br_t (by decide) (h))
  · exact br_f (by decide) (br_t (by decide) (h))
theorem cx_isp (hn : n ≤ 40) (hK : ∀ i, i < n → tk i = nI (T i) ∧ T i < 23) {post : Int32 → Prop} {i : Nat} (hi : i < n) (h : post (if cm_pre T i = true then 1 else 0)) : wpX_isPrefix post (oc, nI n, cp, lc, sc, kc, dp, vc, er, ep, uu, cls, num, lnk, lsz, lit, fb, tk, tv, rk, rl, ro, ra, rt, rp, oo, co, sk, kd, fr, fn, fi, vs, ll, li, lt) (nI i) := by
  obtain ⟨e1, e2, e3⟩ := cx_tk hn hK hi
  refine ⟨e3, ?_⟩
  unfold cm_pre at h
  by_cases t12 : T i = 12
  · rw [decide_eq_true t12] at h
    exact br_t (by rw [e1, t12]; rfl) h
  · rw [decide_eq_false t12] at h
    refine br_f (e2 12 t12 (by decide)) ⟨e3, ?_⟩
    by_cases t16 : T i = 16
    · rw [decide_eq_true t16] at h
      refine br_t (by rw [e1, t16]; rfl) ?_
      by_cases i0 : i = 0
      · rw [decide_eq_true i0] at h
        exact br_t (by rw [i0]; rfl) h
      · rw [decide_eq_false i0] at h
        refine br_f (nI_ne0 (by omega) (by omega)) ?_
        obtain ⟨j, rfl⟩ : ∃ j, i = j + 1 := ⟨i - 1, by omega⟩
        rw [nI_pred]
        rw [Nat.add_sub_cancel] at h
        refine cx_end hn hK (by omega) ?_
        cases hc : cm_end T j with
        | true => rw [hc] at h; exact br_f (by decide) h
        | false => rw [hc] at h; exact br_t rfl h
    · rw [decide_eq_false t16] at h
      exact br_f (e2 16 t16 (by decide)) h
theorem cx_str (hn : n ≤ 40) (hK : ∀ i, i < n → tk i = nI (T i) ∧ T i < 23) {post : Int32 → Prop} {i : Nat} (hi : i < n) (h : post (nI (cm_str T i))) : wpX_strengthOf post (oc, nI n, cp, lc, sc, kc, dp, vc, er, ep, uu, cls, num, lnk, lsz, lit, fb, tk, tv, rk, rl, ro, ra, rt, rp, oo, co, sk, kd, fr, fn, fi, vs, ll, li, lt) (nI i) := by
  obtain ⟨e1, e2, e3⟩ := cx_tk hn hK hi
  have hT := (hK i hi).2
  refine ⟨e3, nm_r (e' := nI (T i)) e1 ?_⟩
  have c : T i = 0 ∨ T i = 1 ∨ T i = 2 ∨ T i = 3 ∨ T i = 4 ∨ T i = 5 ∨ T i = 6 ∨ T i = 7 ∨ T i = 8 ∨ T i = 9 ∨ T i = 10 ∨ T i = 11 ∨ T i = 12 ∨ T i = 13 ∨ T i = 14 ∨ T i = 15 ∨ T i = 16 ∨ T i = 17 ∨ T i = 18 ∨ T i = 19 ∨ T i = 20 ∨ T i = 21 ∨ T i = 22 := by omega
  unfold cm_str at h
  rcases c with c | c | c | c | c | c | c | c | c | c | c | c | c | c | c | c | c | c | c | c | c | c | c <;> rw [c] at h ⊢
  · exact br_t (by decide) (h)
  · exact br_t (by decide) (h)
  · exact br_t (by decide) (h)
  · exact br_t (by decide) (h)
  · exact br_t (by decide) (h)
  · exact br_t (by decide) (h)
  · exact br_t (by decide) (h)
  · exact br_t (by decide) (h)
  · exact br_t (by decide) (h)
  · exact br_f (by decide) (br_f (by decide) (br_t (by decide) (h)))
  · exact br_f (by decide) (br_f (by decide) (br_f (by decide) (br_t (by decide) (h))))
  · exact br_f (by decide) (br_f (by decide) (br_f (by decide) (br_f (by decide) (br_t (by decide) (h)))))
  · exact br_f (by decide) (br_f (by decide) (br_f (by decide) (br_f (by decide) (br_f (by decide) (br_t (by decide) (h))))))
  · exact br_f (by decide) (br_f (by decide) (br_f (by decide) (br_f (by decide) (br_f (by decide) (br_f (by decide) (br_t (by decide) (h)))))))
  · exact br_f (by decide) (br_f (by decide) (br_f (by decide) (br_f (by decide) (br_f (by decide) (br_f (by decide) (br_f (by decide) (br_t (by decide) (h))))))))
  · exact br_f (by decide) (br_f (by decide) (br_f (by decide) (br_f (by decide) (br_f (by decide) (br_f (by decide) (br_f (by decide) (br_f (by decide) (br_t (by decide) (h)))))))))
  · refine br_f (by decide) (br_f (by decide) (br_f (by decide) (br_f (by decide) (br_f (by decide) (br_f (by decide) (br_f (by decide) (br_f (by decide) (br_f (by decide) (br_t (by decide) (cx_isp hn hK hi ?_))))))))))
    cases hp : cm_pre T i with
    | true => rw [hp] at h; exact br_f (by decide) h
    | false => rw [hp] at h; exact br_t rfl h
  · exact br_f (by decide) (br_f (by decide) (br_f (by decide) (br_f (by decide) (br_f (by decide) (br_f (by decide) (br_f (by decide) (br_f (by decide) (br_f (by decide) (br_f (by decide) (br_t (by decide) (h)))))))))))
  · exact br_f (by decide) (br_f (by decide) (br_f (by decide) (br_f (by decide) (br_f (by decide) (br_f (by decide) (br_f (by decide) (br_f (by decide) (br_f (by decide) (br_f (by decide) (br_f (by decide) (br_t (by decide) (h))))))))))))
  · exact br_f (by decide) (br_t (by decide) (h))
  · exact br_f (by decide) (br_t (by decide) (h))
  · exact br_f (by decide) (br_t (by decide) (h))
  · exact br_f (by decide) (br_t (by decide) (h))
theorem cx_sf (hn : n ≤ 40) (hK : ∀ i, i < n → tk i = nI (T i) ∧ T i < 23) {post : Int32 → Prop} {i : Nat} (hi : i < n) (h : post (nI (cm_sf T i))) : wpX_settlesFrom post (oc, nI n, cp, lc, sc, kc, dp, vc, er, ep, uu, cls, num, lnk, lsz, lit, fb, tk, tv, rk, rl, ro, ra, rt, rp, oo, co, sk, kd, fr, fn, fi, vs, ll, li, lt) (nI i) := by
  obtain ⟨e1, e2, e3⟩ := cx_tk hn hK hi
  have hT := (hK i hi).2
  refine ⟨e3, nm_r (e' := nI (T i)) e1 ?_⟩
  have s7 := cm_str7 (T := T) i
  have dflt : T i ≠ 7 → T i ≠ 9 → T i ≠ 8 → wpX_strengthOf (fun r_5 => (((r_5 = 0 → (post 8)) ∧ (¬ r_5 = 0 → (((r_5 = 7 → (post 8)) ∧ (¬ r_5 = 7 → (post r_5)))))))) (oc, nI n, cp, lc, sc, kc, dp, vc, er, ep, uu, cls, num, lnk, lsz, lit, fb, tk, tv, rk, rl, ro, ra, rt, rp, oo, co, sk, kd, fr, fn, fi, vs, ll, li, lt) (nI i) := by
    intro t7 t9 t8
    refine cx_str hn hK hi ?_
    unfold cm_sf at h
    rw [if_neg (by omega), if_neg t8] at h
    by_cases z0 : cm_str T i = 0
    · rw [if_pos (Or.inl z0)] at h
      exact br_t (by rw [z0]; rfl) h
    · refine br_f (nI_ne0 (by omega) (by omega)) ?_
      by_cases z7 : cm_str T i = 7
      · rw [if_pos (Or.inr z7)] at h
        exact br_t (by rw [z7]; rfl) h
      · rw [if_neg (by omega)] at h
        exact br_f (fun z => z7 ((nI_eq (b := 7) (by omega) (by decide)).1 z)) h
  by_cases l7 : T i < 7
  · exact br_t (nI_lt (b := 7) l7 (by decide)) (dflt (by omega) (by omega) (by omega))
  · refine br_f (nI_nlt (b := 7) (by omega) (by omega)) ?_
    by_cases g9 : 9 < T i
    · exact br_t (nI_lt (a := 9) g9 (by omega)) (dflt (by omega) (by omega) (by omega))
    · refine br_f (nI_nlt (a := 9) (by omega) (by omega)) ?_
      have c : T i = 7 ∨ T i = 8 ∨ T i = 9 := by omega
      rcases c with c | c | c
      · rw [cm_sf1 (Or.inl c)] at h
        rw [c]; exact br_t rfl h
      · rw [cm_sf2 c] at h
        rw [c]; exact br_f (by decide) (br_t rfl h)
      · rw [cm_sf1 (Or.inr c)] at h
        rw [c]; exact br_f (by decide) (br_f (by decide) (br_t rfl h))
end
end
section
section
variable {oc cp dp vc er ep uu lc sc kc : Int32} {cls num lnk lsz lit fb tk tv rk oo fr fn fi vs ll li lt rl ro ra rt rp co sk kd rl0 ro0 ra0 rt0 rp0 : Nat → Int32} {n b : Nat} {T : Nat → Nat} {J : Nat → Prop} {stk : List (Nat × Nat)} {ks : List Int32} {code : List cm_I} {lst : Nat}
theorem cx_demk {post : SX → Prop} {ok : Bool} {p : Nat} {v : Int32} (hR : cx_R T J rl0 ro0 ra0 rt0 rp0 b stk ks code lst lc sc kc rl ro ra rt rp co sk kd) (hv : v = if ok = true then 1 else 0) (hp : p < 1000) (HH : ∀ lc', cx_R T J rl0 ro0 ra0 rt0 rp0 b stk ks code (cm_dem ok p lst) lc' sc kc rl ro ra rt rp co sk kd → post (oc, nI n, cp, lc', sc, kc, dp, vc, er, ep, uu, cls, num, lnk, lsz, lit, fb, tk, tv, rk, rl, ro, ra, rt, rp, oo, co, sk, kd, fr, fn, fi, vs, ll, li, lt)) : wpX_demand post (oc, nI n, cp, lc, sc, kc, dp, vc, er, ep, uu, cls, num, lnk, lsz, lit, fb, tk, tv, rk, rl, ro, ra, rt, rp, oo, co, sk, kd, fr, fn, fi, vs, ll, li, lt) v (nI p) := by
  obtain ⟨h1, h2, h3, h4, h5, h6, h7, h8, h9, h10⟩ := id hR
  subst hv
  cases ok with
  | true => exact br_f (by decide) (HH _ hR)
  | false =>
    refine br_t rfl ?_
    rw [h1]
    by_cases y : lst ≤ p
    · refine br_t (nI_le y (by omega)) (HH _ ⟨?_, h2, h3, h4, h5, h6, h7, by show min lst _ ≤ 100; omega, h9, h10⟩)
      show nI lst = nI (min lst p)
      rw [Nat.min_eq_left y]
    · refine br_f (nI_ge (by omega) (by omega)) (HH _ ⟨?_, h2, h3, h4, h5, h6, h7, by show min lst _ ≤ 100; omega, h9, h10⟩)
      show nI _ = nI (min lst p)
      rw [Nat.min_eq_right (by omega)]
theorem cx_one {x y : Int32} {A B : Prop} {P : Int32 → Prop} (hA : P 1 → A) (hB : P 0 → B) (h : P (if decide (x = y) = true then 1 else 0)) : (x = y → A) ∧ (¬ x = y → B) := by
  by_cases z : x = y
  · rw [decide_eq_true z] at h
    exact br_t z (hA h)
  · rw [decide_eq_false z] at h
    exact br_f z (hB h)
theorem cx_apP (hn : n ≤ 40) (hK : ∀ i, i < n → tk i = nI (T i) ∧ T i < 23) {post : SX → Prop} {i : Nat} {x : Int32} {r : List Int32} (hi : i < n) (hp : T i = 12 ∨ T i = 16) (hR : cx_R T J rl0 ro0 ra0 rt0 rp0 b stk (x :: r) code lst lc sc kc rl ro ra rt rp co sk kd) (hks : r.length < 40) (hc : code.length < 40) (H : ∀ (lc' sc' kc' : Int32) (rl' ro' ra' rt' rp' co' sk' kd' : Nat → Int32), cx_R T J rl0 ro0 ra0 rt0 rp0 b stk ((if T i = 12 then 2 else 1) :: r) (code ++ [((if T i = 12 then 12 else 23), 0, 0, nI i)]) (cm_dem (decide (x = (if T i = 12 then 2 else 1))) i lst) lc' sc' kc' rl' ro' ra' rt' rp' co' sk' kd' → post (oc, nI n, cp, lc', sc', kc', dp, vc, er, ep, uu, cls, num, lnk, lsz, lit, fb, tk, tv, rk, rl', ro', ra', rt', rp', oo, co', sk', kd', fr, fn, fi, vs, ll, li, lt)) : wpX_applyPrefix post (oc, nI n, cp, lc, sc, kc, dp, vc, er, ep, uu, cls, num, lnk, lsz, lit, fb, tk, tv, rk, rl, ro, ra, rt, rp, oo, co, sk, kd, fr, fn, fi, vs, ll, li, lt) (nI i) := by
  obtain ⟨e1, e2, e3⟩ := cx_tk hn hK hi
  have fin : ∀ (fl kk oo' : Int32), (fl = 0 → oo' = 23) → (¬ fl = 0 → oo' = 12) → kk = (if T i = 12 then 2 else 1) → oo' = (if T i = 12 then 12 else 23) → wX_applyPrefix_26 post (nI i) fl kk oc (nI n) cp lc sc kc dp vc er ep uu cls num lnk lsz lit fb tk tv rk rl ro ra rt rp oo co sk kd fr fn fi vs ll li lt := by
    intro fl kk oo' hf0 hf1 hkk hoo'
    obtain ⟨h1, h2, h3, h4, h5, h6, h7, h8, h9, h10⟩ := id hR
    have k1 : kc - 1 = nI r.length := by rw [h3]; exact nI_pred _
    have kx : kd (kc - 1).toNatClampNeg = x := by rw [k1, nI_clamp (by omega)]; exact h6.1
    refine ⟨by rw [k1]; exact vp_in_nI hks (by decide), ?_⟩
    rw [kx]
    have nxt : ∀ v : Int32, v = (if decide (x = kk) = true then 1 else 0) → wX_applyPrefix_48 post (nI i) fl kk v oc (nI n) cp lc sc kc dp vc er ep uu cls num lnk lsz lit fb tk tv rk rl ro ra rt rp oo co sk kd fr fn fi vs ll li lt := by
      intro v hv
      refine cx_dem hR hv (by omega) ?_
      intro lc1 sc1 kc1 rl1 ro1 ra1 rt1 rp1 co1 sk1 kd1 hR1
      have em : ∀ o2, o2 = oo' → wX_applyPrefix_64 post (nI i) kk o2 oc (nI n) cp (lc1) (sc1) (kc1) dp vc er ep uu cls num lnk lsz lit fb tk tv rk (rl1) (ro1) (ra1) (rt1) (rp1) oo (co1) (sk1) (kd1) fr fn fi vs ll li lt := by
        intro o2 ho2
        subst ho2
        refine cx_emit hR1 hc ?_
        intro lc2 sc2 kc2 rl2 ro2 ra2 rt2 rp2 co2 sk2 kd2 hR2
        obtain ⟨g1, g2, g3, g4, g5, g6, g7, g8, g9, g10⟩ := hR2
        have k2 : kc2 - 1 = nI r.length := by rw [g3]; exact nI_pred _
        refine ⟨by rw [k2]; exact vp_in_nI hks (by decide), nm_r (e' := upd kd2 r.length kk) (by rw [k2, nI_clamp (by omega)]) (H _ _ _ _ _ _ _ _ _ _ _ ?_)⟩
        rw [← hkk, ← hoo']
        exact ⟨g1, g2, g3, g4, g5, ⟨pk_us, cx_K_up (Nat.le_refl _) g6.2⟩, g7, g8, g9, g10⟩
      by_cases z : fl = 0
      · exact br_t z (em 23 (hf0 z).symm)
      · exact br_f z (em 12 (hf1 z).symm)
    exact cx_one (P := fun v => v = (if decide (x = kk) = true then 1 else 0)) (fun z => nxt 1 z) (fun z => nxt 0 z) rfl
  refine ⟨e3, ?_⟩
  by_cases t12 : T i = 12
  · refine br_t (by rw [e1, t12]; rfl) (br_f (by decide) (fin 1 2 12 (fun z => absurd z (by decide)) (fun _ => rfl) ?_ ?_))
    · rw [if_pos t12]
    · rw [if_pos t12]
  · refine br_f (e2 12 t12 (by decide)) (br_t rfl (fin 0 1 23 (fun _ => rfl) (fun z => absurd rfl z) ?_ ?_))
    · rw [if_neg t12]
    · rw [if_neg t12]
theorem cx_apC (hn : n ≤ 40) (hK : ∀ i, i < n → tk i = nI (T i) ∧ T i < 23) {post : SX → Prop} {i c : Nat} {y2 y1 x : Int32} {r : List Int32} (hi : i < n) (ho : oo i = nI (ca_o T i)) (hon : ca_o T i < n) (hco : co i = nI c) (hc : c < 40) (hR : cx_R T J rl0 ro0 ra0 rt0 rp0 b stk (y2 :: y1 :: x :: r) code lst lc sc kc rl ro ra rt rp co sk kd) (hks : r.length + 2 < 40) (H : ∀ (lc' sc' kc' : Int32) (rl' ro' ra' rt' rp' co' sk' kd' : Nat → Int32), cx_R T J rl0 ro0 ra0 rt0 rp0 b stk (y1 :: r) (cm_aim code c (nI code.length)) (cm_dem (decide (y1 = y2)) (ca_o T i) (cm_dem (decide (x = 2)) (ca_o T i) lst)) lc' sc' kc' rl' ro' ra' rt' rp' co' sk' kd' → post (oc, nI n, cp, lc', sc', kc', dp, vc, er, ep, uu, cls, num, lnk, lsz, lit, fb, tk, tv, rk, rl', ro', ra', rt', rp', oo, co', sk', kd', fr, fn, fi, vs, ll, li, lt)) : wpX_applyChoice post (oc, nI n, cp, lc, sc, kc, dp, vc, er, ep, uu, cls, num, lnk, lsz, lit, fb, tk, tv, rk, rl, ro, ra, rt, rp, oo, co, sk, kd, fr, fn, fi, vs, ll, li, lt) (nI i) := by
  obtain ⟨h1, h2, h3, h4, h5, h6, h7, h8, h9, h10⟩ := id hR
  have k0 : kc - 2 = nI (r.length + 1) := by rw [h3, show (2 : Int32) = nI 2 from rfl, pk_sub (by show 2 ≤ r.length + 1 + 1 + 1; omega)]; rfl
  refine nm_r k0 ⟨vp_in_nI (by omega) (by decide), nm_r (e' := nI (ca_o T i)) (by rw [nI_clamp (by omega)]; exact ho) ⟨by rw [nI_pred]; exact vp_in_nI (by omega) (by decide), ?_⟩⟩
  rw [show kd (nI (r.length + 1) - 1).toNatClampNeg = x by rw [nI_pred, nI_clamp (by omega)]; exact h6.2.2.1]
  -- the state with the smaller count of kinds: read as y1 :: x :: r less one
  have hRa : cx_R T J rl0 ro0 ra0 rt0 rp0 b stk (x :: r) code lst lc sc (nI (r.length + 1)) rl ro ra rt rp co sk kd := ⟨h1, h2, rfl, h4, h5, h6.2.2, h7, h8, h9, h10⟩
  have last : ∀ v : Int32, v = (if decide (x = 2) = true then 1 else 0) → wX_applyChoice_38 post (nI i) (nI (ca_o T i)) v oc (nI n) cp lc sc (nI (r.length + 1)) dp vc er ep uu cls num lnk lsz lit fb tk tv rk rl ro ra rt rp oo co sk kd fr fn fi vs ll li lt := by
    intro v hv
    obtain ⟨q1, q2, q3, q4, q5, q6, q7, q8, q9, q10⟩ := id hRa
    -- the demand leaves the kinds' cells alone
    have dm : ∀ (post : SX → Prop), (∀ lc', cx_R T J rl0 ro0 ra0 rt0 rp0 b stk (x :: r) code (cm_dem (decide (x = 2)) (ca_o T i) lst) lc' sc (nI (r.length + 1)) rl ro ra rt rp co sk kd → post (oc, nI n, cp, lc', sc, nI (r.length + 1), dp, vc, er, ep, uu, cls, num, lnk, lsz, lit, fb, tk, tv, rk, rl, ro, ra, rt, rp, oo, co, sk, kd, fr, fn, fi, vs, ll, li, lt)) → wpX_demand post (oc, nI n, cp, lc, sc, nI (r.length + 1), dp, vc, er, ep, uu, cls, num, lnk, lsz, lit, fb, tk, tv, rk, rl, ro, ra, rt, rp, oo, co, sk, kd, fr, fn, fi, vs, ll, li, lt) v (nI (ca_o T i)) := by
      intro post HH
      subst hv
      by_cases z : x = 2
      · rw [decide_eq_true z] at HH ⊢
        exact br_f (by decide) (HH _ hRa)
      · rw [decide_eq_false z] at HH ⊢
        refine br_t rfl ?_
        rw [h1]
        by_cases y : lst ≤ ca_o T i
        · refine br_t (nI_le y (by omega)) (HH _ ⟨?_, q2, q3, q4, q5, q6, q7, by show min lst _ ≤ 100; omega, q9, q10⟩)
          show nI lst = nI (min lst (ca_o T i))
          rw [Nat.min_eq_left y]
        · refine br_f (nI_ge (by omega) (by omega)) (HH _ ⟨?_, q2, q3, q4, q5, q6, q7, by show min lst _ ≤ 100; omega, q9, q10⟩)
          show nI _ = nI (min lst (ca_o T i))
          rw [Nat.min_eq_right (by omega)]
    refine dm _ (fun lc' hRb => ?_)
    refine ⟨vp_in_nI (by omega) (by decide), by rw [nI_1]; exact vp_in_nI (by omega) (by decide), ?_⟩
    have ky1 : kd (nI (r.length + 1)).toNatClampNeg = y1 := by rw [nI_clamp (by omega)]; exact h6.2.1
    have ky2 : kd (nI (r.length + 1) + 1).toNatClampNeg = y2 := by rw [nI_1, nI_clamp (by omega)]; exact h6.1
    rw [ky1, ky2]
    have dm2 : ∀ (v2 : Int32), v2 = (if decide (y1 = y2) = true then 1 else 0) → wX_applyChoice_71 post (nI i) (nI (ca_o T i)) v2 oc (nI n) cp (lc') sc (nI (r.length + 1)) dp vc er ep uu cls num lnk lsz lit fb tk tv rk rl ro ra rt rp oo co sk kd fr fn fi vs ll li lt := by
      intro v2 hv2
      obtain ⟨p1, p2, p3, p4, p5, p6, p7, p8, p9, p10⟩ := id hRb
      have tail : ∀ lc2, cx_R T J rl0 ro0 ra0 rt0 rp0 b stk (x :: r) code (cm_dem (decide (y1 = y2)) (ca_o T i) (cm_dem (decide (x = 2)) (ca_o T i) lst)) lc2 sc (nI (r.length + 1)) rl ro ra rt rp co sk kd → wpX_aimHere (fun u => match u with | (oc9, tc9, cp9, lc9, sc9, kc9, dp9, vc9, er9, ep9, uu9, cls9, num9, lnk9, lsz9, lit9, fb9, tk9, tv9, rk9, rl9, ro9, ra9, rt9, rp9, oo9, co9, sk9, kd9, fr9, fn9, fi9, vs9, ll9, li9, lt9) => (vp_in kc9 40 ∧ (vp_in (kc9 - 1) 40 ∧ ∀ kd8 : Nat → Int32, kd8 = upd kd9 (kc9 - 1).toNatClampNeg (kd9 kc9.toNatClampNeg) → post (oc9, tc9, cp9, lc9, sc9, kc9, dp9, vc9, er9, ep9, uu9, cls9, num9, lnk9, lsz9, lit9, fb9, tk9, tv9, rk9, rl9, ro9, ra9, rt9, rp9, oo9, co9, sk9, kd8, fr9, fn9, fi9, vs9, ll9, li9, lt9)))) (oc, nI n, cp, lc2, sc, nI (r.length + 1), dp, vc, er, ep, uu, cls, num, lnk, lsz, lit, fb, tk, tv, rk, rl, ro, ra, rt, rp, oo, co, sk, kd, fr, fn, fi, vs, ll, li, lt) (nI i) := by
        intro lc2 hRc
        have e : 240 + nI c = nI (240 + c) := nI_add 240 c
        have ci : co (nI i).toNatClampNeg = nI c := by rw [nI_clamp (by omega)]; exact hco
        obtain ⟨s1, s2, s3, s4, s5, s6, s7, s8, s9, s10⟩ := hRc
        refine ⟨vp_in_nI (by omega) (by decide), by rw [ci, e]; exact vp_in_nI (by omega) (by decide), nm_r (e' := upd rt (240 + c) (nI code.length)) (by rw [ci, e, nI_clamp (by omega), s4]) ?_⟩
        refine ⟨vp_in_nI (by omega) (by decide), by rw [nI_pred]; exact vp_in_nI (by omega) (by decide), nm_r (e' := upd kd r.length y1) (by rw [ky1, nI_pred, nI_clamp (by omega)]) (H _ _ _ _ _ _ _ _ _ _ _ ⟨s1, s2, s3, by rw [cm_aim_len]; exact s4, s5, ⟨pk_us, cx_K_up (Nat.le_refl _) s6.2⟩, ?_, s8, s9, ?_⟩)⟩
        · intro j x hx
          obtain ⟨y, z1, z2, z3, z4, z5⟩ := cm_aim_get code c _ j x hx
          obtain ⟨g1, g2, g3, g4⟩ := s7 j y z1
          rw [z2, z3, z4, z5]
          refine ⟨g1, g2, ?_, g4⟩
          by_cases z : j = c
          · rw [z, if_pos rfl, pk_us]
          · rw [if_neg z, pk_un (by omega)]; exact g3
        · intro j hj; rw [pk_un (by omega)]; exact s10 j hj
      subst hv2
      by_cases z : y1 = y2
      · rw [decide_eq_true z] at tail ⊢
        exact br_f (by decide) (tail _ hRb)
      · rw [decide_eq_false z] at tail ⊢
        refine br_t rfl ?_
        rw [p1]
        generalize hL : cm_dem (decide (x = 2)) (ca_o T i) lst = L at *
        by_cases y : L ≤ ca_o T i
        · refine br_t (nI_le y (by omega)) (tail _ ⟨?_, p2, p3, p4, p5, p6, p7, by show min L _ ≤ 100; omega, p9, p10⟩)
          show nI L = nI (min L (ca_o T i))
          rw [Nat.min_eq_left y]
        · refine br_f (nI_ge (by omega) (by omega)) (tail _ ⟨?_, p2, p3, p4, p5, p6, p7, by show min L _ ≤ 100; omega, p9, p10⟩)
          show nI _ = nI (min L (ca_o T i))
          rw [Nat.min_eq_right (by omega)]
    exact cx_one (P := fun v => v = (if decide (y1 = y2) = true then 1 else 0)) (fun z => dm2 1 z) (fun z => dm2 0 z) rfl
  exact cx_one (P := fun v => v = (if decide (x = 2) = true then 1 else 0)) (fun z => last 1 z) (fun z => last 0 z) rfl
theorem cx_apB (hn : n ≤ 40) (hK : ∀ i, i < n → tk i = nI (T i) ∧ T i < 23) {post : SX → Prop} {i c : Nat} {y x : Int32} {r : List Int32} (hi : i < n) (ht : 10 ≤ T i ∧ T i ≤ 18) (hco : T i = 10 ∨ T i = 11 → co i = nI c ∧ c < 40) (hR : cx_R T J rl0 ro0 ra0 rt0 rp0 b stk (y :: x :: r) code lst lc sc kc rl ro ra rt rp co sk kd) (hks : r.length + 1 < 40) (hcl : ¬ (T i = 10 ∨ T i = 11) → code.length < 40)
  (Hl : T i = 10 ∨ T i = 11 → ∀ (lc' sc' kc' : Int32) (rl' ro' ra' rt' rp' co' sk' kd' : Nat → Int32), cx_R T J rl0 ro0 ra0 rt0 rp0 b stk (2 :: r) (cm_aim code c (nI code.length)) (cm_dem (decide (x = 2 ∧ y = 2)) i lst) lc' sc' kc' rl' ro' ra' rt' rp' co' sk' kd' → post (oc, nI n, cp, lc', sc', kc', dp, vc, er, ep, uu, cls, num, lnk, lsz, lit, fb, tk, tv, rk, rl', ro', ra', rt', rp', oo, co', sk', kd', fr, fn, fi, vs, ll, li, lt))
  (Hb : ¬ (T i = 10 ∨ T i = 11) → ∀ (lc' sc' kc' : Int32) (rl' ro' ra' rt' rp' co' sk' kd' : Nat → Int32), cx_R T J rl0 ro0 ra0 rt0 rp0 b stk ((if 15 ≤ T i then 1 else 2) :: r) (code ++ [(nI (T i), 0, 0, nI i)]) (cm_dem (if T i = 13 then decide (x = y ∧ ¬ x = 4) else decide (x = 1 ∧ y = 1)) i lst) lc' sc' kc' rl' ro' ra' rt' rp' co' sk' kd' → post (oc, nI n, cp, lc', sc', kc', dp, vc, er, ep, uu, cls, num, lnk, lsz, lit, fb, tk, tv, rk, rl', ro', ra', rt', rp', oo, co', sk', kd', fr, fn, fi, vs, ll, li, lt)) : wpX_applyBinary post (oc, nI n, cp, lc, sc, kc, dp, vc, er, ep, uu, cls, num, lnk, lsz, lit, fb, tk, tv, rk, rl, ro, ra, rt, rp, oo, co, sk, kd, fr, fn, fi, vs, ll, li, lt) (nI i) := by
  obtain ⟨e1, e2, e3⟩ := cx_tk hn hK hi
  have hT := (hK i hi).2
  obtain ⟨h1, h2, h3, h4, h5, h6, h7, h8, h9, h10⟩ := id hR
  have k0 : kc - 1 = nI (r.length + 1) := by rw [h3]; exact nI_pred _
  have hRa : cx_R T J rl0 ro0 ra0 rt0 rp0 b stk (x :: r) code lst lc sc (nI (r.length + 1)) rl ro ra rt rp co sk kd := ⟨h1, h2, rfl, h4, h5, h6.2, h7, h8, h9, h10⟩
  refine nm_r k0 ⟨by rw [nI_pred]; exact vp_in_nI (by omega) (by decide), nm_r (e' := x) (by rw [nI_pred, nI_clamp (by omega)]; exact h6.2.1) ⟨vp_in_nI (by omega) (by decide), nm_r (e' := y) (by rw [nI_clamp (by omega)]; exact h6.1) ⟨e3, nm_r (e' := nI (T i)) e1 ?_⟩⟩⟩
  have t0 : ∀ z, T i ≠ z → z < 23 → ¬ nI (T i) = nI z := fun z h hz y => h ((nI_eq (by omega) (by omega)).1 y)
  have kset : ∀ (K : Int32) { lc5 sc5 kc5 rl5 ro5 ra5 rt5 rp5 co5 sk5 kd5 } {code5 : List cm_I} {lst5 : Nat}, K = (if 15 ≤ T i then 1 else 2) → cx_R T J rl0 ro0 ra0 rt0 rp0 b stk (x :: r) code5 lst5 lc5 sc5 kc5 rl5 ro5 ra5 rt5 rp5 co5 sk5 kd5 → (∀ (lc' sc' kc' : Int32) (rl' ro' ra' rt' rp' co' sk' kd' : Nat → Int32), cx_R T J rl0 ro0 ra0 rt0 rp0 b stk (K :: r) code5 lst5 lc' sc' kc' rl' ro' ra' rt' rp' co' sk' kd' → post (oc, nI n, cp, lc', sc', kc', dp, vc, er, ep, uu, cls, num, lnk, lsz, lit, fb, tk, tv, rk, rl', ro', ra', rt', rp', oo, co', sk', kd', fr, fn, fi, vs, ll, li, lt)) → wX_applyBinary_136 post (nI (T i)) oc (nI n) cp (lc5) (sc5) (kc5) dp vc er ep uu cls num lnk lsz lit fb tk tv rk (rl5) (ro5) (ra5) (rt5) (rp5) oo (co5) (sk5) (kd5) fr fn fi vs ll li lt := by
    intro K lc5 sc5 kc5 rl5 ro5 ra5 rt5 rp5 co5 sk5 kd5 code5 lst5 hk q H5
    obtain ⟨g1, g2, g3, g4, g5, g6, g7, g8, g9, g10⟩ := q
    have k2 : kc5 - 1 = nI r.length := by rw [g3]; exact nI_pred _
    have ii : vp_in (kc5 - 1) 40 := by rw [k2]; exact vp_in_nI (by omega) (by decide)
    by_cases z : 15 ≤ T i
    · rw [if_pos z] at hk
      subst hk
      exact br_f (nI_nlt (b := 15) z (by omega)) ⟨ii, nm_r (e' := upd kd5 r.length 1) (by rw [k2, nI_clamp (by omega)]) (H5 _ _ _ _ _ _ _ _ _ _ _ ⟨g1, g2, g3, g4, g5, ⟨pk_us, cx_K_up (Nat.le_refl _) g6.2⟩, g7, g8, g9, g10⟩)⟩
    · rw [if_neg z] at hk
      subst hk
      exact br_t (nI_lt (b := 15) (by omega) (by decide)) ⟨ii, nm_r (e' := upd kd5 r.length 2) (by rw [k2, nI_clamp (by omega)]) (H5 _ _ _ _ _ _ _ _ _ _ _ ⟨g1, g2, g3, g4, g5, ⟨pk_us, cx_K_up (Nat.le_refl _) g6.2⟩, g7, g8, g9, g10⟩)⟩
  by_cases hl : T i = 10 ∨ T i = 11
  · have HL := Hl hl
    obtain ⟨hc1, hc2⟩ := hco hl
    have l70 : ∀ v : Int32, v = (if decide (x = 2 ∧ y = 2) = true then 1 else 0) → wX_applyBinary_70 post (nI i) (nI (T i)) v oc (nI n) cp lc sc (nI (r.length + 1)) dp vc er ep uu cls num lnk lsz lit fb tk tv rk rl ro ra rt rp oo co sk kd fr fn fi vs ll li lt := by
      intro v hv
      -- the demand changes the least place alone
      refine cx_demk hRa hv (by omega) (fun lc1 hR1 => ?_)
      refine cx_aim hR1 (by omega) hc1 hc2 ?_
      intro lc2 sc2 kc2 rl2 ro2 ra2 rt2 rp2 co2 sk2 kd2 hR2
      exact kset 2 (by rw [if_neg (by omega)]) hR2 HL
    have l54 : wX_applyBinary_54 post (nI i) x y (nI (T i)) oc (nI n) cp lc sc (nI (r.length + 1)) dp vc er ep uu cls num lnk lsz lit fb tk tv rk rl ro ra rt rp oo co sk kd fr fn fi vs ll li lt := by
      by_cases z1 : x = 2
      · refine br_t z1 ?_
        by_cases z2 : y = 2
        · exact br_t z2 (l70 1 (by rw [decide_eq_true ⟨z1, z2⟩]; rfl))
        · exact br_f z2 (l70 0 (by rw [decide_eq_false (fun z => z2 z.2)]; rfl))
      · exact br_f z1 (l70 0 (by rw [decide_eq_false (fun z => z1 z.1)]; rfl))
    by_cases t10 : T i = 10
    · exact br_t (by rw [t10]; rfl) l54
    · exact br_f (t0 10 t10 (by decide)) (br_t (by rw [hl.resolve_left t10]; rfl) l54)
  · have HB := Hb hl
    have hcl' := hcl hl
    have l123 : ∀ v : Int32, v = (if (if T i = 13 then decide (x = y ∧ ¬ x = 4) else decide (x = 1 ∧ y = 1)) = true then 1 else 0) → wX_applyBinary_123 post (nI i) (nI (T i)) v oc (nI n) cp lc sc (nI (r.length + 1)) dp vc er ep uu cls num lnk lsz lit fb tk tv rk rl ro ra rt rp oo co sk kd fr fn fi vs ll li lt := by
      intro v hv
      refine cx_demk hRa hv (by omega) (fun lc1 hR1 => ?_)
      refine cx_emit hR1 hcl' ?_
      intro lc2 sc2 kc2 rl2 ro2 ra2 rt2 rp2 co2 sk2 kd2 hR2
      exact kset _ rfl hR2 HB
    refine br_f (t0 10 (by omega) (by decide)) (br_f (t0 11 (by omega) (by decide)) ?_)
    by_cases t13 : T i = 13
    · rw [if_pos t13] at l123
      refine br_t (by rw [t13]; rfl) ?_
      by_cases z1 : x = y
      · refine br_t z1 ?_
        by_cases z2 : x = 4
        · exact br_t z2 (l123 0 (by rw [decide_eq_false (fun z => z.2 z2)]; rfl))
        · exact br_f z2 (l123 1 (by rw [decide_eq_true ⟨z1, z2⟩]; rfl))
      · exact br_f z1 (l123 0 (by rw [decide_eq_false (fun z => z1 z.1)]; rfl))
    · rw [if_neg t13] at l123
      refine br_f (t0 13 t13 (by decide)) ?_
      by_cases z1 : x = 1
      · refine br_t z1 ?_
        by_cases z2 : y = 1
        · exact br_t z2 (l123 1 (by rw [decide_eq_true ⟨z1, z2⟩]; rfl))
        · exact br_f z2 (l123 0 (by rw [decide_eq_false (fun z => z2 z.2)]; rfl))
      · exact br_f z1 (l123 0 (by rw [decide_eq_false (fun z => z1 z.1)]; rfl))
end
end
section
theorem cm_ap_len {T : Nat → Nat} {i c : Nat} {z z' : cm_R} (h : cm_ap T i c z = some z') : z.2.1.length ≤ z'.2.1.length ∧ z'.1.length ≤ z.1.length := by
  unfold cm_ap at h
  obtain ⟨ks, code, lst⟩ := z
  dsimp only at h ⊢
  split at h
  · split at h
    · cases h
      dsimp only
      simp only [List.length_append, List.length_cons]; omega
    · cases h
  · split at h
    · split at h
      · cases h
        dsimp only
        simp only [cm_aim_len, List.length_cons]; omega
      · cases h
    · split at h
      · split at h
        · cases h
          dsimp only
          simp only [cm_aim_len, List.length_cons]; omega
        · cases h
      · split at h
        · cases h
          dsimp only
          simp only [List.length_append, List.length_cons]; omega
        · cases h
theorem cm_se_len {T : Nat → Nat} {q : Nat} : ∀ {stk : List (Nat × Nat)} {z : cm_R} {s' : List (Nat × Nat) × cm_R}, cm_se T q stk z = some s' → z.2.1.length ≤ s'.2.2.1.length ∧ s'.1.length ≤ stk.length ∧ s'.2.1.length ≤ z.1.length
  | [], z, s', h => by
    have := Option.some.inj h
    rw [← this]; exact ⟨Nat.le_refl _, Nat.le_refl _, Nat.le_refl _⟩
  | e :: r, z, s', h => by
    have h' : (if cm_str T e.1 < q then some (e :: r, z) else (match cm_ap T e.1 e.2 z with | none => none | some z' => cm_se T q r z')) = some s' := h
    by_cases y : cm_str T e.1 < q
    · rw [if_pos y] at h'
      have := Option.some.inj h'
      rw [← this]; exact ⟨Nat.le_refl _, Nat.le_refl _, Nat.le_refl _⟩
    · rw [if_neg y] at h'
      cases ha : cm_ap T e.1 e.2 z with
      | none => rw [ha] at h'; cases h'
      | some z1 =>
        rw [ha] at h'
        obtain ⟨a1, a2, a3⟩ := cm_se_len h'
        obtain ⟨b1, b2⟩ := cm_ap_len ha
        rw [List.length_cons]
        exact ⟨by omega, by omega, by omega⟩
theorem cm_tr_len {T : Nat → Nat} {tv kc : Nat → Int32} {i : Nat} {s s' : List (Nat × Nat) × cm_R} (h : cm_tr T tv kc i s = some s') : s.2.2.1.length ≤ s'.2.2.1.length ∧ s'.1.length ≤ s.1.length + 1 ∧ s'.2.1.length ≤ s.2.1.length + 1 := by
  obtain ⟨stk, ks, code, lst⟩ := s
  unfold cm_tr at h
  dsimp only at h ⊢
  repeat' split at h
  all_goals first | cases h | skip
  all_goals (try dsimp only) ; (try simp only [List.length_append, List.length_cons, cm_aim_len, List.length_nil]) ; first | omega | (refine ⟨?_, ?_, ?_⟩ <;> omega)
theorem cm_run_len {T : Nat → Nat} {tv kc : Nat → Int32} : ∀ {c l : Nat} {s s' : List (Nat × Nat) × cm_R}, cm_run T tv kc l c s = some s' → s.2.2.1.length ≤ s'.2.2.1.length
  | 0, l, s, s', h => by
    have := Option.some.inj h
    rw [← this]; exact Nat.le_refl _
  | c + 1, l, s, s', h => by
    have h' : (match cm_step T tv kc l s with | none => none | some s1 => cm_run T tv kc (l + 1) c s1) = some s' := h
    cases hs : cm_step T tv kc l s with
    | none => rw [hs] at h'; cases h'
    | some s1 =>
      rw [hs] at h'
      have a := cm_run_len h'
      unfold cm_step at hs
      cases he : cm_se T (cm_sf T l) s.1 s.2 with
      | none => rw [he] at hs; cases hs
      | some s2 =>
        rw [he] at hs
        have b := (cm_tr_len hs).1
        have c := (cm_se_len he).1
        omega
section
variable {oc cp dp vc er ep uu lc sc kc : Int32} {cls num lnk lsz lit fb tk tv rk oo fr fn fi vs ll li lt rl ro ra rt rp co sk kd rl0 ro0 ra0 rt0 rp0 : Nat → Int32} {n b : Nat} {T : Nat → Nat} {J : Nat → Prop} {stk : List (Nat × Nat)} {ks : List Int32} {code : List cm_I} {lst : Nat}
theorem cx_settle (hn : n ≤ 40) (hK : ∀ i, i < n → tk i = nI (T i) ∧ T i < 23) (hoo : ∀ j, j < n → T j = 7 ∨ T j = 9 → oo j = nI (ca_o T j) ∧ ca_o T j < j) {post : SX → Prop} {q : Nat} (hq1 : 1 ≤ q) (hq : q < 100) : ∀ (stk : List (Nat × Nat)) {ks : List Int32} {code : List cm_I} {lst : Nat} {lc sc kc : Int32} {rl ro ra rt rp co sk kd : Nat → Int32} {s' : List (Nat × Nat) × cm_R}, cx_R T J rl0 ro0 ra0 rt0 rp0 b stk ks code lst lc sc kc rl ro ra rt rp co sk kd → b ≤ n → stk.length ≤ 40 → ks.length ≤ 40 → cm_se T q stk (ks, code, lst) = some s' → s'.2.2.1.length ≤ 40 → (∀ (lc' sc' kc' : Int32) (rl' ro' ra' rt' rp' co' sk' kd' : Nat → Int32), cx_R T J rl0 ro0 ra0 rt0 rp0 b s'.1 s'.2.1 s'.2.2.1 s'.2.2.2 lc' sc' kc' rl' ro' ra' rt' rp' co' sk' kd' → post (oc, nI n, cp, lc', sc', kc', dp, vc, er, ep, uu, cls, num, lnk, lsz, lit, fb, tk, tv, rk, rl', ro', ra', rt', rp', oo, co', sk', kd', fr, fn, fi, vs, ll, li, lt)) → wX_settle_5 post (nI q) (stk.length + 1) (nI stk.length) oc (nI n) cp lc sc kc dp vc er ep uu cls num lnk lsz lit fb tk tv rk rl ro ra rt rp oo co sk kd fr fn fi vs ll li lt := by
  intro stk
  induction stk with
  | nil =>
    intro ks code lst lc sc kc rl ro ra rt rp co sk kd s' hR hb hsl hkl hse hcl H
    have := Option.some.inj hse
    subst this
    exact br_t (by decide) (H _ _ _ _ _ _ _ _ _ _ _ hR)
  | cons e r ih =>
    intro ks code lst lc sc kc rl ro ra rt rp co sk kd s' hR hb hsl hkl hse hcl H
    rw [List.length_cons] at hsl
    have hse' : (if cm_str T e.1 < q then some (e :: r, (ks, code, lst)) else (match cm_ap T e.1 e.2 (ks, code, lst) with | none => none | some z' => cm_se T q r z')) = some s' := hse
    obtain ⟨h1, h2, h3, h4, h5, h6, h7, h8, h9, h10⟩ := id hR
    obtain ⟨f1, f2, f3, f4⟩ := h5
    have hen : e.1 < n := by omega
    have s7 := cm_str7 (T := T) e.1
    obtain ⟨e1, e2, e3⟩ := cx_tk hn hK hen
    have hT := (hK e.1 hen).2
    refine br_f (nI_nle (by rw [List.length_cons]; omega) (by rw [List.length_cons]; omega)) ⟨by rw [List.length_cons, nI_pred]; exact vp_in_nI (by omega) (by decide), ?_⟩
    rw [show sk (nI (e :: r).length - 1).toNatClampNeg = nI e.1 by rw [List.length_cons, nI_pred, nI_clamp (by omega)]; exact f2]
    refine cx_str hn hK hen ?_
    by_cases y : cm_str T e.1 < q
    · rw [if_pos y] at hse'
      have := Option.some.inj hse'
      subst this
      exact br_t (nI_lt y (by omega)) (H _ _ _ _ _ _ _ _ _ _ _ hR)
    · rw [if_neg y] at hse'
      refine br_f (nI_nlt (by omega) (by omega)) (nm_r (e' := nI r.length) (by rw [List.length_cons, nI_pred]) ⟨vp_in_nI (by omega) (by decide), nm_r (e' := nI e.1) (by rw [nI_clamp (by omega)]; exact f2) ?_⟩)
      cases ha : cm_ap T e.1 e.2 (ks, code, lst) with
      | none => rw [ha] at hse'; cases hse'
      | some z1 =>
        rw [ha] at hse'
        have l1 := (cm_se_len hse').1
        have l2 := cm_ap_len ha
        dsimp only at l2
        have hRp : cx_R T J rl0 ro0 ra0 rt0 rp0 b r ks code lst lc (nI r.length) kc rl ro ra rt rp co sk kd := ⟨h1, rfl, h3, h4, cx_S_b (by omega) f4, h6, h7, h8, h9, h10⟩
        -- the rest of the loop
        have rest : ∀ (lc8 sc8 kc8 : Int32) (rl8 ro8 ra8 rt8 rp8 co8 sk8 kd8 : Nat → Int32), cx_R T J rl0 ro0 ra0 rt0 rp0 b r z1.1 z1.2.1 z1.2.2 lc8 sc8 kc8 rl8 ro8 ra8 rt8 rp8 co8 sk8 kd8 → wX_settle_5 post (nI q) (r.length + 1) (nI r.length) oc (nI n) cp (lc8) (sc8) (kc8) dp vc er ep uu cls num lnk lsz lit fb tk tv rk (rl8) (ro8) (ra8) (rt8) (rp8) oo (co8) (sk8) (kd8) fr fn fi vs ll li lt := by
          intro lc8 sc8 kc8 rl8 ro8 ra8 rt8 rp8 co8 sk8 kd8 hR8
          exact ih hR8 hb (by omega) (by omega) hse' hcl H
        have fin : ∀ (lc8 sc8 kc8 : Int32) (rl8 ro8 ra8 rt8 rp8 co8 sk8 kd8 : Nat → Int32), cx_R T J rl0 ro0 ra0 rt0 rp0 b r z1.1 z1.2.1 z1.2.2 lc8 sc8 kc8 rl8 ro8 ra8 rt8 rp8 co8 sk8 kd8 → ∀ x2, x2 = nI (e :: r).length + (-1) → wX_settle_5 post (nI q) (r.length + 1) x2 oc (nI n) cp (lc8) (sc8) (kc8) dp vc er ep uu cls num lnk lsz lit fb tk tv rk (rl8) (ro8) (ra8) (rt8) (rp8) oo (co8) (sk8) (kd8) fr fn fi vs ll li lt := by
          intro lc8 sc8 kc8 rl8 ro8 ra8 rt8 rp8 co8 sk8 kd8 hR8
          intro x2 hx2
          rw [hx2, List.length_cons, pk_m1]
          exact rest lc8 sc8 kc8 rl8 ro8 ra8 rt8 rp8 co8 sk8 kd8 hR8
        refine cx_isp hn hK hen ?_
        have hap := ha
        unfold cm_ap at hap
        cases hp : cm_pre T e.1 with
        | true =>
          rw [if_pos hp] at hap
          refine br_f (by decide) ?_
          cases ks with
          | nil => cases hap
          | cons x ks1 =>
            have hz := Option.some.inj hap
            have hpt : T e.1 = 12 ∨ T e.1 = 16 := by
              unfold cm_pre at hp
              by_cases a : T e.1 = 12
              · exact Or.inl a
              · rw [decide_eq_false a] at hp
                by_cases b' : T e.1 = 16
                · exact Or.inr b'
                · rw [decide_eq_false b'] at hp; cases hp
            rw [List.length_cons] at hkl
            refine cx_apP hn hK hen hpt hRp (by omega) ?_ ?_
            · have : z1.2.1.length = code.length + 1 := by rw [← hz]; exact List.length_append
              omega
            · intro lc1 sc1 kc1 rl1 ro1 ra1 rt1 rp1 co1 sk1 kd1 hR1
              exact fin lc1 sc1 kc1 rl1 ro1 ra1 rt1 rp1 co1 sk1 kd1 (by rw [← hz]; exact hR1)
        | false =>
          rw [if_neg (by rw [hp]; decide)] at hap
          refine br_t rfl ⟨e3, ?_⟩
          by_cases t9 : T e.1 = 9
          · rw [if_pos t9] at hap
            refine br_t (by rw [e1, t9]; rfl) ?_
            match ks, hap, hRp, hkl with
            | [], hap, _, _ => cases hap
            | [_], hap, _, _ => cases hap
            | [_, _], hap, _, _ => cases hap
            | y2 :: y1 :: x :: ks1, hap, hRp, hkl =>
              have hz := Option.some.inj hap
              obtain ⟨c1, c2⟩ := f3 (Or.inl (by omega))
              obtain ⟨o1, o2⟩ := hoo e.1 hen (Or.inr t9)
              rw [List.length_cons, List.length_cons, List.length_cons] at hkl
              refine cx_apC hn hK hen o1 (by omega) c1 c2 hRp (by omega) ?_
              intro lc1 sc1 kc1 rl1 ro1 ra1 rt1 rp1 co1 sk1 kd1 hR1
              exact fin lc1 sc1 kc1 rl1 ro1 ra1 rt1 rp1 co1 sk1 kd1 (by rw [← hz]; exact hR1)
          · rw [if_neg t9] at hap
            refine br_f (e2 9 t9 (by decide)) ?_
            have hop : 10 ≤ T e.1 ∧ T e.1 ≤ 18 := by
              by_cases a : T e.1 ≤ 8 ∨ T e.1 = 19 ∨ 20 ≤ T e.1
              · have := cm_str0 a
                omega
              · omega
            by_cases hl : T e.1 = 10 ∨ T e.1 = 11
            · rw [if_pos hl] at hap
              match ks, hap, hRp, hkl with
              | [], hap, _, _ => cases hap
              | [_], hap, _, _ => cases hap
              | y' :: x :: ks1, hap, hRp, hkl =>
                have hz := Option.some.inj hap
                rw [List.length_cons, List.length_cons] at hkl
                refine cx_apB (c := e.2) hn hK hen hop (fun _ => f3 (Or.inl (by omega))) hRp (by omega) (fun z => absurd hl z) (fun _ => ?_) (fun z => absurd hl z)
                intro lc1 sc1 kc1 rl1 ro1 ra1 rt1 rp1 co1 sk1 kd1 hR1
                exact fin lc1 sc1 kc1 rl1 ro1 ra1 rt1 rp1 co1 sk1 kd1 (by rw [← hz]; exact hR1)
            · rw [if_neg hl] at hap
              match ks, hap, hRp, hkl with
              | [], hap, _, _ => cases hap
              | [_], hap, _, _ => cases hap
              | y' :: x :: ks1, hap, hRp, hkl =>
                have hz := Option.some.inj hap
                rw [List.length_cons, List.length_cons] at hkl
                refine cx_apB (c := e.2) hn hK hen hop (fun z => absurd z hl) hRp (by omega) (fun _ => ?_) (fun z => absurd z hl) (fun _ => ?_)
                · have : z1.2.1.length = code.length + 1 := by rw [← hz]; exact List.length_append
                  omega
                · intro lc1 sc1 kc1 rl1 ro1 ra1 rt1 rp1 co1 sk1 kd1 hR1
                  exact fin lc1 sc1 kc1 rl1 ro1 ra1 rt1 rp1 co1 sk1 kd1 (by rw [← hz]; exact hR1)
end
end
section
def cx_J (T : Nat → Nat) (i : Nat) : Nat → Prop := fun o => ∃ j, j < i ∧ T j = 9 ∧ ca_o T j = o
theorem cx_J_n {T : Nat → Nat} {i x : Nat} (h : T i ≠ 9) (hx : cx_J T (i + 1) x) : cx_J T i x := by
  obtain ⟨j, h1, h2, h3⟩ := hx
  refine ⟨j, ?_, h2, h3⟩
  have : j ≠ i := by intro z; rw [z] at h2; exact h h2
  omega
section
variable {oc cp dp vc er ep uu lc sc kc : Int32} {cls num lnk lsz lit fb tk tv rk oo fr fn fi vs ll li lt rl ro ra rt rp co sk kd rl0 ro0 ra0 rt0 rp0 : Nat → Int32} {n b : Nat} {T : Nat → Nat} {J : Nat → Prop} {stk : List (Nat × Nat)} {ks : List Int32} {code : List cm_I} {lst : Nat}
theorem cx_aimk {post : SX → Prop} {i c : Nat} (hR : cx_R T J rl0 ro0 ra0 rt0 rp0 b stk ks code lst lc sc kc rl ro ra rt rp co sk kd) (hi : i < 40) (hco : co i = nI c) (hc : c < 40) (H : ∀ rt', cx_R T J rl0 ro0 ra0 rt0 rp0 b stk ks (cm_aim code c (nI code.length)) lst lc sc kc rl ro ra rt' rp co sk kd → post (oc, nI n, cp, lc, sc, kc, dp, vc, er, ep, uu, cls, num, lnk, lsz, lit, fb, tk, tv, rk, rl, ro, ra, rt', rp, oo, co, sk, kd, fr, fn, fi, vs, ll, li, lt)) : wpX_aimHere post (oc, nI n, cp, lc, sc, kc, dp, vc, er, ep, uu, cls, num, lnk, lsz, lit, fb, tk, tv, rk, rl, ro, ra, rt, rp, oo, co, sk, kd, fr, fn, fi, vs, ll, li, lt) (nI i) := by
  obtain ⟨h1, h2, h3, h4, h5, h6, h7, h8, h9, h10⟩ := hR
  have ci : co (nI i).toNatClampNeg = nI c := by rw [nI_clamp (by omega)]; exact hco
  have e : 240 + nI c = nI (240 + c) := nI_add 240 c
  refine ⟨vp_in_nI hi (by decide), by rw [ci, e]; exact vp_in_nI (by omega) (by decide), nm_r (e' := upd rt (240 + c) (nI code.length)) (by rw [ci, e, nI_clamp (by omega), h4]) (H _ ⟨h1, h2, h3, ?_, h5, h6, ?_, h8, h9, ?_⟩)⟩
  · rw [cm_aim_len]; exact h4
  · intro j x hx
    obtain ⟨y, y1, y2, y3, y4, y5⟩ := cm_aim_get code c _ j x hx
    obtain ⟨g1, g2, g3, g4⟩ := h7 j y y1
    rw [y2, y3, y4, y5]
    refine ⟨g1, g2, ?_, g4⟩
    by_cases z : j = c
    · rw [z, if_pos rfl, pk_us]
    · rw [if_neg z, pk_un (by omega)]; exact g3
  · intro j hj; rw [pk_un (by omega)]; exact h10 j hj
theorem cx_emitk {post : Int32 → SX → Prop} {p0 p1 p2 : Int32} (hR : cx_R T J rl0 ro0 ra0 rt0 rp0 b stk ks code lst lc sc kc rl ro ra rt rp co sk kd) (hc : code.length < 40) (H : ∀ rl' ro' ra' rt' rp', cx_R T J rl0 ro0 ra0 rt0 rp0 b stk ks (code ++ [(p0, p1, 0, p2)]) lst lc sc kc rl' ro' ra' rt' rp' co sk kd → post (nI code.length) (oc, nI n, cp, lc, sc, kc, dp, vc, er, ep, uu, cls, num, lnk, lsz, lit, fb, tk, tv, rk, rl', ro', ra', rt', rp', oo, co, sk, kd, fr, fn, fi, vs, ll, li, lt)) : wpX_emit post (oc, nI n, cp, lc, sc, kc, dp, vc, er, ep, uu, cls, num, lnk, lsz, lit, fb, tk, tv, rk, rl, ro, ra, rt, rp, oo, co, sk, kd, fr, fn, fi, vs, ll, li, lt) p0 p1 p2 := by
  obtain ⟨h1, h2, h3, h4, h5, h6, h7, h8, h9, h10⟩ := hR
  have e : 240 + nI code.length = nI (240 + code.length) := nI_add 240 code.length
  have c : (240 + nI code.length).toNatClampNeg = 240 + code.length := by rw [e, nI_clamp (by omega)]
  have i : vp_in (240 + nI code.length) 280 := by rw [e]; exact vp_in_nI (by omega) (by decide)
  refine nm_r (e' := nI code.length) h4 ⟨i, nm_r (by rw [c]) ⟨i, nm_r (by rw [c]) ⟨i, nm_r (by rw [c]) ⟨i, nm_r (by rw [c]) (nm_r (by rw [nI_1]) (H _ _ _ _ _ ⟨h1, h2, h3, ?_, h5, h6, ?_, h8, ?_, ?_⟩))⟩⟩⟩⟩
  · rw [pk_us, List.length_append]; rfl
  · intro j x hx
    by_cases z : j = code.length
    · subst z
      rw [List.getElem?_append_right (Nat.le_refl _), Nat.sub_self] at hx
      have := Option.some.inj hx
      rw [← this, pk_us, pk_us, pk_us, pk_us]
      exact ⟨rfl, rfl, rfl, rfl⟩
    · rw [pk_un (by omega), pk_un (by omega), pk_un (by omega), pk_un (by omega)]
      have jl : j < code.length := by
        by_cases y : j < code.length
        · exact y
        · rw [List.getElem?_eq_none (by rw [List.length_append]; show code.length + 1 ≤ j; omega)] at hx; cases hx
      rw [List.getElem?_append_left jl] at hx
      exact h7 j x hx
  · intro j hj; rw [pk_un (by omega)]; exact h9 j hj
  · intro j hj; rw [pk_un (by omega), pk_un (by omega), pk_un (by omega), pk_un (by omega)]; exact h10 j hj
theorem cx_nx {i : Nat} (hb : b ≤ i + 1) (h9 : T i ≠ 9) (hR : cx_R T (cx_J T i) rl0 ro0 ra0 rt0 rp0 b stk ks code lst lc sc kc rl ro ra rt rp co sk kd) : cx_R T (cx_J T (i + 1)) rl0 ro0 ra0 rt0 rp0 (i + 1) stk ks code lst lc sc kc rl ro ra rt rp co sk kd := by
  obtain ⟨h1, h2, h3, h4, h5, h6, h7, h8, h9', h10⟩ := hR
  exact ⟨h1, h2, h3, h4, cx_S_b hb (cx_S_J (fun x _ => cx_J_n h9) h5), h6, h7, h8, h9', h10⟩
theorem cx_opr (hn : n ≤ 40) (hK : ∀ i, i < n → tk i = nI (T i) ∧ T i < 23) {post : SX → Prop} {i : Nat} {k : Int32} (hi : i < n) (h9 : T i ≠ 9) (hR : cx_R T (cx_J T i) rl0 ro0 ra0 rt0 rp0 i stk ks code lst lc sc kc rl ro ra rt rp co sk kd) (hks : ks.length < 40) (hc : code.length < 40) (H : ∀ (lc' sc' kc' : Int32) (rl' ro' ra' rt' rp' co' sk' kd' : Nat → Int32), cx_R T (cx_J T (i + 1)) rl0 ro0 ra0 rt0 rp0 (i + 1) stk (k :: ks) (code ++ [(nI (T i), tv i, 0, nI i)]) lst lc' sc' kc' rl' ro' ra' rt' rp' co' sk' kd' → post (oc, nI n, cp, lc', sc', kc', dp, vc, er, ep, uu, cls, num, lnk, lsz, lit, fb, tk, tv, rk, rl', ro', ra', rt', rp', oo, co', sk', kd', fr, fn, fi, vs, ll, li, lt)) : wpX_translateOperand post (oc, nI n, cp, lc, sc, kc, dp, vc, er, ep, uu, cls, num, lnk, lsz, lit, fb, tk, tv, rk, rl, ro, ra, rt, rp, oo, co, sk, kd, fr, fn, fi, vs, ll, li, lt) (nI i) k := by
  obtain ⟨e1, e2, e3⟩ := cx_tk hn hK hi
  refine ⟨e3, e3, ?_⟩
  rw [e1, nI_clamp (n := i) (by omega)]
  refine cx_emit hR hc ?_
  intro lc1 sc1 kc1 rl1 ro1 ra1 rt1 rp1 co1 sk1 kd1 hR1
  obtain ⟨g1, g2, g3, g4, g5, g6, g7, g8, g9, g10⟩ := hR1
  subst g3
  exact ⟨vp_in_nI hks (by decide), nm_r (e' := upd kd1 ks.length k) (by rw [nI_clamp (by omega)]) (nm_r (nI_1 _) (H _ _ _ _ _ _ _ _ _ _ _ (cx_nx (by omega) h9 ⟨g1, g2, rfl, g4, g5, ⟨pk_us, cx_K_up (Nat.le_refl _) g6⟩, g7, g8, g9, g10⟩)))⟩
theorem cx_prp (hn : n ≤ 40) (hK : ∀ i, i < n → tk i = nI (T i) ∧ T i < 23) {post : SX → Prop} {i : Nat} {x : Int32} {r : List Int32} (hi : i < n) (h9 : T i ≠ 9) (hR : cx_R T (cx_J T i) rl0 ro0 ra0 rt0 rp0 i stk (x :: r) code lst lc sc kc rl ro ra rt rp co sk kd) (hks : r.length < 40) (hc : code.length < 40) (H : ∀ (lc' sc' kc' : Int32) (rl' ro' ra' rt' rp' co' sk' kd' : Nat → Int32), cx_R T (cx_J T (i + 1)) rl0 ro0 ra0 rt0 rp0 (i + 1) stk (cm_kp (tv i) :: r) (code ++ [(nI (T i), tv i, 0, nI i)]) (cm_dem (decide (x = 3)) i lst) lc' sc' kc' rl' ro' ra' rt' rp' co' sk' kd' → post (oc, nI n, cp, lc', sc', kc', dp, vc, er, ep, uu, cls, num, lnk, lsz, lit, fb, tk, tv, rk, rl', ro', ra', rt', rp', oo, co', sk', kd', fr, fn, fi, vs, ll, li, lt)) : wpX_translateProperty post (oc, nI n, cp, lc, sc, kc, dp, vc, er, ep, uu, cls, num, lnk, lsz, lit, fb, tk, tv, rk, rl, ro, ra, rt, rp, oo, co, sk, kd, fr, fn, fi, vs, ll, li, lt) (nI i) := by
  obtain ⟨e1, e2, e3⟩ := cx_tk hn hK hi
  obtain ⟨h1, h2, h3, h4, h5, h6, h7, h8, h9', h10⟩ := id hR
  have k1 : kc - 1 = nI r.length := by rw [h3]; exact nI_pred _
  have kx : kd (kc - 1).toNatClampNeg = x := by rw [k1, nI_clamp (by omega)]; exact h6.1
  refine ⟨e3, nm_r (e' := tv i) (by rw [nI_clamp (by omega)]) ⟨by rw [k1]; exact vp_in_nI hks (by decide), ?_⟩⟩
  rw [kx]
  have nxt : ∀ v : Int32, v = (if decide (x = 3) = true then 1 else 0) → wX_translateProperty_28 post (nI i) (tv i) v oc (nI n) cp lc sc kc dp vc er ep uu cls num lnk lsz lit fb tk tv rk rl ro ra rt rp oo co sk kd fr fn fi vs ll li lt := by
    intro v hv
    refine cx_dem hR hv (by omega) ?_
    intro lc1 sc1 kc1 rl1 ro1 ra1 rt1 rp1 co1 sk1 kd1 hR1
    refine ⟨e3, ?_⟩
    rw [e1]
    refine cx_emit hR1 hc ?_
    intro lc2 sc2 kc2 rl2 ro2 ra2 rt2 rp2 co2 sk2 kd2 hR2
    obtain ⟨g1, g2, g3, g4, g5, g6, g7, g8, g9, g10⟩ := hR2
    have k2 : kc2 - 1 = nI r.length := by rw [g3]; exact nI_pred _
    have ii : vp_in (kc2 - 1) 40 := by rw [k2]; exact vp_in_nI hks (by decide)
    have fin : ∀ K : Int32, K = cm_kp (tv i) → ∀ k9, k9 = upd kd2 (kc2 - 1).toNatClampNeg K → post (oc, nI n, cp, lc2, sc2, kc2, dp, vc, er, ep, uu, cls, num, lnk, lsz, lit, fb, tk, tv, rk, rl2, ro2, ra2, rt2, rp2, oo, co2, sk2, k9, fr, fn, fi, vs, ll, li, lt) := by
      intro K hKp k9 hk9
      rw [hk9, k2, nI_clamp (by omega)]
      refine H _ _ _ _ _ _ _ _ _ _ _ (cx_nx (by omega) h9 ⟨g1, g2, g3, g4, g5, ⟨?_, cx_K_up (Nat.le_refl _) g6.2⟩, g7, g8, g9, g10⟩)
      rw [← hKp]; exact pk_us
    unfold cm_kp at fin
    by_cases z : 3 ≤ tv i
    · rw [if_pos z] at fin
      refine br_t z ?_
      by_cases y : tv i = 3
      · rw [if_pos y] at fin
        exact br_t y ⟨ii, fun k9 hk9 => fin 3 rfl k9 hk9⟩
      · rw [if_neg y] at fin
        exact br_f y ⟨ii, fun k9 hk9 => fin 4 rfl k9 hk9⟩
    · rw [if_neg z] at fin
      exact br_f z ⟨ii, fun k9 hk9 => fin 1 rfl k9 hk9⟩
  exact cx_one (P := fun v => v = (if decide (x = 3) = true then 1 else 0)) (fun z => nxt 1 z) (fun z => nxt 0 z) rfl
theorem cx_isq (hn : n ≤ 40) (hK : ∀ i, i < n → tk i = nI (T i) ∧ T i < 23) {post : Int32 → Prop} {i : Nat} (hi : i < n) (h1 : 20 ≤ T i → post 1) (h0 : T i < 20 → post 0) : wpX_isQuantifier post (oc, nI n, cp, lc, sc, kc, dp, vc, er, ep, uu, cls, num, lnk, lsz, lit, fb, tk, tv, rk, rl, ro, ra, rt, rp, oo, co, sk, kd, fr, fn, fi, vs, ll, li, lt) (nI i) := by
  obtain ⟨e1, e2, e3⟩ := cx_tk hn hK hi
  have hT := (hK i hi).2
  refine ⟨e3, ?_⟩
  rw [e1]
  by_cases z : T i < 20
  · exact br_t (nI_lt (b := 20) z (by decide)) (h0 z)
  · exact br_f (nI_nlt (b := 20) (by omega) (by omega)) (h1 (by omega))
theorem cx_opn (hn : n ≤ 40) (hK : ∀ i, i < n → tk i = nI (T i) ∧ T i < 23) {post : SX → Prop} {i : Nat} (hi : i < n) (h6 : T i = 6) (hR : cx_R T (cx_J T i) rl0 ro0 ra0 rt0 rp0 i stk ks code lst lc sc kc rl ro ra rt rp co sk kd) (hs : stk.length < 40)
  (Ha : 0 < i ∧ (T (i - 1) = 5 ∨ 20 ≤ T (i - 1)) → ∀ (lc' sc' kc' : Int32) (rl' ro' ra' rt' rp' co' sk' kd' : Nat → Int32), cx_R T (cx_J T (i + 1)) rl0 ro0 ra0 rt0 rp0 (i + 1) stk ks code lst lc' sc' kc' rl' ro' ra' rt' rp' co' sk' kd' → post (oc, nI n, cp, lc', sc', kc', dp, vc, er, ep, uu, cls, num, lnk, lsz, lit, fb, tk, tv, rk, rl', ro', ra', rt', rp', oo, co', sk', kd', fr, fn, fi, vs, ll, li, lt))
  (Hp : ¬ (0 < i ∧ (T (i - 1) = 5 ∨ 20 ≤ T (i - 1))) → ∀ (lc' sc' kc' : Int32) (rl' ro' ra' rt' rp' co' sk' kd' : Nat → Int32), cx_R T (cx_J T (i + 1)) rl0 ro0 ra0 rt0 rp0 (i + 1) ((i, 0) :: stk) ks code lst lc' sc' kc' rl' ro' ra' rt' rp' co' sk' kd' → post (oc, nI n, cp, lc', sc', kc', dp, vc, er, ep, uu, cls, num, lnk, lsz, lit, fb, tk, tv, rk, rl', ro', ra', rt', rp', oo, co', sk', kd', fr, fn, fi, vs, ll, li, lt)) : wpX_translateOpen post (oc, nI n, cp, lc, sc, kc, dp, vc, er, ep, uu, cls, num, lnk, lsz, lit, fb, tk, tv, rk, rl, ro, ra, rt, rp, oo, co, sk, kd, fr, fn, fi, vs, ll, li, lt) (nI i) := by
  have push : (¬ (0 < i ∧ (T (i - 1) = 5 ∨ 20 ≤ T (i - 1)))) → wX_translateOpen_30 post (nI i) oc (nI n) cp lc sc kc dp vc er ep uu cls num lnk lsz lit fb tk tv rk rl ro ra rt rp oo co sk kd fr fn fi vs ll li lt := by
    intro z
    refine br_t rfl (cx_push (x := 0) hR hs (Nat.le_refl _) (fun y => absurd y (by omega)) ?_)
    intro lc1 sc1 kc1 rl1 ro1 ra1 rt1 rp1 co1 sk1 kd1 hR1
    exact Hp z _ _ _ _ _ _ _ _ _ _ _ (cx_nx (Nat.le_refl _) (by omega) hR1)
  have skip : (0 < i ∧ (T (i - 1) = 5 ∨ 20 ≤ T (i - 1))) → wX_translateOpen_26 post (nI i) oc (nI n) cp lc sc kc dp vc er ep uu cls num lnk lsz lit fb tk tv rk rl ro ra rt rp oo co sk kd fr fn fi vs ll li lt := fun z => br_f (by decide) (Ha z _ _ _ _ _ _ _ _ _ _ _ (cx_nx (by omega) (by omega) hR))
  by_cases i0 : i = 0
  · exact br_t (by rw [i0]; decide) (push (by omega))
  · refine br_f (nI_nle (by omega) (by omega)) ?_
    obtain ⟨j, rfl⟩ : ∃ j, i = j + 1 := ⟨i - 1, by omega⟩
    rw [Nat.add_sub_cancel] at push skip
    obtain ⟨e1, e2, e3⟩ := cx_tk hn hK (i := j) (by omega)
    rw [nI_pred]
    refine ⟨e3, ?_⟩
    by_cases t5 : T j = 5
    · exact br_t (by rw [e1, t5]; rfl) (skip ⟨by omega, Or.inl t5⟩)
    · refine br_f (e2 5 t5 (by decide)) (cx_isq hn hK (by omega) (fun z => br_f (by decide) (skip ⟨by omega, Or.inr z⟩)) (fun z => br_t rfl (push (by omega))))
theorem cx_jmp (hn : n ≤ 40) (hK : ∀ i, i < n → tk i = nI (T i) ∧ T i < 23) {post : SX → Prop} {i : Nat} (hi : i < n) (h8 : T i = 8 ∨ T i = 10 ∨ T i = 11) (hR : cx_R T (cx_J T i) rl0 ro0 ra0 rt0 rp0 i stk ks code lst lc sc kc rl ro ra rt rp co sk kd) (hs : stk.length < 40) (hc : code.length < 40) (H : ∀ (lc' sc' kc' : Int32) (rl' ro' ra' rt' rp' co' sk' kd' : Nat → Int32), cx_R T (cx_J T (i + 1)) rl0 ro0 ra0 rt0 rp0 (i + 1) ((i, code.length) :: stk) ks (code ++ [(nI (T i), 0, 0, nI i)]) lst lc' sc' kc' rl' ro' ra' rt' rp' co' sk' kd' → post (oc, nI n, cp, lc', sc', kc', dp, vc, er, ep, uu, cls, num, lnk, lsz, lit, fb, tk, tv, rk, rl', ro', ra', rt', rp', oo, co', sk', kd', fr, fn, fi, vs, ll, li, lt)) : wX_translate_156 post (nI i) oc (nI n) cp lc sc kc dp vc er ep uu cls num lnk lsz lit fb tk tv rk rl ro ra rt rp oo co sk kd fr fn fi vs ll li lt := by
  obtain ⟨e1, e2, e3⟩ := cx_tk hn hK hi
  refine ⟨e3, ?_⟩
  rw [e1]
  refine cx_emit hR hc ?_
  intro lc1 sc1 kc1 rl1 ro1 ra1 rt1 rp1 co1 sk1 kd1 hR1
  obtain ⟨g1, g2, g3, g4, g5, g6, g7, g8, g9, g10⟩ := hR1
  have hR2 : cx_R T (cx_J T i) rl0 ro0 ra0 rt0 rp0 i stk ks (code ++ [(nI (T i), 0, 0, nI i)]) lst lc1 sc1 kc1 rl1 ro1 ra1 rt1 rp1 (upd co1 i (nI code.length)) sk1 kd1 := ⟨g1, g2, g3, g4, cx_S_co (Nat.le_refl _) g5, g6, g7, g8, g9, g10⟩
  refine ⟨e3, nm_r (e' := upd co1 i (nI code.length)) (by rw [nI_clamp (by omega)]) (cx_push (x := code.length) hR2 hs (Nat.le_refl _) (fun _ => ⟨pk_us, hc⟩) ?_)⟩
  intro lc3 sc3 kc3 rl3 ro3 ra3 rt3 rp3 co3 sk3 kd3 hR3
  exact H _ _ _ _ _ _ _ _ _ _ _ (cx_nx (Nat.le_refl _) (by omega) hR3)
theorem cx_psh (hn : n ≤ 40) (hK : ∀ i, i < n → tk i = nI (T i) ∧ T i < 23) {post : SX → Prop} {i : Nat} (hi : i < n) (h9 : ¬ (8 ≤ T i ∧ T i ≤ 11)) (hJ : ¬ cx_J T i i) (hR : cx_R T (cx_J T i) rl0 ro0 ra0 rt0 rp0 i stk ks code lst lc sc kc rl ro ra rt rp co sk kd) (hs : stk.length < 40) (H : ∀ (lc' sc' kc' : Int32) (rl' ro' ra' rt' rp' co' sk' kd' : Nat → Int32), cx_R T (cx_J T (i + 1)) rl0 ro0 ra0 rt0 rp0 (i + 1) ((i, 0) :: stk) ks code lst lc' sc' kc' rl' ro' ra' rt' rp' co' sk' kd' → post (oc, nI n, cp, lc', sc', kc', dp, vc, er, ep, uu, cls, num, lnk, lsz, lit, fb, tk, tv, rk, rl', ro', ra', rt', rp', oo, co', sk', kd', fr, fn, fi, vs, ll, li, lt)) : wX_translate_182 post (nI i) oc (nI n) cp lc sc kc dp vc er ep uu cls num lnk lsz lit fb tk tv rk rl ro ra rt rp oo co sk kd fr fn fi vs ll li lt := by
  refine cx_push (x := 0) hR hs (Nat.le_refl _) (fun z => ?_) ?_
  · exact absurd z (fun y => y.elim h9 (fun x => hJ x.2))
  · intro lc1 sc1 kc1 rl1 ro1 ra1 rt1 rp1 co1 sk1 kd1 hR1
    exact H _ _ _ _ _ _ _ _ _ _ _ (cx_nx (Nat.le_refl _) (by omega) hR1)
theorem cx_col (hn : n ≤ 40) (hK : ∀ i, i < n → tk i = nI (T i) ∧ T i < 23) (hoo : ∀ j, j < n → T j = 7 ∨ T j = 9 → oo j = nI (ca_o T j) ∧ ca_o T j < j) {post : SX → Prop} {i x : Nat} {r : List (Nat × Nat)} (hi : i < n) (h9 : T i = 9) (hR : cx_R T (cx_J T i) rl0 ro0 ra0 rt0 rp0 i ((ca_o T i, x) :: r) ks code lst lc sc kc rl ro ra rt rp co sk kd) (hs : r.length < 40) (hc : code.length < 40)
  (Hq : 20 ≤ T (ca_o T i) → ∀ (lc' sc' kc' : Int32) (rl' ro' ra' rt' rp' co' sk' kd' : Nat → Int32), cx_R T (cx_J T (i + 1)) rl0 ro0 ra0 rt0 rp0 (i + 1) ((ca_o T i, code.length) :: r) ks (code ++ [(nI (T (ca_o T i)), tv (ca_o T i), 0, nI (ca_o T i))]) lst lc' sc' kc' rl' ro' ra' rt' rp' co' sk' kd' → post (oc, nI n, cp, lc', sc', kc', dp, vc, er, ep, uu, cls, num, lnk, lsz, lit, fb, tk, tv, rk, rl', ro', ra', rt', rp', oo, co', sk', kd', fr, fn, fi, vs, ll, li, lt))
  (Hi : T (ca_o T i) = 8 → ∀ (lc' sc' kc' : Int32) (rl' ro' ra' rt' rp' co' sk' kd' : Nat → Int32), cx_R T (cx_J T (i + 1)) rl0 ro0 ra0 rt0 rp0 (i + 1) ((i, code.length) :: r) ks (cm_aim (code ++ [(9, 0, 0, nI i)]) x (nI (code.length + 1))) lst lc' sc' kc' rl' ro' ra' rt' rp' co' sk' kd' → post (oc, nI n, cp, lc', sc', kc', dp, vc, er, ep, uu, cls, num, lnk, lsz, lit, fb, tk, tv, rk, rl', ro', ra', rt', rp', oo, co', sk', kd', fr, fn, fi, vs, ll, li, lt)) (ho8 : T (ca_o T i) = 8 ∨ 20 ≤ T (ca_o T i)) : wpX_translateColon post (oc, nI n, cp, lc, sc, kc, dp, vc, er, ep, uu, cls, num, lnk, lsz, lit, fb, tk, tv, rk, rl, ro, ra, rt, rp, oo, co, sk, kd, fr, fn, fi, vs, ll, li, lt) (nI i) := by
  obtain ⟨e1, e2, e3⟩ := cx_tk hn hK hi
  obtain ⟨o1, o2⟩ := hoo i hi (Or.inr h9)
  have hon : ca_o T i < n := by omega
  obtain ⟨f1, f2, f3⟩ := cx_tk hn hK hon
  refine ⟨e3, nm_r (e' := nI (ca_o T i)) (by rw [nI_clamp (by omega)]; exact o1) (cx_isq hn hK hon (fun z => ?_) (fun z => ?_))⟩
  · refine br_f (by decide) ⟨f3, f3, ?_⟩
    rw [f1, nI_clamp (n := ca_o T i) (by omega)]
    refine cx_emit hR hc ?_
    intro lc1 sc1 kc1 rl1 ro1 ra1 rt1 rp1 co1 sk1 kd1 hR1
    obtain ⟨g1, g2, g3, g4, g5, g6, g7, g8, g9, g10⟩ := hR1
    obtain ⟨s1, s2, s3, s4⟩ := g5
    refine ⟨f3, nm_r (e' := upd co1 (ca_o T i) (nI code.length)) rfl (Hq z _ _ _ _ _ _ _ _ _ _ _ ⟨g1, g2, g3, g4, ⟨by show ca_o T i < i + 1; omega, s2, fun _ => ⟨pk_us, hc⟩, ?_⟩, g6, g7, g8, g9, g10⟩)⟩
    refine cx_S_co (Nat.le_refl _) (cx_S_J (fun y hy hJ => ?_) s4)
    obtain ⟨j, j1, j2, j3⟩ := hJ
    refine ⟨j, ?_, j2, j3⟩
    have : j ≠ i := by
      intro q
      subst q
      have : y < ca_o T j := hy
      omega
    omega
  · have t8 : T (ca_o T i) = 8 := by omega
    refine br_t rfl (cx_emit hR hc ?_)
    intro lc1 sc1 kc1 rl1 ro1 ra1 rt1 rp1 co1 sk1 kd1 hR1
    obtain ⟨g1, g2, g3, g4, g5, g6, g7, g8, g9, g10⟩ := hR1
    obtain ⟨s1, s2, s3, s4⟩ := g5
    obtain ⟨c1, c2⟩ := s3 (Or.inl (by show 8 ≤ T (ca_o T i) ∧ T (ca_o T i) ≤ 11; omega))
    have hR2 : cx_R T (cx_J T i) rl0 ro0 ra0 rt0 rp0 i ((ca_o T i, x) :: r) ks (code ++ [(9, 0, 0, nI i)]) lst lc1 sc1 kc1 rl1 ro1 ra1 rt1 rp1 (upd co1 i (nI code.length)) sk1 kd1 := ⟨g1, g2, g3, g4, cx_S_co (Nat.le_refl _) ⟨s1, s2, s3, s4⟩, g6, g7, g8, g9, g10⟩
    refine ⟨e3, nm_r (e' := upd co1 i (nI code.length)) (by rw [nI_clamp (by omega)]) (cx_aimk hR2 (by omega) (c := x) (by rw [pk_un (by omega)]; exact c1) c2 (fun rt3 hR3 => ?_))⟩
    obtain ⟨q1, q2, q3, q4, q5, q6, q7, q8, q9, q10⟩ := hR3
    have k2 : sc1 - 1 = nI r.length := by rw [q2]; exact nI_pred _
    refine ⟨by rw [k2]; exact vp_in_nI hs (by decide), nm_r (e' := upd sk1 r.length (nI i)) (by rw [k2, nI_clamp (by omega)]) (Hi t8 _ _ _ _ _ _ _ _ _ _ _ ?_)⟩
    have ll : (code ++ [((9 : Int32), (0 : Int32), (0 : Int32), nI i)]).length = code.length + 1 := List.length_append
    rw [ll] at q4 q7
    refine ⟨q1, q2, q3, q4, ⟨by show i < i + 1; omega, pk_us, fun _ => ⟨pk_us, hc⟩, ?_⟩, q6, q7, q8, q9, q10⟩
    refine cx_S_sk (Nat.le_refl _) (cx_S_b (b := ca_o T i) (by show ca_o T i ≤ i; omega) (cx_S_J (fun y hy hJ => ?_) q5.2.2.2))
    obtain ⟨j, j1, j2, j3⟩ := hJ
    refine ⟨j, ?_, j2, j3⟩
    have : j ≠ i := by
      intro q
      subst q
      have : y < ca_o T j := hy
      omega
    omega
theorem cx_cls (hn : n ≤ 40) (hK : ∀ i, i < n → tk i = nI (T i) ∧ T i < 23) (hoo : ∀ j, j < n → T j = 7 ∨ T j = 9 → oo j = nI (ca_o T j) ∧ ca_o T j < j) {post : SX → Prop} {i x : Nat} {ck : Int32} {r : List (Nat × Nat)} (hi : i < n) (h7 : T i = 7) (hR : cx_R T (cx_J T i) rl0 ro0 ra0 rt0 rp0 i ((ca_o T i, x) :: r) ks code lst lc sc kc rl ro ra rt rp co sk kd) (hs : r.length < 40) (hks : ks.length ≤ 40)
  (Hc : T (ca_o T i) = 5 → ∃ y ks1, ks = y :: ks1 ∧ code.length < 40 ∧ (∀ (lc' sc' kc' : Int32) (rl' ro' ra' rt' rp' co' sk' kd' : Nat → Int32), cx_R T (cx_J T (i + 1)) rl0 ro0 ra0 rt0 rp0 (i + 1) r (ck :: ks1) (code ++ [(5, tv (ca_o T i), 0, nI (ca_o T i))]) (cm_dem (decide (y = 3)) (ca_o T i) lst) lc' sc' kc' rl' ro' ra' rt' rp' co' sk' kd' → post (oc, nI n, cp, lc', sc', kc', dp, vc, er, ep, uu, cls, num, lnk, lsz, lit, fb, tk, tv, rk, rl', ro', ra', rt', rp', oo, co', sk', kd', fr, fn, fi, vs, ll, li, lt)))
  (Hq : 20 ≤ T (ca_o T i) → cx_J T i (ca_o T i) ∧ ∃ y z ks1, ks = y :: z :: ks1 ∧ code.length < 40 ∧ (∀ (lc' sc' kc' : Int32) (rl' ro' ra' rt' rp' co' sk' kd' : Nat → Int32), cx_R T (cx_J T (i + 1)) rl0 ro0 ra0 rt0 rp0 (i + 1) r ((if T (ca_o T i) = 22 then 1 else 2) :: ks1) (cm_aim (code ++ [(24, nI x, 0, nI (ca_o T i))]) x (nI (code.length + 1))) (cm_dem (decide (z = 4 ∧ y = (if T (ca_o T i) = 22 then 1 else 2))) (ca_o T i) lst) lc' sc' kc' rl' ro' ra' rt' rp' co' sk' kd' → post (oc, nI n, cp, lc', sc', kc', dp, vc, er, ep, uu, cls, num, lnk, lsz, lit, fb, tk, tv, rk, rl', ro', ra', rt', rp', oo, co', sk', kd', fr, fn, fi, vs, ll, li, lt)))
  (Hp : T (ca_o T i) ≠ 5 → T (ca_o T i) < 20 → ∀ (lc' sc' kc' : Int32) (rl' ro' ra' rt' rp' co' sk' kd' : Nat → Int32), cx_R T (cx_J T (i + 1)) rl0 ro0 ra0 rt0 rp0 (i + 1) r ks code lst lc' sc' kc' rl' ro' ra' rt' rp' co' sk' kd' → post (oc, nI n, cp, lc', sc', kc', dp, vc, er, ep, uu, cls, num, lnk, lsz, lit, fb, tk, tv, rk, rl', ro', ra', rt', rp', oo, co', sk', kd', fr, fn, fi, vs, ll, li, lt)) : wpX_translateClose post (oc, nI n, cp, lc, sc, kc, dp, vc, er, ep, uu, cls, num, lnk, lsz, lit, fb, tk, tv, rk, rl, ro, ra, rt, rp, oo, co, sk, kd, fr, fn, fi, vs, ll, li, lt) (nI (ca_o T i)) ck := by
  obtain ⟨o1, o2⟩ := hoo i hi (Or.inl h7)
  have hon : ca_o T i < n := by omega
  obtain ⟨f1, f2, f3⟩ := cx_tk hn hK hon
  have hTo := (hK _ hon).2
  obtain ⟨h1, h2, h3, h4, h5, h6, h7', h8, h9, h10⟩ := id hR
  obtain ⟨s1, s2, s3, s4⟩ := h5
  have hRp : cx_R T (cx_J T i) rl0 ro0 ra0 rt0 rp0 i r ks code lst lc (nI r.length) kc rl ro ra rt rp co sk kd := ⟨h1, rfl, h3, h4, cx_S_b (by show ca_o T i ≤ i; omega) s4, h6, h7', h8, h9, h10⟩
  refine nm_r (e' := nI r.length) (by rw [h2]; exact nI_pred _) ⟨f3, ?_⟩
  by_cases t5 : T (ca_o T i) = 5
  · obtain ⟨y, ks1, ek, hc, H⟩ := Hc t5
    subst ek
    rw [List.length_cons] at hks
    have k1 : kc - 1 = nI ks1.length := by rw [h3]; exact nI_pred _
    have kx : kd (kc - 1).toNatClampNeg = y := by rw [k1, nI_clamp (by omega)]; exact h6.1
    refine br_t (by rw [f1, t5]; rfl) ⟨by rw [k1]; exact vp_in_nI (by omega) (by decide), ?_⟩
    rw [kx]
    have nxt : ∀ v : Int32, v = (if decide (y = 3) = true then 1 else 0) → wX_translateClose_41 post (nI (ca_o T i)) ck v oc (nI n) cp lc (nI r.length) kc dp vc er ep uu cls num lnk lsz lit fb tk tv rk rl ro ra rt rp oo co sk kd fr fn fi vs ll li lt := by
      intro v hv
      refine cx_dem hRp hv (by omega) ?_
      intro lc1 sc1 kc1 rl1 ro1 ra1 rt1 rp1 co1 sk1 kd1 hR1
      refine ⟨f3, ?_⟩
      rw [nI_clamp (n := ca_o T i) (by omega)]
      refine cx_emit hR1 hc ?_
      intro lc2 sc2 kc2 rl2 ro2 ra2 rt2 rp2 co2 sk2 kd2 hR2
      obtain ⟨g1, g2, g3, g4, g5, g6, g7, g8, g9, g10⟩ := hR2
      have k2 : kc2 - 1 = nI ks1.length := by rw [g3]; exact nI_pred _
      exact ⟨by rw [k2]; exact vp_in_nI (by omega) (by decide), nm_r (e' := upd kd2 ks1.length ck) (by rw [k2, nI_clamp (by omega)]) (H _ _ _ _ _ _ _ _ _ _ _ (cx_nx (by omega) (by omega) ⟨g1, g2, g3, g4, g5, ⟨pk_us, cx_K_up (Nat.le_refl _) g6.2⟩, g7, g8, g9, g10⟩))⟩
    exact cx_one (P := fun v => v = (if decide (y = 3) = true then 1 else 0)) (fun z => nxt 1 z) (fun z => nxt 0 z) rfl
  · refine br_f (f2 5 t5 (by decide)) (cx_isq hn hK hon (fun z20 => ?_) (fun z20 => br_t rfl (Hp t5 z20 _ _ _ _ _ _ _ _ _ _ _ (cx_nx (by omega) (by omega) hRp))))
    obtain ⟨hJ, y, z, ks1, ek, hc, H⟩ := Hq z20
    subst ek
    rw [List.length_cons, List.length_cons] at hks
    obtain ⟨c1, c2⟩ := s3 (Or.inr ⟨z20, hJ⟩)
    have k1 : kc - 1 = nI (ks1.length + 1) := by rw [h3]; exact nI_pred _
    have hRk : cx_R T (cx_J T i) rl0 ro0 ra0 rt0 rp0 i r (z :: ks1) code lst lc (nI r.length) (nI (ks1.length + 1)) rl ro ra rt rp co sk kd := ⟨h1, rfl, rfl, h4, cx_S_b (by show ca_o T i ≤ i; omega) s4, h6.2, h7', h8, h9, h10⟩
    have nxt : ∀ (K v : Int32), K = (if T (ca_o T i) = 22 then 1 else 2) → v = (if decide (z = 4 ∧ y = K) = true then 1 else 0) → wX_translateClose_142 post (nI (ca_o T i)) K v oc (nI n) cp lc (nI r.length) (nI (ks1.length + 1)) dp vc er ep uu cls num lnk lsz lit fb tk tv rk rl ro ra rt rp oo co sk kd fr fn fi vs ll li lt := by
      intro K v hKK hv
      rw [← hKK] at H
      refine cx_demk hRk hv (by omega) (fun lc1 hR1 => ?_)
      refine ⟨f3, ?_⟩
      rw [show co (nI (ca_o T i)).toNatClampNeg = nI x by rw [nI_clamp (by omega)]; exact c1]
      refine cx_emitk hR1 hc (fun rl2 ro2 ra2 rt2 rp2 hR2 => ?_)
      refine cx_aimk hR2 (by omega) c1 c2 (fun rt3 hR3 => ?_)
      obtain ⟨g1, g2, g3, g4, g5, g6, g7, g8, g9, g10⟩ := hR3
      have ll : (code ++ [((24 : Int32), nI x, (0 : Int32), nI (ca_o T i))]).length = code.length + 1 := List.length_append
      rw [ll] at g4 g7
      refine ⟨by rw [nI_pred]; exact vp_in_nI (by omega) (by decide), nm_r (e' := upd kd ks1.length K) (by rw [nI_pred, nI_clamp (by omega)]) (H _ _ _ _ _ _ _ _ _ _ _ (cx_nx (by omega) (by omega) ⟨g1, g2, g3, g4, g5, ⟨pk_us, cx_K_up (Nat.le_refl _) g6.2⟩, g7, g8, g9, g10⟩))⟩
    have l97 : ∀ K : Int32, K = (if T (ca_o T i) = 22 then 1 else 2) → wX_translateClose_97 post (nI (ca_o T i)) K oc (nI n) cp lc (nI r.length) kc dp vc er ep uu cls num lnk lsz lit fb tk tv rk rl ro ra rt rp oo co sk kd fr fn fi vs ll li lt := by
      intro K hKK
      refine nm_r k1 ⟨by rw [nI_pred]; exact vp_in_nI (by omega) (by decide), ?_⟩
      rw [show kd (nI (ks1.length + 1) - 1).toNatClampNeg = z by rw [nI_pred, nI_clamp (by omega)]; exact h6.2.1]
      by_cases z4 : z = 4
      · refine br_t z4 ⟨vp_in_nI (by omega) (by decide), ?_⟩
        rw [show kd (nI (ks1.length + 1)).toNatClampNeg = y by rw [nI_clamp (by omega)]; exact h6.1]
        by_cases yK : y = K
        · exact br_t yK (nxt K 1 hKK (by rw [decide_eq_true ⟨z4, yK⟩]; rfl))
        · exact br_f yK (nxt K 0 hKK (by rw [decide_eq_false (fun q => yK q.2)]; rfl))
      · exact br_f z4 (nxt K 0 hKK (by rw [decide_eq_false (fun q => z4 q.1)]; rfl))
    refine br_f (by decide) ⟨f3, ?_⟩
    by_cases t22 : T (ca_o T i) = 22
    · exact br_t (by rw [f1, t22]; rfl) (l97 1 (by rw [if_pos t22]))
    · exact br_f (f2 22 t22 (by decide)) (l97 2 (by rw [if_neg t22]))
end
end
section
section
variable {oc cp dp vc er ep uu lc sc kc : Int32} {cls num lnk lsz lit fb tk tv rk oo fr fn fi vs ll li lt rl ro ra rt rp co sk kd rl0 ro0 ra0 rt0 rp0 : Nat → Int32} {n b : Nat} {T : Nat → Nat} {J : Nat → Prop} {stk : List (Nat × Nat)} {ks : List Int32} {code : List cm_I} {lst : Nat}
theorem cx_tr (hn : n ≤ 40) (hK : ∀ i, i < n → tk i = nI (T i) ∧ T i < 23) (hoo : ∀ j, j < n → T j = 7 ∨ T j = 9 → oo j = nI (ca_o T j) ∧ ca_o T j < j) (hQ : ∀ j, j < n → T j = 7 → 20 ≤ T (ca_o T j) → cx_J T j (ca_o T j)) (hC : ∀ j, j < n → T j = 9 → T (ca_o T j) = 8 ∨ 20 ≤ T (ca_o T j)) {post : SX → Prop} {kf : Nat → Int32} {i : Nat} {ck : Int32} {s : List (Nat × Nat) × cm_R} (hi : i < n) (hR : cx_R T (cx_J T i) rl0 ro0 ra0 rt0 rp0 i stk ks code lst lc sc kc rl ro ra rt rp co sk kd) (hs : stk.length ≤ i) (hks : ks.length ≤ i) (htr : cm_tr T tv kf i (stk, (ks, code, lst)) = some s) (hcl : s.2.2.1.length ≤ 40) (hck : T i = 7 → T (ca_o T i) = 5 → ck = kf (ca_o T i)) (H : ∀ (lc' sc' kc' : Int32) (rl' ro' ra' rt' rp' co' sk' kd' : Nat → Int32), cx_R T (cx_J T (i + 1)) rl0 ro0 ra0 rt0 rp0 (i + 1) s.1 s.2.1 s.2.2.1 s.2.2.2 lc' sc' kc' rl' ro' ra' rt' rp' co' sk' kd' → post (oc, nI n, cp, lc', sc', kc', dp, vc, er, ep, uu, cls, num, lnk, lsz, lit, fb, tk, tv, rk, rl', ro', ra', rt', rp', oo, co', sk', kd', fr, fn, fi, vs, ll, li, lt)) : wpX_translate post (oc, nI n, cp, lc, sc, kc, dp, vc, er, ep, uu, cls, num, lnk, lsz, lit, fb, tk, tv, rk, rl, ro, ra, rt, rp, oo, co, sk, kd, fr, fn, fi, vs, ll, li, lt) (nI i) ck := by
  obtain ⟨e1, e2, e3⟩ := cx_tk hn hK hi
  have hT := (hK i hi).2
  unfold cm_tr at htr
  dsimp only at htr
  have h0 : T i = 0 → wpX_translateOperand post (oc, nI n, cp, lc, sc, kc, dp, vc, er, ep, uu, cls, num, lnk, lsz, lit, fb, tk, tv, rk, rl, ro, ra, rt, rp, oo, co, sk, kd, fr, fn, fi, vs, ll, li, lt) (nI i) 1 := by
    intro t
    rw [if_pos t] at htr
    have hz := Option.some.inj htr
    subst hz
    refine cx_opr hn hK hi (by omega) hR (by omega) (by rw [List.length_append] at hcl; exact hcl) ?_
    rw [t]; exact H
  have h3 : T i = 3 ∨ T i = 4 ∨ T i = 19 → wpX_translateOperand post (oc, nI n, cp, lc, sc, kc, dp, vc, er, ep, uu, cls, num, lnk, lsz, lit, fb, tk, tv, rk, rl, ro, ra, rt, rp, oo, co, sk, kd, fr, fn, fi, vs, ll, li, lt) (nI i) 3 := by
    intro t
    rw [if_neg (by omega), if_pos t] at htr
    have hz := Option.some.inj htr
    subst hz
    exact cx_opr hn hK hi (by omega) hR (by omega) (by rw [List.length_append] at hcl; exact hcl) H
  have h1 : T i = 1 ∨ T i = 2 → wpX_translateProperty post (oc, nI n, cp, lc, sc, kc, dp, vc, er, ep, uu, cls, num, lnk, lsz, lit, fb, tk, tv, rk, rl, ro, ra, rt, rp, oo, co, sk, kd, fr, fn, fi, vs, ll, li, lt) (nI i) := by
    intro t
    rw [if_neg (by omega), if_neg (by omega), if_pos t] at htr
    cases ks with
    | nil => cases htr
    | cons x r =>
      have hz := Option.some.inj htr
      subst hz
      rw [List.length_cons] at hks
      exact cx_prp hn hK hi (by omega) hR (by omega) (by rw [List.length_append] at hcl; exact hcl) H
  have h6 : T i = 6 → wpX_translateOpen post (oc, nI n, cp, lc, sc, kc, dp, vc, er, ep, uu, cls, num, lnk, lsz, lit, fb, tk, tv, rk, rl, ro, ra, rt, rp, oo, co, sk, kd, fr, fn, fi, vs, ll, li, lt) (nI i) := by
    intro t
    rw [if_neg (by omega), if_neg (by omega), if_neg (by omega), if_pos t] at htr
    refine cx_opn hn hK hi t hR (by omega) (fun z => ?_) (fun z => ?_)
    · rw [if_pos z] at htr
      have hz := Option.some.inj htr
      subst hz
      exact H
    · rw [if_neg z] at htr
      have hz := Option.some.inj htr
      subst hz
      exact H
  have h9 : T i = 9 → wpX_translateColon post (oc, nI n, cp, lc, sc, kc, dp, vc, er, ep, uu, cls, num, lnk, lsz, lit, fb, tk, tv, rk, rl, ro, ra, rt, rp, oo, co, sk, kd, fr, fn, fi, vs, ll, li, lt) (nI i) := by
    intro t
    rw [if_neg (by omega), if_neg (by omega), if_neg (by omega), if_neg (by omega), if_pos t] at htr
    cases stk with
    | nil => cases htr
    | cons e r =>
      dsimp only at htr
      by_cases ee : e.1 = ca_o T i
      · rw [if_neg (fun z => z ee)] at htr
        obtain ⟨e0, ex⟩ := e
        have ee' : e0 = ca_o T i := ee
        subst ee'
        rw [List.length_cons] at hs
        have hc8 := hC i hi t
        have lc1 : code.length < 40 := by
          rcases hc8 with z | z
          · rw [if_neg (by omega)] at htr
            have hz := Option.some.inj htr
            subst hz
            dsimp only at hcl
            rw [cm_aim_len, List.length_append] at hcl
            exact hcl
          · rw [if_pos z] at htr
            have hz := Option.some.inj htr
            subst hz
            dsimp only at hcl
            rw [List.length_append] at hcl
            exact hcl
        refine cx_col hn hK hoo hi t hR (by omega) lc1 (fun z => ?_) (fun z => ?_) hc8
        · rw [if_pos z] at htr
          have hz := Option.some.inj htr
          subst hz
          exact H
        · rw [if_neg (by omega)] at htr
          have hz := Option.some.inj htr
          subst hz
          exact H
      · rw [if_pos ee] at htr; cases htr
  have h7 : T i = 7 → vp_in (nI i) 40 ∧ wpX_translateClose post (oc, nI n, cp, lc, sc, kc, dp, vc, er, ep, uu, cls, num, lnk, lsz, lit, fb, tk, tv, rk, rl, ro, ra, rt, rp, oo, co, sk, kd, fr, fn, fi, vs, ll, li, lt) (oo (nI i).toNatClampNeg) ck := by
    intro t
    rw [if_neg (by omega), if_neg (by omega), if_neg (by omega), if_neg (by omega), if_neg (by omega), if_pos t] at htr
    refine ⟨e3, ?_⟩
    rw [show oo (nI i).toNatClampNeg = nI (ca_o T i) by rw [nI_clamp (by omega)]; exact (hoo i hi (Or.inl t)).1]
    cases stk with
    | nil => cases htr
    | cons e r =>
      dsimp only at htr
      by_cases ee : e.1 = ca_o T i
      · rw [if_neg (fun z => z ee)] at htr
        obtain ⟨e0, ex⟩ := e
        have ee' : e0 = ca_o T i := ee
        subst ee'
        rw [List.length_cons] at hs
        refine cx_cls hn hK hoo hi t hR (by omega) (by omega) (fun z => ?_) (fun z => ?_) (fun z1 z2 => ?_)
        · rw [if_pos z] at htr
          cases ks with
          | nil => cases htr
          | cons y ks1 =>
            have hz := Option.some.inj htr
            subst hz
            refine ⟨y, ks1, rfl, by dsimp only at hcl; rw [List.length_append] at hcl; exact hcl, ?_⟩
            rw [hck t z]; exact H
        · rw [if_neg (by omega), if_pos z] at htr
          match ks, htr, hR with
          | [], htr, _ => cases htr
          | [_], htr, _ => cases htr
          | y :: x' :: ks1, htr, hR =>
            have hz := Option.some.inj htr
            subst hz
            refine ⟨hQ i hi t z, y, x', ks1, rfl, by dsimp only at hcl; rw [cm_aim_len, List.length_append] at hcl; exact hcl, H⟩
        · rw [if_neg z1, if_neg (by omega)] at htr
          have hz := Option.some.inj htr
          subst hz
          exact H
      · rw [if_pos ee] at htr; cases htr
  have h8 : T i = 8 ∨ T i = 10 ∨ T i = 11 → wX_translate_156 post (nI i) oc (nI n) cp lc sc kc dp vc er ep uu cls num lnk lsz lit fb tk tv rk rl ro ra rt rp oo co sk kd fr fn fi vs ll li lt := by
    intro t
    rw [if_neg (by omega), if_neg (by omega), if_neg (by omega), if_neg (by omega), if_neg (by omega), if_neg (by omega), if_pos t] at htr
    have hz := Option.some.inj htr
    subst hz
    exact cx_jmp hn hK hi t hR (by omega) (by dsimp only at hcl; rw [List.length_append] at hcl; exact hcl) H
  have hd : (T i = 5 ∨ (12 ≤ T i ∧ T i ≤ 18) ∨ 20 ≤ T i) → wX_translate_182 post (nI i) oc (nI n) cp lc sc kc dp vc er ep uu cls num lnk lsz lit fb tk tv rk rl ro ra rt rp oo co sk kd fr fn fi vs ll li lt := by
    intro t
    rw [if_neg (by omega), if_neg (by omega), if_neg (by omega), if_neg (by omega), if_neg (by omega), if_neg (by omega), if_neg (by omega)] at htr
    have hz := Option.some.inj htr
    subst hz
    refine cx_psh hn hK hi (by omega) (fun ⟨j, j1, j2, j3⟩ => ?_) hR (by omega) H
    have := (hoo j (by omega) (Or.inr j2)).2
    omega
  refine ⟨e3, nm_r (e' := nI (T i)) e1 ?_⟩
  have c : T i = 0 ∨ T i = 1 ∨ T i = 2 ∨ T i = 3 ∨ T i = 4 ∨ T i = 5 ∨ T i = 6 ∨ T i = 7 ∨ T i = 8 ∨ T i = 9 ∨ T i = 10 ∨ T i = 11 ∨ T i = 12 ∨ T i = 13 ∨ T i = 14 ∨ T i = 15 ∨ T i = 16 ∨ T i = 17 ∨ T i = 18 ∨ T i = 19 ∨ T i = 20 ∨ T i = 21 ∨ T i = 22 := by omega
  rcases c with ht | ht | ht | ht | ht | ht | ht | ht | ht | ht | ht | ht | ht | ht | ht | ht | ht | ht | ht | ht | ht | ht | ht <;> rw [ht]
  · exact br_f (by decide) (br_f (by decide) (br_t (by decide) (h0 ht)))
  · exact br_f (by decide) (br_f (by decide) (br_f (by decide) (br_t (by decide) (h1 (Or.inl ht)))))
  · exact br_f (by decide) (br_f (by decide) (br_f (by decide) (br_f (by decide) (br_t (by decide) (h1 (Or.inr ht))))))
  · exact br_f (by decide) (br_f (by decide) (br_f (by decide) (br_f (by decide) (br_f (by decide) (br_t (by decide) (h3 (Or.inl ht)))))))
  · exact br_f (by decide) (br_f (by decide) (br_f (by decide) (br_f (by decide) (br_f (by decide) (br_f (by decide) (br_t (by decide) (h3 (Or.inr (Or.inl ht)))))))))
  · exact br_f (by decide) (br_f (by decide) (br_f (by decide) (br_f (by decide) (br_f (by decide) (br_f (by decide) (br_f (by decide) (br_t (by decide) (hd (by omega)))))))))
  · exact br_f (by decide) (br_f (by decide) (br_f (by decide) (br_f (by decide) (br_f (by decide) (br_f (by decide) (br_f (by decide) (br_f (by decide) (br_t (by decide) (h6 ht)))))))))
  · exact br_f (by decide) (br_f (by decide) (br_f (by decide) (br_f (by decide) (br_f (by decide) (br_f (by decide) (br_f (by decide) (br_f (by decide) (br_f (by decide) (br_t (by decide) (h7 ht))))))))))
  · exact br_f (by decide) (br_f (by decide) (br_f (by decide) (br_f (by decide) (br_f (by decide) (br_f (by decide) (br_f (by decide) (br_f (by decide) (br_f (by decide) (br_f (by decide) (br_t (by decide) (h8 (Or.inl ht))))))))))))
  · exact br_f (by decide) (br_f (by decide) (br_f (by decide) (br_f (by decide) (br_f (by decide) (br_f (by decide) (br_f (by decide) (br_f (by decide) (br_f (by decide) (br_f (by decide) (br_f (by decide) (br_t (by decide) (h9 ht))))))))))))
  · exact br_f (by decide) (br_f (by decide) (br_f (by decide) (br_f (by decide) (br_f (by decide) (br_f (by decide) (br_f (by decide) (br_f (by decide) (br_f (by decide) (br_f (by decide) (br_f (by decide) (br_f (by decide) (br_t (by decide) (h8 (Or.inr (Or.inl ht)))))))))))))))
  · exact br_f (by decide) (br_f (by decide) (br_f (by decide) (br_f (by decide) (br_f (by decide) (br_f (by decide) (br_f (by decide) (br_f (by decide) (br_f (by decide) (br_f (by decide) (br_f (by decide) (br_f (by decide) (br_f (by decide) (br_t (by decide) (h8 (Or.inr (Or.inr ht))))))))))))))))
  · exact br_f (by decide) (br_f (by decide) (br_f (by decide) (br_f (by decide) (br_f (by decide) (br_f (by decide) (br_f (by decide) (br_f (by decide) (br_f (by decide) (br_f (by decide) (br_f (by decide) (br_f (by decide) (br_f (by decide) (br_f (by decide) (br_t (by decide) (hd (by omega))))))))))))))))
  · exact br_f (by decide) (br_f (by decide) (br_f (by decide) (br_f (by decide) (br_f (by decide) (br_f (by decide) (br_f (by decide) (br_f (by decide) (br_f (by decide) (br_f (by decide) (br_f (by decide) (br_f (by decide) (br_f (by decide) (br_f (by decide) (br_f (by decide) (br_t (by decide) (hd (by omega)))))))))))))))))
  · exact br_f (by decide) (br_f (by decide) (br_f (by decide) (br_f (by decide) (br_f (by decide) (br_f (by decide) (br_f (by decide) (br_f (by decide) (br_f (by decide) (br_f (by decide) (br_f (by decide) (br_f (by decide) (br_f (by decide) (br_f (by decide) (br_f (by decide) (br_f (by decide) (br_t (by decide) (hd (by omega))))))))))))))))))
  · exact br_f (by decide) (br_f (by decide) (br_f (by decide) (br_f (by decide) (br_f (by decide) (br_f (by decide) (br_f (by decide) (br_f (by decide) (br_f (by decide) (br_f (by decide) (br_f (by decide) (br_f (by decide) (br_f (by decide) (br_f (by decide) (br_f (by decide) (br_f (by decide) (br_f (by decide) (br_t (by decide) (hd (by omega)))))))))))))))))))
  · exact br_f (by decide) (br_f (by decide) (br_f (by decide) (br_f (by decide) (br_f (by decide) (br_f (by decide) (br_f (by decide) (br_f (by decide) (br_f (by decide) (br_f (by decide) (br_f (by decide) (br_f (by decide) (br_f (by decide) (br_f (by decide) (br_f (by decide) (br_f (by decide) (br_f (by decide) (br_f (by decide) (br_t (by decide) (hd (by omega))))))))))))))))))))
  · exact br_f (by decide) (br_f (by decide) (br_f (by decide) (br_f (by decide) (br_f (by decide) (br_f (by decide) (br_f (by decide) (br_f (by decide) (br_f (by decide) (br_f (by decide) (br_f (by decide) (br_f (by decide) (br_f (by decide) (br_f (by decide) (br_f (by decide) (br_f (by decide) (br_f (by decide) (br_f (by decide) (br_f (by decide) (br_t (by decide) (hd (by omega)))))))))))))))))))))
  · exact br_f (by decide) (br_f (by decide) (br_f (by decide) (br_f (by decide) (br_f (by decide) (br_f (by decide) (br_f (by decide) (br_f (by decide) (br_f (by decide) (br_f (by decide) (br_f (by decide) (br_f (by decide) (br_f (by decide) (br_f (by decide) (br_f (by decide) (br_f (by decide) (br_f (by decide) (br_f (by decide) (br_f (by decide) (br_f (by decide) (br_t (by decide) (hd (by omega))))))))))))))))))))))
  · exact br_f (by decide) (br_f (by decide) (br_f (by decide) (br_f (by decide) (br_f (by decide) (br_f (by decide) (br_f (by decide) (br_f (by decide) (br_f (by decide) (br_f (by decide) (br_f (by decide) (br_f (by decide) (br_f (by decide) (br_f (by decide) (br_f (by decide) (br_f (by decide) (br_f (by decide) (br_f (by decide) (br_f (by decide) (br_f (by decide) (br_f (by decide) (br_t (by decide) (h3 (Or.inr (Or.inr ht))))))))))))))))))))))))
  · exact br_f (by decide) (br_t (by decide) (hd (by omega)))
  · exact br_f (by decide) (br_t (by decide) (hd (by omega)))
  · exact br_f (by decide) (br_t (by decide) (hd (by omega)))
theorem cx_loop (hn : n ≤ 40) (hK : ∀ i, i < n → tk i = nI (T i) ∧ T i < 23) (hoo : ∀ j, j < n → T j = 7 ∨ T j = 9 → oo j = nI (ca_o T j) ∧ ca_o T j < j) (hQ : ∀ j, j < n → T j = 7 → 20 ≤ T (ca_o T j) → cx_J T j (ca_o T j)) (hC : ∀ j, j < n → T j = 9 → T (ca_o T j) = 8 ∨ 20 ≤ T (ca_o T j)) {post : Int32 → SX → Prop} {kf : Nat → Int32} {x1 x2 : Int32} (hT5 : ∀ j, j < n → T j = 5 → ∃ x, x < 6 ∧ tv j = nI x) (hkf : ∀ j, j < n → T j = 5 → kf j = (if tv j = x1 then x2 else rk (tv j).toNatClampNeg)) : ∀ (d i : Nat) {stk : List (Nat × Nat)} {ks : List Int32} {code : List cm_I} {lst : Nat} {lc sc kc : Int32} {rl ro ra rt rp co sk kd : Nat → Int32} {s : List (Nat × Nat) × cm_R} {f : Nat}, i + d = n → cx_R T (cx_J T i) rl0 ro0 ra0 rt0 rp0 i stk ks code lst lc sc kc rl ro ra rt rp co sk kd → stk.length ≤ i → ks.length ≤ i → cm_run T tv kf i d (stk, (ks, code, lst)) = some s → s.2.2.1.length ≤ 40 → (∀ (lc' sc' kc' : Int32) (rl' ro' ra' rt' rp' co' sk' kd' : Nat → Int32), cx_R T (cx_J T n) rl0 ro0 ra0 rt0 rp0 n s.1 s.2.1 s.2.2.1 s.2.2.2 lc' sc' kc' rl' ro' ra' rt' rp' co' sk' kd' → s.1.length ≤ n → s.2.1.length ≤ n → wX_clashPlace_30 post x1 x2 (f + 1) (nI n) oc (nI n) cp (lc') (sc') (kc') dp vc er ep uu cls num lnk lsz lit fb tk tv rk (rl') (ro') (ra') (rt') (rp') oo (co') (sk') (kd') fr fn fi vs ll li lt) → wX_clashPlace_30 post x1 x2 (d + f + 1) (nI i) oc (nI n) cp lc sc kc dp vc er ep uu cls num lnk lsz lit fb tk tv rk rl ro ra rt rp oo co sk kd fr fn fi vs ll li lt := by
  intro d
  induction d with
  | zero =>
    intro i stk ks code lst lc sc kc rl ro ra rt rp co sk kd s f hi hR hs hk hrun hcl H
    have hz := Option.some.inj hrun
    subst hz
    have hin : i = n := by omega
    subst hin
    rw [Nat.zero_add]
    exact H _ _ _ _ _ _ _ _ _ _ _ hR hs hk
  | succ d ih =>
    intro i stk ks code lst lc sc kc rl ro ra rt rp co sk kd s f hi hR hs hk hrun hcl H
    have hin : i < n := by omega
    have hrun' : (match cm_step T tv kf i (stk, (ks, code, lst)) with | none => none | some s1 => cm_run T tv kf (i + 1) d s1) = some s := hrun
    cases hst : cm_step T tv kf i (stk, (ks, code, lst)) with
    | none => rw [hst] at hrun'; cases hrun'
    | some s1 =>
      rw [hst] at hrun'
      have hl1 := cm_run_len hrun'
      unfold cm_step at hst
      dsimp only at hst
      cases hse : cm_se T (cm_sf T i) stk (ks, code, lst) with
      | none => rw [hse] at hst; cases hst
      | some s2 =>
        rw [hse] at hst
        dsimp only at hst
        have hl2 := cm_tr_len hst
        have hl3 := cm_se_len hse
        dsimp only at hl3
        obtain ⟨e1, e2, e3⟩ := cx_tk hn hK hin
        have sfb : 1 ≤ cm_sf T i ∧ cm_sf T i ≤ 8 := by
          have := cm_str7 (T := T) i
          unfold cm_sf
          repeat' split
          all_goals omega
        rw [show d + 1 + f + 1 = (d + f + 1) + 1 by omega]
        refine br_f (nI_ge hin (by omega)) (cx_sf hn hK hin ?_)
        have h2 := hR.2.1
        have settled : ∀ post2 : SX → Prop, (∀ (lc' sc' kc' : Int32) (rl' ro' ra' rt' rp' co' sk' kd' : Nat → Int32), cx_R T (cx_J T i) rl0 ro0 ra0 rt0 rp0 i s2.1 s2.2.1 s2.2.2.1 s2.2.2.2 lc' sc' kc' rl' ro' ra' rt' rp' co' sk' kd' → post2 (oc, nI n, cp, lc', sc', kc', dp, vc, er, ep, uu, cls, num, lnk, lsz, lit, fb, tk, tv, rk, rl', ro', ra', rt', rp', oo, co', sk', kd', fr, fn, fi, vs, ll, li, lt)) → wpX_settle post2 (oc, nI n, cp, lc, sc, kc, dp, vc, er, ep, uu, cls, num, lnk, lsz, lit, fb, tk, tv, rk, rl, ro, ra, rt, rp, oo, co, sk, kd, fr, fn, fi, vs, ll, li, lt) (nI (cm_sf T i)) := by
          intro post2 HH
          refine ⟨stk.length + 1, ?_⟩
          subst h2
          exact cx_settle hn hK hoo sfb.1 (by omega) stk hR (by omega) (by omega) (by omega) hse (by omega) HH
        refine settled _ ?_
        intro lc1 sc1 kc1 rl1 ro1 ra1 rt1 rp1 co1 sk1 kd1 hR1
        have nxt : ∀ ck : Int32, (T i = 7 → T (ca_o T i) = 5 → ck = kf (ca_o T i)) → wX_clashPlace_78 post (wX_clashPlace_30 post x1 x2 (d + f + 1)) x1 x2 (nI i) ck oc (nI n) cp (lc1) (sc1) (kc1) dp vc er ep uu cls num lnk lsz lit fb tk tv rk (rl1) (ro1) (ra1) (rt1) (rp1) oo (co1) (sk1) (kd1) fr fn fi vs ll li lt := by
          intro ck hck
          refine cx_tr hn hK hoo hQ hC hin hR1 (by omega) (by omega) (s := s1) hst (by omega) hck ?_
          intro lc3 sc3 kc3 rl3 ro3 ra3 rt3 rp3 co3 sk3 kd3 hR3
          refine nm_r (nI_1 i) ?_
          exact ih (i + 1) (by omega) hR3 (by omega) (by omega) hrun' hcl H
        refine ⟨e3, ?_⟩
        by_cases t7 : T i = 7
        · refine br_t (by rw [e1, t7]; rfl) ⟨e3, ?_⟩
          obtain ⟨o1, o2⟩ := hoo i hin (Or.inl t7)
          have hon : ca_o T i < n := by omega
          obtain ⟨f1, f2, f3⟩ := cx_tk hn hK hon
          rw [show oo (nI i).toNatClampNeg = nI (ca_o T i) by rw [nI_clamp (by omega)]; exact o1]
          refine ⟨f3, ?_⟩
          by_cases t5 : T (ca_o T i) = 5
          · obtain ⟨x, hx, ex⟩ := hT5 _ hon t5
            have hkf5 := hkf _ hon t5
            refine br_t (by rw [f1, t5]; rfl) ⟨f3, nm_r (e' := tv (ca_o T i)) (by rw [nI_clamp (by omega)]) ?_⟩
            by_cases z : tv (ca_o T i) = x1
            · rw [if_pos z] at hkf5
              exact br_t z (nxt x2 (fun _ _ => hkf5.symm))
            · rw [if_neg z] at hkf5
              exact br_f z ⟨by rw [ex]; exact vp_in_nI (by omega) (by decide), nxt _ (fun _ _ => hkf5.symm)⟩
          · exact br_f (f2 5 t5 (by decide)) (nxt 0 (fun _ z => absurd z t5))
        · exact br_f (e2 7 t7 (by decide)) (nxt 0 (fun z => absurd z t7))
theorem cx_clash (hn : n ≤ 40) (hK : ∀ i, i < n → tk i = nI (T i) ∧ T i < 23) (hoo : ∀ j, j < n → T j = 7 ∨ T j = 9 → oo j = nI (ca_o T j) ∧ ca_o T j < j) (hQ : ∀ j, j < n → T j = 7 → 20 ≤ T (ca_o T j) → cx_J T j (ca_o T j)) (hC : ∀ j, j < n → T j = 9 → T (ca_o T j) = 8 ∨ 20 ≤ T (ca_o T j)) {post : Int32 → SX → Prop} {kf : Nat → Int32} {x1 x2 : Int32} (hT5 : ∀ j, j < n → T j = 5 → ∃ x, x < 6 ∧ tv j = nI x) (hkf : ∀ j, j < n → T j = 5 → kf j = (if tv j = x1 then x2 else rk (tv j).toNatClampNeg)) {s1 : List (Nat × Nat) × cm_R} {K : Int32} {code : List cm_I} {L : Nat} (hrun : cm_run T tv kf 0 n ([], ([], [], n + 1)) = some s1) (hse : cm_se T 1 s1.1 s1.2 = some ([], ([K], code, L))) (hcl : code.length ≤ 40)
  (H : ∀ (lc sc kc : Int32) (rl' ro' ra' rt' rp' co' sk' kd' : Nat → Int32), rl' 6 = nI code.length → (∀ (j : Nat) (x : cm_I), code[j]? = some x → ro' (240 + j) = x.1 ∧ ra' (240 + j) = x.2.1 ∧ rt' (240 + j) = x.2.2.1 ∧ rp' (240 + j) = x.2.2.2) → (∀ j, j < 6 → rl' j = rl j) → (∀ j, j < 240 → ro' j = ro j ∧ ra' j = ra j ∧ rt' j = rt j ∧ rp' j = rp j) → post (if min L (if K = x2 then 100 else n) ≤ n then nI (min L (if K = x2 then 100 else n)) else -1) (oc, nI n, cp, lc, sc, kc, dp, vc, er, ep, uu, cls, num, lnk, lsz, lit, fb, tk, tv, rk, rl', ro', ra', rt', rp', oo, co', sk', kd', fr, fn, fi, vs, ll, li, lt)) : wpX_clashPlace post (oc, nI n, cp, lc, sc, kc, dp, vc, er, ep, uu, cls, num, lnk, lsz, lit, fb, tk, tv, rk, rl, ro, ra, rt, rp, oo, co, sk, kd, fr, fn, fi, vs, ll, li, lt) x1 x2 := by
  refine nm_r (e' := upd rl 6 0) rfl (nm_r (e' := nI (n + 1)) (nI_1 n) ⟨n + 0 + 1, ?_⟩)
  have hR0 : cx_R T (cx_J T 0) (upd rl 6 0) ro ra rt rp 0 [] [] [] (n + 1) (nI (n + 1)) 0 0 (upd rl 6 0) ro ra rt rp co sk kd := ⟨rfl, rfl, rfl, pk_us, trivial, trivial, (fun j x hx => nomatch hx), by omega, fun j hj => rfl, fun j hj => ⟨rfl, rfl, rfl, rfl⟩⟩
  have hsl := cm_se_len hse
  dsimp only at hsl
  refine cx_loop hn hK hoo hQ hC hT5 hkf n 0 (f := 0) (by omega) hR0 (Nat.le_refl _) (Nat.le_refl _) hrun (by omega) ?_
  intro lc1 sc1 kc1 rl1 ro1 ra1 rt1 rp1 co1 sk1 kd1 hR1
  intro ha hb
  refine br_t (nI_le (Nat.le_refl _) (by omega)) ?_
  have h2 := hR1.2.1
  refine ⟨s1.1.length + 1, ?_⟩
  subst h2
  refine cx_settle hn hK hoo (q := 1) (by decide) (by decide) s1.1 (ks := s1.2.1) (code := s1.2.2.1) (lst := s1.2.2.2) hR1 (Nat.le_refl _) (by omega) (by omega) (s' := ([], ([K], code, L))) hse hcl ?_
  intro lc2 sc2 kc2 rl2 ro2 ra2 rt2 rp2 co2 sk2 kd2 hR2
  obtain ⟨g1, g2, g3, g4, g5, g6, g7, g8, g9, g10⟩ := id hR2
  have k0 : kd2 0 = K := g6.1
  dsimp only
  rw [k0]
  have fin : ∀ v : Int32, v = (if decide (K = x2) = true then 1 else 0) → wX_clashPlace_114 post v oc (nI n) cp (lc2) (sc2) (kc2) dp vc er ep uu cls num lnk lsz lit fb tk tv rk (rl2) (ro2) (ra2) (rt2) (rp2) oo (co2) (sk2) (kd2) fr fn fi vs ll li lt := by
    intro v hv
    refine cx_demk hR2 hv (by omega) (fun lc3 hR3 => ?_)
    have q1 := hR3.1
    have q8 := hR3.2.2.2.2.2.2.2.1
    have hd : cm_dem (decide (K = x2)) n L = min L (if K = x2 then 100 else n) := by
      rw [cm_dem_eq g8]
      by_cases z : K = x2
      · rw [decide_eq_true z, if_pos rfl, if_pos z]
      · rw [decide_eq_false z, if_neg (by decide), if_neg z]
    rw [hd] at q1 q8
    have HH := H lc3 sc2 kc2 rl2 ro2 ra2 rt2 rp2 co2 sk2 kd2 g4 g7 (fun j hj => by rw [g9 j hj, pk_un (by omega)]) g10
    rw [q1]
    rw [q1] at HH
    by_cases z : min L (if K = x2 then 100 else n) ≤ n
    · rw [if_pos z] at HH
      exact br_t (nI_le z (by omega)) HH
    · rw [if_neg z] at HH
      exact br_f (nI_ge (by omega) (by omega)) HH
  exact cx_one (P := fun v => v = (if decide (K = x2) = true then 1 else 0)) (fun z => fin 1 z) (fun z => fin 0 z) rfl
end
end
section
theorem cs_L_ar {T : Nat → Nat} {tv : Nat → Int32} {n : Nat} (hT : ∀ i, i < n → T i < 23) : ∀ {f l u : Nat} {t v : Int32} {p : Nat} {ch : List (Nat × Nat)}, cs_L T tv n f l u t v p ch → ch.length = gr_ar t ∧ (t = 5 → ∃ i, i < n ∧ T i = 5 ∧ v = tv i) := by
  intro f
  induction f with
  | zero => intro l u t v p ch h; exact absurd h id
  | succ f ih =>
    intro l u t v p ch h
    obtain ⟨hV, h⟩ := h
    have v1 := hV.1
    have v2 := hV.2.1
    rcases h with ⟨_, _, _, _, h⟩ | ⟨h1, h2, h3, _, h5, h6⟩ | ⟨h2, _, _, h3, _, h5, h6, h7, _⟩ | ⟨h1, _, _, _, _, h3, h4, h5, h6, h7⟩ | ⟨m, h1, _, _, _, _, _, _, _, h3, _, h5, h6, h7, h8⟩ | ⟨h1, _, _, h5, h6, h7, _⟩ | ⟨c, h0, h00, _, h2, _, h3, _, h5, h6, h7, h8, _⟩ | ⟨c, m, _, _, _, _, _, _, _, _, _, _, h3, _, h5, h6, h7, h8, h9⟩
    · exact ih h
    · subst h6 h3
      rcases h2 with z | z | z | z <;> rw [z] <;> exact ⟨rfl, fun y => absurd y (by decide)⟩
    · subst h6 h3
      rcases h2 with z | z <;> rw [z] <;> exact ⟨rfl, fun y => absurd y (by decide)⟩
    · subst h6 h3
      exact ⟨rfl, fun _ => ⟨l, by omega, h1, h4⟩⟩
    · subst h6 h3
      have := hT l (by omega)
      have z3 : T l = 20 ∨ T l = 21 ∨ T l = 22 := by omega
      rcases z3 with z | z | z <;> rw [z] <;> exact ⟨rfl, fun y => absurd y (by decide)⟩
    · subst h6
      rcases h1 with ⟨_, z⟩ | ⟨_, z⟩ <;> rw [z] <;> exact ⟨rfl, fun y => absurd y (by decide)⟩
    · subst h6 h3
      have := h2.2.2
      have z3 : T c = 10 ∨ T c = 11 ∨ T c = 13 ∨ T c = 14 ∨ T c = 15 ∨ T c = 16 ∨ T c = 17 ∨ T c = 18 := by omega
      rcases z3 with z | z | z | z | z | z | z | z <;> rw [z] <;> exact ⟨rfl, fun y => absurd y (by decide)⟩
    · subst h6 h3
      exact ⟨rfl, fun y => absurd y (by decide)⟩
/-- least demand not met among the first k nodes -/
def cz_ms (g : Nat → Nat) : Nat → Nat
  | 0 => 100
  | k + 1 => min (cz_ms g k) (g k)
theorem cz_ms_le (g : Nat → Nat) : ∀ (N j : Nat), j < N → cz_ms g N ≤ g j
  | 0, j, h => absurd h (by omega)
  | N + 1, j, h => by
    show min (cz_ms g N) (g N) ≤ g j
    by_cases z : j = N
    · subst z; exact Nat.min_le_right _ _
    · exact Nat.le_trans (Nat.min_le_left _ _) (cz_ms_le g N j (by omega))
theorem cz_ms_100 (g : Nat → Nat) : ∀ N, cz_ms g N ≤ 100
  | 0 => Nat.le_refl _
  | N + 1 => Nat.le_trans (Nat.min_le_left _ _) (cz_ms_100 g N)
theorem cz_ms_ge (g : Nat → Nat) (m : Nat) (hm : m ≤ 100) : ∀ N, (∀ j, j < N → m ≤ g j) → m ≤ cz_ms g N
  | 0, _ => hm
  | N + 1, h => by
    show m ≤ min (cz_ms g N) (g N)
    have a := cz_ms_ge g m hm N (fun j hj => h j (by omega))
    have b := h N (by omega)
    omega
section
variable {ob pl sts res era usd sp lv ret out : Int32} {ycls prp lst siz dnd opd yrk rn op nm ay prt ylo yhi sN sP sX sK it vr tk tv : Nat → Int32} {n N : Nat} {yp : Nat → Nat → Nat}
theorem cz_step (hN : N ≤ 40) (hY : ∀ j i, j < N → i < gr_ar (op (240 + j)) → prt ((240 + j) * 3 + i) = nI (240 + yp j i) ∧ j < yp j i ∧ yp j i < N) (hY5 : ∀ j, j < N → op (240 + j) = 5 → ∃ x, x < 6 ∧ nm (240 + j) = nI x) {j i : Nat} (hj : j < N) (hi : i < gr_ar (op (240 + j))) (h3 : i < 3) : cn_b (fun j => op (240 + j)) (fun j => nm (240 + j)) (fun j => ay (240 + j)) yrk yp j ≤ cn_b (fun j => op (240 + j)) (fun j => nm (240 + j)) (fun j => ay (240 + j)) yrk yp (yp j i) := by
  obtain ⟨y1, y2, y3⟩ := hY j i hj hi
  have e : cn_b (fun j => op (240 + j)) (fun j => nm (240 + j)) (fun j => ay (240 + j)) yrk yp j = min (cn_s (fun j => op (240 + j)) (fun j => nm (240 + j)) (fun j => ay (240 + j)) yrk yp j) (min (if h : 0 < gr_ar (op (240 + j)) ∧ j < yp j 0 ∧ yp j 0 < 40 then cn_b (fun j => op (240 + j)) (fun j => nm (240 + j)) (fun j => ay (240 + j)) yrk yp (yp j 0) else 100) (min (if h : 1 < gr_ar (op (240 + j)) ∧ j < yp j 1 ∧ yp j 1 < 40 then cn_b (fun j => op (240 + j)) (fun j => nm (240 + j)) (fun j => ay (240 + j)) yrk yp (yp j 1) else 100) (if h : 2 < gr_ar (op (240 + j)) ∧ j < yp j 2 ∧ yp j 2 < 40 then cn_b (fun j => op (240 + j)) (fun j => nm (240 + j)) (fun j => ay (240 + j)) yrk yp (yp j 2) else 100))) := by
    conv => lhs; rw [cn_b]
  rw [e]
  have c : i = 0 ∨ i = 1 ∨ i = 2 := by omega
  rcases c with rfl | rfl | rfl
  · rw [dif_pos ⟨hi, y2, by omega⟩]
    exact Nat.le_trans (Nat.min_le_right _ _) (Nat.min_le_left _ _)
  · rw [dif_pos (c := 1 < gr_ar (op (240 + j)) ∧ j < yp j 1 ∧ yp j 1 < 40) ⟨hi, y2, by omega⟩]
    exact Nat.le_trans (Nat.min_le_right _ _) (Nat.le_trans (Nat.min_le_right _ _) (Nat.min_le_left _ _))
  · rw [dif_pos (c := 2 < gr_ar (op (240 + j)) ∧ j < yp j 2 ∧ yp j 2 < 40) ⟨hi, y2, by omega⟩]
    exact Nat.le_trans (Nat.min_le_right _ _) (Nat.le_trans (Nat.min_le_right _ _) (Nat.min_le_right _ _))
theorem cz_b (hN : N ≤ 40) (hY : ∀ j i, j < N → i < gr_ar (op (240 + j)) → prt ((240 + j) * 3 + i) = nI (240 + yp j i) ∧ j < yp j i ∧ yp j i < N) (hY5 : ∀ j, j < N → op (240 + j) = 5 → ∃ x, x < 6 ∧ nm (240 + j) = nI x) (ha : ∀ j, j < N → cn_s (fun j => op (240 + j)) (fun j => nm (240 + j)) (fun j => ay (240 + j)) yrk yp j ≤ 100) (hroot : ∀ j, 0 < j → j < N → ∃ q i, q < j ∧ i < gr_ar (op (240 + q)) ∧ i < 3 ∧ j = yp q i) (h0 : 0 < N) : cn_b (fun j => op (240 + j)) (fun j => nm (240 + j)) (fun j => ay (240 + j)) yrk yp 0 = cz_ms (cn_s (fun j => op (240 + j)) (fun j => nm (240 + j)) (fun j => ay (240 + j)) yrk yp) N := by
  have up : ∀ j, j < N → cn_b (fun j => op (240 + j)) (fun j => nm (240 + j)) (fun j => ay (240 + j)) yrk yp 0 ≤ cn_b (fun j => op (240 + j)) (fun j => nm (240 + j)) (fun j => ay (240 + j)) yrk yp j := by
    intro j
    induction j using Nat.strongRecOn with
    | _ j ih =>
      intro hj
      by_cases z : j = 0
      · rw [z]; exact Nat.le_refl _
      · obtain ⟨q, i, q1, q2, q3, q4⟩ := hroot j (by omega) hj
        have a := ih q q1 (by omega)
        have b := cz_step (yrk := yrk) (ay := ay) hN hY hY5 (by omega : q < N) q2 q3
        rw [← q4] at b
        omega
  have dn : ∀ d j, j < N → N - j ≤ d → cz_ms (cn_s (fun j => op (240 + j)) (fun j => nm (240 + j)) (fun j => ay (240 + j)) yrk yp) N ≤ cn_b (fun j => op (240 + j)) (fun j => nm (240 + j)) (fun j => ay (240 + j)) yrk yp j := by
    intro d
    induction d with
    | zero => intro j hj hd; omega
    | succ d ih =>
      intro j hj hd
      have e : cn_b (fun j => op (240 + j)) (fun j => nm (240 + j)) (fun j => ay (240 + j)) yrk yp j = min (cn_s (fun j => op (240 + j)) (fun j => nm (240 + j)) (fun j => ay (240 + j)) yrk yp j) (min (if h : 0 < gr_ar (op (240 + j)) ∧ j < yp j 0 ∧ yp j 0 < 40 then cn_b (fun j => op (240 + j)) (fun j => nm (240 + j)) (fun j => ay (240 + j)) yrk yp (yp j 0) else 100) (min (if h : 1 < gr_ar (op (240 + j)) ∧ j < yp j 1 ∧ yp j 1 < 40 then cn_b (fun j => op (240 + j)) (fun j => nm (240 + j)) (fun j => ay (240 + j)) yrk yp (yp j 1) else 100) (if h : 2 < gr_ar (op (240 + j)) ∧ j < yp j 2 ∧ yp j 2 < 40 then cn_b (fun j => op (240 + j)) (fun j => nm (240 + j)) (fun j => ay (240 + j)) yrk yp (yp j 2) else 100))) := by
        conv => lhs; rw [cn_b]
      have m100 := cz_ms_100 (cn_s (fun j => op (240 + j)) (fun j => nm (240 + j)) (fun j => ay (240 + j)) yrk yp) N
      have ms := cz_ms_le (cn_s (fun j => op (240 + j)) (fun j => nm (240 + j)) (fun j => ay (240 + j)) yrk yp) N j hj
      have kid : ∀ i, cz_ms (cn_s (fun j => op (240 + j)) (fun j => nm (240 + j)) (fun j => ay (240 + j)) yrk yp) N ≤ (if h : i < gr_ar (op (240 + j)) ∧ j < yp j i ∧ yp j i < 40 then cn_b (fun j => op (240 + j)) (fun j => nm (240 + j)) (fun j => ay (240 + j)) yrk yp (yp j i) else 100) := by
        intro i
        by_cases z : i < gr_ar (op (240 + j)) ∧ j < yp j i ∧ yp j i < 40
        · rw [dif_pos z]
          obtain ⟨y1, y2, y3⟩ := hY j i hj z.1
          exact ih (yp j i) y3 (by omega)
        · rw [dif_neg z]; exact m100
      rw [e]
      exact Nat.le_min.mpr ⟨ms, Nat.le_min.mpr ⟨kid 0, Nat.le_min.mpr ⟨kid 1, kid 2⟩⟩⟩
  refine Nat.le_antisymm (cz_ms_ge _ _ ?_ N (fun j hj => Nat.le_trans (up j hj) cn_b_le)) (dn N 0 h0 (by omega))
  exact Nat.le_trans cn_b_le (ha 0 h0)
theorem cz_kind (hN : N ≤ 40) (hY : ∀ j i, j < N → i < gr_ar (op (240 + j)) → prt ((240 + j) * 3 + i) = nI (240 + yp j i) ∧ j < yp j i ∧ yp j i < N) (hY5 : ∀ j, j < N → op (240 + j) = 5 → ∃ x, x < 6 ∧ nm (240 + j) = nI x) : ∀ (d k : Nat) {post : Int32 → Prop}, k < N → N - k ≤ d → post (cn_k (fun j => op (240 + j)) (fun j => nm (240 + j)) yrk yp k) → wY_kindOf_2 post ob (nI n) pl (nI (240 + N)) sts res era usd sp lv ret out ycls prp lst siz dnd (tk) (tv) opd yrk rn op nm ay prt ylo yhi sN sP sX sK it vr (d + 1) (nI (240 + k)) := by
  intro d
  induction d with
  | zero => intro k post hk hd; omega
  | succ d ih =>
    intro k post hk hd hp
    have ck : (nI (240 + k)).toNatClampNeg = 240 + k := nI_clamp (by omega)
    have ik : vp_in (nI (240 + k)) 280 := vp_in_nI (by omega) (by decide)
    refine ⟨ik, ?_⟩
    rw [ck]
    rw [cn_k] at hp
    by_cases o8 : op (240 + k) = 8
    · rw [if_pos o8] at hp
      obtain ⟨y1, y2, y3⟩ := hY k 1 hk (by rw [o8]; decide)
      rw [dif_pos ⟨y2, by omega⟩] at hp
      have e3 : nI (240 + k) * 3 + 1 = nI ((240 + k) * 3 + 1) := gr_lin (240 + k) 3 1 rfl rfl
      exact br_t o8 ⟨by rw [e3]; exact vp_in_nI (by omega) (by decide), nm_r (e' := nI (240 + yp k 1)) (by rw [e3, nI_clamp (by omega)]; exact y1) (ih (yp k 1) y3 (by omega) hp)⟩
    · rw [if_neg o8] at hp
      refine br_f o8 ⟨ik, nm_e ?_⟩
      by_cases o5 : op (240 + k) = 5
      · rw [if_pos o5] at hp
        obtain ⟨x, hx, ex⟩ := hY5 k hk o5
        exact br_t o5 ⟨ik, by rw [ex]; exact vp_in_nI hx (by decide), hp⟩
      · rw [if_neg o5] at hp
        refine br_f o5 ?_
        by_cases o3 : op (240 + k) = 3
        · rw [if_pos (Or.inl o3)] at hp; exact br_t o3 hp
        by_cases o4 : op (240 + k) = 4
        · rw [if_pos (Or.inr (Or.inl o4))] at hp; exact br_f o3 (br_t o4 hp)
        by_cases o19 : op (240 + k) = 19
        · rw [if_pos (Or.inr (Or.inr o19))] at hp; exact br_f o3 (br_f o4 (br_t o19 hp))
        rw [if_neg (by intro z; rcases z with z | z | z <;> contradiction)] at hp
        refine br_f o3 (br_f o4 (br_f o19 ?_))
        have l79 : op (240 + k) = 1 ∨ op (240 + k) = 2 → wY_kindOf_79 post (nI (240 + k)) ob (nI n) pl (nI (240 + N)) sts res era usd sp lv ret out ycls prp lst siz dnd (tk) (tv) opd yrk rn op nm ay prt ylo yhi sN sP sX sK it vr := by
          intro z
          rw [if_pos z] at hp
          refine ⟨ik, ?_⟩
          rw [ck]
          by_cases y : 2 < nm (240 + k)
          · rw [if_pos y] at hp
            refine br_t y ⟨ik, ?_⟩
            by_cases x : nm (240 + k) = 3
            · rw [if_pos x] at hp; exact br_t x hp
            · rw [if_neg x] at hp; exact br_f x hp
          · rw [if_neg y] at hp
            exact br_f y hp
        by_cases o1 : op (240 + k) = 1
        · exact br_t o1 (l79 (Or.inl o1))
        by_cases o2 : op (240 + k) = 2
        · exact br_f o1 (br_t o2 (l79 (Or.inr o2)))
        rw [if_neg (by intro z; rcases z with z | z <;> contradiction)] at hp
        refine br_f o1 (br_f o2 ?_)
        have l121 : ¬ (10 ≤ op (240 + k) ∧ op (240 + k) ≤ 14) → wY_kindOf_121 post (op (240 + k)) ob (nI n) pl (nI (240 + N)) sts res era usd sp lv ret out ycls prp lst siz dnd (tk) (tv) opd yrk rn op nm ay prt ylo yhi sN sP sX sK it vr := by
          intro z
          by_cases o20 : op (240 + k) = 20
          · rw [if_pos (Or.inr (Or.inl o20))] at hp; exact br_t o20 hp
          by_cases o21 : op (240 + k) = 21
          · rw [if_pos (Or.inr (Or.inr o21))] at hp; exact br_f o20 (br_t o21 hp)
          rw [if_neg (by intro y; rcases y with y | y | y <;> contradiction)] at hp
          exact br_f o20 (br_f o21 hp)
        by_cases l10 : op (240 + k) < 10
        · exact br_t l10 (l121 (fun z => (Int32.not_le.mpr l10) z.1))
        · refine br_f l10 ?_
          by_cases l14 : op (240 + k) ≤ 14
          · rw [if_pos (Or.inl ⟨Int32.not_lt.mp l10, l14⟩)] at hp
            exact br_t l14 hp
          · exact br_f l14 (l121 (fun z => l14 z.2))
theorem cz_kindOf (hN : N ≤ 40) (hY : ∀ j i, j < N → i < gr_ar (op (240 + j)) → prt ((240 + j) * 3 + i) = nI (240 + yp j i) ∧ j < yp j i ∧ yp j i < N) (hY5 : ∀ j, j < N → op (240 + j) = 5 → ∃ x, x < 6 ∧ nm (240 + j) = nI x) {k : Nat} {post : Int32 → Prop} (hk : k < N) (hp : post (cn_k (fun j => op (240 + j)) (fun j => nm (240 + j)) yrk yp k)) : wpY_kindOf post (ob, nI n, pl, nI (240 + N), sts, res, era, usd, sp, lv, ret, out, ycls, prp, lst, siz, dnd, tk, tv, opd, yrk, rn, op, nm, ay, prt, ylo, yhi, sN, sP, sX, sK, it, vr) (nI (240 + k)) := ⟨_, cz_kind hN hY hY5 N k hk (by omega) hp⟩
theorem cn_ok_leaf {yo yn rk : Nat → Int32} {yp : Nat → Nat → Nat} {k : Nat} (h : yo k = 0 ∨ yo k = 3 ∨ yo k = 4 ∨ yo k = 19) : cn_ok yo yn rk yp k = true := by unfold cn_ok; rw [if_pos h]
theorem cz_t {b : Bool} {post : Int32 → Prop} (h : b = true) (hp : post (if b = true then 1 else 0)) : post 1 := by rw [if_pos h] at hp; exact hp
theorem cz_f {b : Bool} {post : Int32 → Prop} (h : b = false) (hp : post (if b = true then 1 else 0)) : post 0 := by rw [h, if_neg (by decide)] at hp; exact hp
theorem cz_yes {x y : Int32} {post : Int32 → Prop} (hp : post (if decide (x = y) = true then 1 else 0)) : (x = y → post 1) ∧ (¬ x = y → post 0) := by
  by_cases z : x = y
  · rw [decide_eq_true z] at hp; exact br_t z hp
  · rw [decide_eq_false z] at hp; exact br_f z hp
theorem cz_yes2 {x y x' y' : Int32} {post : Int32 → Prop} (hp : post (if decide (x = y ∧ x' = y') = true then 1 else 0)) : (x = y → ((x' = y' → post 1) ∧ (¬ x' = y' → post 0))) ∧ (¬ x = y → post 0) := by
  by_cases z : x = y
  · refine br_t z ?_
    by_cases z' : x' = y'
    · rw [decide_eq_true ⟨z, z'⟩] at hp; exact br_t z' hp
    · rw [decide_eq_false (fun q => z' q.2)] at hp; exact br_f z' hp
  · rw [decide_eq_false (fun q => z q.1)] at hp; exact br_f z hp
theorem cz_content (hN : N ≤ 40) (hY : ∀ j i, j < N → i < gr_ar (op (240 + j)) → prt ((240 + j) * 3 + i) = nI (240 + yp j i) ∧ j < yp j i ∧ yp j i < N) (hY5 : ∀ j, j < N → op (240 + j) = 5 → ∃ x, x < 6 ∧ nm (240 + j) = nI x) (hop : ∀ j, j < N → ∃ t, t < 24 ∧ op (240 + j) = nI t) (hno : ∀ j, j < N → op (240 + j) ≠ 6 ∧ op (240 + j) ≠ 7 ∧ op (240 + j) ≠ 9) {k : Nat} {post : Int32 → Prop} (hk : k < N) (hp : post (if cn_ok (fun j => op (240 + j)) (fun j => nm (240 + j)) yrk yp k = true then 1 else 0)) : wpY_content post (ob, nI n, pl, nI (240 + N), sts, res, era, usd, sp, lv, ret, out, ycls, prp, lst, siz, dnd, tk, tv, opd, yrk, rn, op, nm, ay, prt, ylo, yhi, sN, sP, sX, sK, it, vr) (nI (240 + k)) := by
  have ck : (nI (240 + k)).toNatClampNeg = 240 + k := nI_clamp (by omega)
  have ik : vp_in (nI (240 + k)) 280 := vp_in_nI (by omega) (by decide)
  have e0 : nI (240 + k) * 3 = nI ((240 + k) * 3) := gr_mul (240 + k) 3 rfl
  have e1 : nI ((240 + k) * 3) + 1 = nI ((240 + k) * 3 + 1) := nI_1 _
  have e2 : nI ((240 + k) * 3) + 2 = nI ((240 + k) * 3 + 2) := nI_add _ 2
  obtain ⟨t, ht, eo⟩ := hop k hk
  have c : t = 0 ∨ t = 1 ∨ t = 2 ∨ t = 3 ∨ t = 4 ∨ t = 5 ∨ t = 6 ∨ t = 7 ∨ t = 8 ∨ t = 9 ∨ t = 10 ∨ t = 11 ∨ t = 12 ∨ t = 13 ∨ t = 14 ∨ t = 15 ∨ t = 16 ∨ t = 17 ∨ t = 18 ∨ t = 19 ∨ t = 20 ∨ t = 21 ∨ t = 22 ∨ t = 23 := by omega
  have kid : ∀ i, i < gr_ar (op (240 + k)) → yp k i < N ∧ prt ((240 + k) * 3 + i) = nI (240 + yp k i) := fun i hi => ⟨(hY k i hk hi).2.2, (hY k i hk hi).1⟩
  refine ⟨ik, nm_r (e' := nI t) (by rw [ck]; exact eo) ?_⟩
  rw [eo] at kid
  rcases c with rfl | rfl | rfl | rfl | rfl | rfl | rfl | rfl | rfl | rfl | rfl | rfl | rfl | rfl | rfl | rfl | rfl | rfl | rfl | rfl | rfl | rfl | rfl | rfl
  · rw [cn_ok_leaf (yo := (fun j => op (240 + j))) (k := k) (Or.inl eo)] at hp
    exact br_t rfl hp
  · rw [cn_ok_un (yo := (fun j => op (240 + j))) (k := k) (Or.inl eo)] at hp
    obtain ⟨a1, a2⟩ := kid 0 (by decide)
    refine br_f (by decide) (br_f (by decide) (br_f (by decide) (br_f (by decide) (⟨by rw [e0]; exact vp_in_nI (by omega) (by decide), ?_⟩))))
    rw [e0, nI_clamp (n := (240 + k) * 3) (by omega), show prt ((240 + k) * 3) = nI (240 + yp k 0) from a2]
    refine cz_kindOf hN hY hY5 a1 ?_
    exact br_t rfl (cz_yes hp)
  · rw [cn_ok_un (yo := (fun j => op (240 + j))) (k := k) (Or.inr (Or.inl eo))] at hp
    obtain ⟨a1, a2⟩ := kid 0 (by decide)
    refine br_f (by decide) (br_f (by decide) (br_f (by decide) (br_f (by decide) (⟨by rw [e0]; exact vp_in_nI (by omega) (by decide), ?_⟩))))
    rw [e0, nI_clamp (n := (240 + k) * 3) (by omega), show prt ((240 + k) * 3) = nI (240 + yp k 0) from a2]
    refine cz_kindOf hN hY hY5 a1 ?_
    exact br_f (by decide) (br_t rfl (cz_yes hp))
  · rw [cn_ok_leaf (yo := (fun j => op (240 + j))) (k := k) (Or.inr (Or.inl eo))] at hp
    exact br_f (by decide) (br_t rfl hp)
  · rw [cn_ok_leaf (yo := (fun j => op (240 + j))) (k := k) (Or.inr (Or.inr (Or.inl eo)))] at hp
    exact br_f (by decide) (br_f (by decide) (br_t rfl hp))
  · rw [cn_ok_un (yo := (fun j => op (240 + j))) (k := k) (Or.inr (Or.inr eo))] at hp
    obtain ⟨a1, a2⟩ := kid 0 (by decide)
    refine br_f (by decide) (br_f (by decide) (br_f (by decide) (br_f (by decide) (⟨by rw [e0]; exact vp_in_nI (by omega) (by decide), ?_⟩))))
    rw [e0, nI_clamp (n := (240 + k) * 3) (by omega), show prt ((240 + k) * 3) = nI (240 + yp k 0) from a2]
    refine cz_kindOf hN hY hY5 a1 ?_
    exact br_f (by decide) (br_f (by decide) (br_t rfl (cz_yes hp)))
  · exact absurd eo (hno k hk).1
  · exact absurd eo (hno k hk).2.1
  · rw [cn_ok_8 (yo := (fun j => op (240 + j))) (k := k) eo] at hp
    obtain ⟨a1, a2⟩ := kid 0 (by decide)
    refine br_f (by decide) (br_f (by decide) (br_f (by decide) (br_f (by decide) (⟨by rw [e0]; exact vp_in_nI (by omega) (by decide), ?_⟩))))
    rw [e0, nI_clamp (n := (240 + k) * 3) (by omega), show prt ((240 + k) * 3) = nI (240 + yp k 0) from a2]
    refine cz_kindOf hN hY hY5 a1 ?_
    obtain ⟨b1, b2⟩ := kid 1 (by decide)
    refine br_f (by decide) (br_f (by decide) (br_f (by decide) (br_f (by decide) (br_f (by decide) (⟨by rw [e1]; exact vp_in_nI (by omega) (by decide), ?_⟩)))))
    rw [e1, nI_clamp (n := (240 + k) * 3 + 1) (by omega), b2]
    refine cz_kindOf hN hY hY5 b1 ?_
    refine br_t (by decide) ?_
    refine br_t rfl ?_
    obtain ⟨c1, c2⟩ := kid 2 (by decide)
    have h2 := cz_yes2 (x := cn_k (fun j => op (240 + j)) (fun j => nm (240 + j)) yrk yp (yp k 0)) (y := 2) (x' := cn_k (fun j => op (240 + j)) (fun j => nm (240 + j)) yrk yp (yp k 1)) (y' := cn_k (fun j => op (240 + j)) (fun j => nm (240 + j)) yrk yp (yp k 2)) hp
    refine ⟨fun z => ⟨by rw [e2]; exact vp_in_nI (by omega) (by decide), ?_⟩, h2.2⟩
    rw [e2, nI_clamp (n := (240 + k) * 3 + 2) (by omega), c2]
    exact cz_kindOf hN hY hY5 c1 (h2.1 z)
  · exact absurd eo (hno k hk).2.2
  · rw [cn_ok_lo (yo := (fun j => op (240 + j))) (k := k) (Or.inl eo)] at hp
    obtain ⟨a1, a2⟩ := kid 0 (by decide)
    refine br_f (by decide) (br_f (by decide) (br_f (by decide) (br_f (by decide) (⟨by rw [e0]; exact vp_in_nI (by omega) (by decide), ?_⟩))))
    rw [e0, nI_clamp (n := (240 + k) * 3) (by omega), show prt ((240 + k) * 3) = nI (240 + yp k 0) from a2]
    refine cz_kindOf hN hY hY5 a1 ?_
    obtain ⟨b1, b2⟩ := kid 1 (by decide)
    refine br_f (by decide) (br_f (by decide) (br_f (by decide) (br_f (by decide) (br_f (by decide) (⟨by rw [e1]; exact vp_in_nI (by omega) (by decide), ?_⟩)))))
    rw [e1, nI_clamp (n := (240 + k) * 3 + 1) (by omega), b2]
    refine cz_kindOf hN hY hY5 b1 ?_
    refine br_t (by decide) ?_
    exact br_f (by decide) (br_f (by decide) (br_t rfl (cz_yes2 hp)))
  · rw [cn_ok_lo (yo := (fun j => op (240 + j))) (k := k) (Or.inr eo)] at hp
    obtain ⟨a1, a2⟩ := kid 0 (by decide)
    refine br_f (by decide) (br_f (by decide) (br_f (by decide) (br_f (by decide) (⟨by rw [e0]; exact vp_in_nI (by omega) (by decide), ?_⟩))))
    rw [e0, nI_clamp (n := (240 + k) * 3) (by omega), show prt ((240 + k) * 3) = nI (240 + yp k 0) from a2]
    refine cz_kindOf hN hY hY5 a1 ?_
    obtain ⟨b1, b2⟩ := kid 1 (by decide)
    refine br_f (by decide) (br_f (by decide) (br_f (by decide) (br_f (by decide) (br_f (by decide) (⟨by rw [e1]; exact vp_in_nI (by omega) (by decide), ?_⟩)))))
    rw [e1, nI_clamp (n := (240 + k) * 3 + 1) (by omega), b2]
    refine cz_kindOf hN hY hY5 b1 ?_
    refine br_t (by decide) ?_
    exact br_f (by decide) (br_f (by decide) (br_f (by decide) (br_t rfl (cz_yes2 hp))))
  · rw [cn_ok_12 (yo := (fun j => op (240 + j))) (k := k) eo] at hp
    obtain ⟨a1, a2⟩ := kid 0 (by decide)
    refine br_f (by decide) (br_f (by decide) (br_f (by decide) (br_f (by decide) (⟨by rw [e0]; exact vp_in_nI (by omega) (by decide), ?_⟩))))
    rw [e0, nI_clamp (n := (240 + k) * 3) (by omega), show prt ((240 + k) * 3) = nI (240 + yp k 0) from a2]
    refine cz_kindOf hN hY hY5 a1 ?_
    exact br_f (by decide) (br_f (by decide) (br_f (by decide) (br_f (by decide) (br_t rfl (cz_yes hp)))))
  · rw [cn_ok_13 (yo := (fun j => op (240 + j))) (k := k) eo] at hp
    obtain ⟨a1, a2⟩ := kid 0 (by decide)
    refine br_f (by decide) (br_f (by decide) (br_f (by decide) (br_f (by decide) (⟨by rw [e0]; exact vp_in_nI (by omega) (by decide), ?_⟩))))
    rw [e0, nI_clamp (n := (240 + k) * 3) (by omega), show prt ((240 + k) * 3) = nI (240 + yp k 0) from a2]
    refine cz_kindOf hN hY hY5 a1 ?_
    obtain ⟨b1, b2⟩ := kid 1 (by decide)
    refine br_f (by decide) (br_f (by decide) (br_f (by decide) (br_f (by decide) (br_f (by decide) (⟨by rw [e1]; exact vp_in_nI (by omega) (by decide), ?_⟩)))))
    rw [e1, nI_clamp (n := (240 + k) * 3 + 1) (by omega), b2]
    refine cz_kindOf hN hY hY5 b1 ?_
    refine br_t (by decide) ?_
    refine br_f (by decide) (br_t rfl ?_)
    by_cases z : cn_k (fun j => op (240 + j)) (fun j => nm (240 + j)) yrk yp (yp k 0) = cn_k (fun j => op (240 + j)) (fun j => nm (240 + j)) yrk yp (yp k 1)
    · refine br_t z ?_
      by_cases z4 : cn_k (fun j => op (240 + j)) (fun j => nm (240 + j)) yrk yp (yp k 0) = 4
      · exact br_t z4 (cz_f (decide_eq_false (fun q => q.2 z4)) hp)
      · exact br_f z4 (cz_t (decide_eq_true ⟨z, z4⟩) hp)
    · exact br_f z (cz_f (decide_eq_false (fun q => z q.1)) hp)
  · rw [cn_ok_ar (yo := (fun j => op (240 + j))) (k := k) (Or.inl eo)] at hp
    obtain ⟨a1, a2⟩ := kid 0 (by decide)
    refine br_f (by decide) (br_f (by decide) (br_f (by decide) (br_f (by decide) (⟨by rw [e0]; exact vp_in_nI (by omega) (by decide), ?_⟩))))
    rw [e0, nI_clamp (n := (240 + k) * 3) (by omega), show prt ((240 + k) * 3) = nI (240 + yp k 0) from a2]
    refine cz_kindOf hN hY hY5 a1 ?_
    obtain ⟨b1, b2⟩ := kid 1 (by decide)
    refine br_f (by decide) (br_f (by decide) (br_f (by decide) (br_f (by decide) (br_f (by decide) (⟨by rw [e1]; exact vp_in_nI (by omega) (by decide), ?_⟩)))))
    rw [e1, nI_clamp (n := (240 + k) * 3 + 1) (by omega), b2]
    refine cz_kindOf hN hY hY5 b1 ?_
    refine br_t (by decide) ?_
    exact br_f (by decide) (br_f (by decide) (br_f (by decide) (br_f (by decide) (cz_yes2 hp))))
  · rw [cn_ok_ar (yo := (fun j => op (240 + j))) (k := k) (Or.inr (Or.inl eo))] at hp
    obtain ⟨a1, a2⟩ := kid 0 (by decide)
    refine br_f (by decide) (br_f (by decide) (br_f (by decide) (br_f (by decide) (⟨by rw [e0]; exact vp_in_nI (by omega) (by decide), ?_⟩))))
    rw [e0, nI_clamp (n := (240 + k) * 3) (by omega), show prt ((240 + k) * 3) = nI (240 + yp k 0) from a2]
    refine cz_kindOf hN hY hY5 a1 ?_
    obtain ⟨b1, b2⟩ := kid 1 (by decide)
    refine br_f (by decide) (br_f (by decide) (br_f (by decide) (br_f (by decide) (br_f (by decide) (⟨by rw [e1]; exact vp_in_nI (by omega) (by decide), ?_⟩)))))
    rw [e1, nI_clamp (n := (240 + k) * 3 + 1) (by omega), b2]
    refine cz_kindOf hN hY hY5 b1 ?_
    refine br_t (by decide) ?_
    exact br_f (by decide) (br_f (by decide) (br_f (by decide) (br_f (by decide) (cz_yes2 hp))))
  · rw [cn_ok_ar (yo := (fun j => op (240 + j))) (k := k) (Or.inr (Or.inr (Or.inl eo)))] at hp
    obtain ⟨a1, a2⟩ := kid 0 (by decide)
    refine br_f (by decide) (br_f (by decide) (br_f (by decide) (br_f (by decide) (⟨by rw [e0]; exact vp_in_nI (by omega) (by decide), ?_⟩))))
    rw [e0, nI_clamp (n := (240 + k) * 3) (by omega), show prt ((240 + k) * 3) = nI (240 + yp k 0) from a2]
    refine cz_kindOf hN hY hY5 a1 ?_
    obtain ⟨b1, b2⟩ := kid 1 (by decide)
    refine br_f (by decide) (br_f (by decide) (br_f (by decide) (br_f (by decide) (br_f (by decide) (⟨by rw [e1]; exact vp_in_nI (by omega) (by decide), ?_⟩)))))
    rw [e1, nI_clamp (n := (240 + k) * 3 + 1) (by omega), b2]
    refine cz_kindOf hN hY hY5 b1 ?_
    refine br_t (by decide) ?_
    exact br_f (by decide) (br_f (by decide) (br_f (by decide) (br_f (by decide) (cz_yes2 hp))))
  · rw [cn_ok_ar (yo := (fun j => op (240 + j))) (k := k) (Or.inr (Or.inr (Or.inr (Or.inl eo))))] at hp
    obtain ⟨a1, a2⟩ := kid 0 (by decide)
    refine br_f (by decide) (br_f (by decide) (br_f (by decide) (br_f (by decide) (⟨by rw [e0]; exact vp_in_nI (by omega) (by decide), ?_⟩))))
    rw [e0, nI_clamp (n := (240 + k) * 3) (by omega), show prt ((240 + k) * 3) = nI (240 + yp k 0) from a2]
    refine cz_kindOf hN hY hY5 a1 ?_
    obtain ⟨b1, b2⟩ := kid 1 (by decide)
    refine br_f (by decide) (br_f (by decide) (br_f (by decide) (br_f (by decide) (br_f (by decide) (⟨by rw [e1]; exact vp_in_nI (by omega) (by decide), ?_⟩)))))
    rw [e1, nI_clamp (n := (240 + k) * 3 + 1) (by omega), b2]
    refine cz_kindOf hN hY hY5 b1 ?_
    refine br_t (by decide) ?_
    exact br_f (by decide) (br_f (by decide) (br_f (by decide) (br_f (by decide) (cz_yes2 hp))))
  · rw [cn_ok_ar (yo := (fun j => op (240 + j))) (k := k) (Or.inr (Or.inr (Or.inr (Or.inr eo))))] at hp
    obtain ⟨a1, a2⟩ := kid 0 (by decide)
    refine br_f (by decide) (br_f (by decide) (br_f (by decide) (br_f (by decide) (⟨by rw [e0]; exact vp_in_nI (by omega) (by decide), ?_⟩))))
    rw [e0, nI_clamp (n := (240 + k) * 3) (by omega), show prt ((240 + k) * 3) = nI (240 + yp k 0) from a2]
    refine cz_kindOf hN hY hY5 a1 ?_
    obtain ⟨b1, b2⟩ := kid 1 (by decide)
    refine br_f (by decide) (br_f (by decide) (br_f (by decide) (br_f (by decide) (br_f (by decide) (⟨by rw [e1]; exact vp_in_nI (by omega) (by decide), ?_⟩)))))
    rw [e1, nI_clamp (n := (240 + k) * 3 + 1) (by omega), b2]
    refine cz_kindOf hN hY hY5 b1 ?_
    refine br_t (by decide) ?_
    exact br_f (by decide) (br_f (by decide) (br_f (by decide) (br_f (by decide) (cz_yes2 hp))))
  · rw [cn_ok_leaf (yo := (fun j => op (240 + j))) (k := k) (Or.inr (Or.inr (Or.inr eo)))] at hp
    exact br_f (by decide) (br_f (by decide) (br_f (by decide) (br_t rfl hp)))
  · rw [cn_ok_qn (yo := (fun j => op (240 + j))) (k := k) (Or.inl eo)] at hp
    obtain ⟨a1, a2⟩ := kid 0 (by decide)
    refine br_f (by decide) (br_f (by decide) (br_f (by decide) (br_f (by decide) (⟨by rw [e0]; exact vp_in_nI (by omega) (by decide), ?_⟩))))
    rw [e0, nI_clamp (n := (240 + k) * 3) (by omega), show prt ((240 + k) * 3) = nI (240 + yp k 0) from a2]
    refine cz_kindOf hN hY hY5 a1 ?_
    obtain ⟨b1, b2⟩ := kid 1 (by decide)
    refine br_f (by decide) (br_f (by decide) (br_f (by decide) (br_f (by decide) (br_f (by decide) (⟨by rw [e1]; exact vp_in_nI (by omega) (by decide), ?_⟩)))))
    rw [e1, nI_clamp (n := (240 + k) * 3 + 1) (by omega), b2]
    refine cz_kindOf hN hY hY5 b1 ?_
    refine br_f (by decide) ?_
    have e22 : (if (fun j => op (240 + j)) k = 22 then (1 : Int32) else 2) = 2 := by show (if op (240 + k) = 22 then (1 : Int32) else 2) = 2; rw [eo]; rfl
    have h2 := cz_yes2 (x := cn_k (fun j => op (240 + j)) (fun j => nm (240 + j)) yrk yp (yp k 0)) (y := 4) (x' := cn_k (fun j => op (240 + j)) (fun j => nm (240 + j)) yrk yp (yp k 1)) hp
    rw [e22] at h2
    exact ⟨fun z => br_f (by decide) (h2.1 z), fun z => h2.2 z⟩
  · rw [cn_ok_qn (yo := (fun j => op (240 + j))) (k := k) (Or.inr (Or.inl eo))] at hp
    obtain ⟨a1, a2⟩ := kid 0 (by decide)
    refine br_f (by decide) (br_f (by decide) (br_f (by decide) (br_f (by decide) (⟨by rw [e0]; exact vp_in_nI (by omega) (by decide), ?_⟩))))
    rw [e0, nI_clamp (n := (240 + k) * 3) (by omega), show prt ((240 + k) * 3) = nI (240 + yp k 0) from a2]
    refine cz_kindOf hN hY hY5 a1 ?_
    obtain ⟨b1, b2⟩ := kid 1 (by decide)
    refine br_f (by decide) (br_f (by decide) (br_f (by decide) (br_f (by decide) (br_f (by decide) (⟨by rw [e1]; exact vp_in_nI (by omega) (by decide), ?_⟩)))))
    rw [e1, nI_clamp (n := (240 + k) * 3 + 1) (by omega), b2]
    refine cz_kindOf hN hY hY5 b1 ?_
    refine br_f (by decide) ?_
    have e22 : (if (fun j => op (240 + j)) k = 22 then (1 : Int32) else 2) = 2 := by show (if op (240 + k) = 22 then (1 : Int32) else 2) = 2; rw [eo]; rfl
    have h2 := cz_yes2 (x := cn_k (fun j => op (240 + j)) (fun j => nm (240 + j)) yrk yp (yp k 0)) (y := 4) (x' := cn_k (fun j => op (240 + j)) (fun j => nm (240 + j)) yrk yp (yp k 1)) hp
    rw [e22] at h2
    exact ⟨fun z => br_f (by decide) (h2.1 z), fun z => h2.2 z⟩
  · rw [cn_ok_qn (yo := (fun j => op (240 + j))) (k := k) (Or.inr (Or.inr eo))] at hp
    obtain ⟨a1, a2⟩ := kid 0 (by decide)
    refine br_f (by decide) (br_f (by decide) (br_f (by decide) (br_f (by decide) (⟨by rw [e0]; exact vp_in_nI (by omega) (by decide), ?_⟩))))
    rw [e0, nI_clamp (n := (240 + k) * 3) (by omega), show prt ((240 + k) * 3) = nI (240 + yp k 0) from a2]
    refine cz_kindOf hN hY hY5 a1 ?_
    obtain ⟨b1, b2⟩ := kid 1 (by decide)
    refine br_f (by decide) (br_f (by decide) (br_f (by decide) (br_f (by decide) (br_f (by decide) (⟨by rw [e1]; exact vp_in_nI (by omega) (by decide), ?_⟩)))))
    rw [e1, nI_clamp (n := (240 + k) * 3 + 1) (by omega), b2]
    refine cz_kindOf hN hY hY5 b1 ?_
    refine br_f (by decide) ?_
    have e22 : (if (fun j => op (240 + j)) k = 22 then (1 : Int32) else 2) = 1 := by show (if op (240 + k) = 22 then (1 : Int32) else 2) = 1; rw [eo]; rfl
    have h2 := cz_yes2 (x := cn_k (fun j => op (240 + j)) (fun j => nm (240 + j)) yrk yp (yp k 0)) (y := 4) (x' := cn_k (fun j => op (240 + j)) (fun j => nm (240 + j)) yrk yp (yp k 1)) hp
    rw [e22] at h2
    exact ⟨fun z => br_t rfl (h2.1 z), fun z => h2.2 z⟩
  · rw [cn_ok_23 (yo := (fun j => op (240 + j))) (k := k) eo] at hp
    obtain ⟨a1, a2⟩ := kid 0 (by decide)
    refine br_f (by decide) (br_f (by decide) (br_f (by decide) (br_f (by decide) (⟨by rw [e0]; exact vp_in_nI (by omega) (by decide), ?_⟩))))
    rw [e0, nI_clamp (n := (240 + k) * 3) (by omega), show prt ((240 + k) * 3) = nI (240 + yp k 0) from a2]
    refine cz_kindOf hN hY hY5 a1 ?_
    exact br_f (by decide) (br_f (by decide) (br_f (by decide) (br_t rfl (cz_yes hp))))
end
end
section
section
variable {ob pl sts res era usd sp lv ret out : Int32} {ycls prp lst siz dnd opd yrk rn op nm ay prt ylo yhi sN sP sX sK it vr tk tv : Nat → Int32} {n N : Nat} {yp : Nat → Nat → Nat}
def cz_enc (m : Nat) : Int32 := if m < 100 then nI m else -1
theorem cz_clash (hN : N ≤ 40) (hY : ∀ j i, j < N → i < gr_ar (op (240 + j)) → prt ((240 + j) * 3 + i) = nI (240 + yp j i) ∧ j < yp j i ∧ yp j i < N) (hY5 : ∀ j, j < N → op (240 + j) = 5 → ∃ x, x < 6 ∧ nm (240 + j) = nI x) (hop : ∀ j, j < N → ∃ t, t < 24 ∧ op (240 + j) = nI t) (hno : ∀ j, j < N → op (240 + j) ≠ 6 ∧ op (240 + j) ≠ 7 ∧ op (240 + j) ≠ 9) (ha : ∀ j, j < N → ∃ p, p < n ∧ ay (240 + j) = nI p) (hn : n ≤ 40) (h0 : 0 < N) {kind : Int32} {post : Int32 → Prop} (hp : post (cz_enc (min (if cn_k (fun j => op (240 + j)) (fun j => nm (240 + j)) yrk yp 0 = kind then 100 else n) (cz_ms (cn_s (fun j => op (240 + j)) (fun j => nm (240 + j)) (fun j => ay (240 + j)) yrk yp) N)))) : wpY_clash post (ob, nI n, pl, nI (240 + N), sts, res, era, usd, sp, lv, ret, out, ycls, prp, lst, siz, dnd, tk, tv, opd, yrk, rn, op, nm, ay, prt, ylo, yhi, sN, sP, sX, sK, it, vr) kind := by
  have loop : ∀ (I : Nat), (I = 100 ∨ I = n) → post (cz_enc (min I (cz_ms (cn_s (fun j => op (240 + j)) (fun j => nm (240 + j)) (fun j => ay (240 + j)) yrk yp) N))) → ∀ (d k : Nat), k + d = N → wY_clash_24 post ob (nI n) pl (nI (240 + N)) sts res era usd sp lv ret out ycls prp lst siz dnd (tk) (tv) opd yrk rn op nm ay prt ylo yhi sN sP sX sK it vr (d + 1) (cz_enc (min I (cz_ms (cn_s (fun j => op (240 + j)) (fun j => nm (240 + j)) (fun j => ay (240 + j)) yrk yp) k))) (nI (240 + k)) := by
    intro I hI hpost d
    induction d with
    | zero =>
      intro k hk
      have : k = N := by omega
      subst this
      exact br_t (nI_le (Nat.le_refl _) (by omega)) hpost
    | succ d ih =>
      intro k hk
      have hkN : k < N := by omega
      obtain ⟨p, hpn, ep⟩ := ha k hkN
      have ck : ay (nI (240 + k)).toNatClampNeg = nI p := by rw [nI_clamp (by omega)]; exact ep
      have ik : vp_in (nI (240 + k)) 280 := vp_in_nI (by omega) (by decide)
      have IH := ih (k + 1) (by omega)
      refine br_f (nI_ge (by omega) (by omega)) (cz_content hN hY hY5 hop hno hkN ?_)
      have m100 := cz_ms_100 (cn_s (fun j => op (240 + j)) (fun j => nm (240 + j)) (fun j => ay (240 + j)) yrk yp) k
      have ms1 : cz_ms (cn_s (fun j => op (240 + j)) (fun j => nm (240 + j)) (fun j => ay (240 + j)) yrk yp) (k + 1) = min (cz_ms (cn_s (fun j => op (240 + j)) (fun j => nm (240 + j)) (fun j => ay (240 + j)) yrk yp) k) (cn_s (fun j => op (240 + j)) (fun j => nm (240 + j)) (fun j => ay (240 + j)) yrk yp k) := rfl
      have nx : nI (240 + k) + 1 = nI (240 + (k + 1)) := nI_1 _
      cases hc : cn_ok (fun j => op (240 + j)) (fun j => nm (240 + j)) yrk yp k with
      | true =>
        have s100 : cn_s (fun j => op (240 + j)) (fun j => nm (240 + j)) (fun j => ay (240 + j)) yrk yp k = 100 := by unfold cn_s; rw [hc]; rfl
        rw [ms1, s100, Nat.min_eq_left m100] at IH
        exact br_f (by decide) (nm_r nx IH)
      | false =>
        have sp : cn_s (fun j => op (240 + j)) (fun j => nm (240 + j)) (fun j => ay (240 + j)) yrk yp k = p := by
          unfold cn_s
          rw [hc, if_neg (by decide)]
          show (ay (240 + k)).toNatClampNeg = p
          rw [ep, nI_clamp (by omega)]
        rw [ms1, sp] at IH
        refine br_t rfl ?_
        unfold cz_enc at IH ⊢
        by_cases z : min I (cz_ms (cn_s (fun j => op (240 + j)) (fun j => nm (240 + j)) (fun j => ay (240 + j)) yrk yp) k) < 100
        · rw [if_pos z]
          refine br_f (nI_pos (by omega)) ⟨ik, ?_⟩
          rw [ck]
          by_cases y : min I (cz_ms (cn_s (fun j => op (240 + j)) (fun j => nm (240 + j)) (fun j => ay (240 + j)) yrk yp) k) ≤ p
          · rw [show min I (min (cz_ms (cn_s (fun j => op (240 + j)) (fun j => nm (240 + j)) (fun j => ay (240 + j)) yrk yp) k) p) = min I (cz_ms (cn_s (fun j => op (240 + j)) (fun j => nm (240 + j)) (fun j => ay (240 + j)) yrk yp) k) by omega, if_pos z] at IH
            exact br_t (nI_le y (by omega)) (nm_r nx IH)
          · rw [show min I (min (cz_ms (cn_s (fun j => op (240 + j)) (fun j => nm (240 + j)) (fun j => ay (240 + j)) yrk yp) k) p) = p by omega, if_pos (by omega)] at IH
            exact br_f (nI_ge (by omega) (by omega)) ⟨ik, nm_e (nm_r nx IH)⟩
        · rw [if_neg z]
          rw [show min I (min (cz_ms (cn_s (fun j => op (240 + j)) (fun j => nm (240 + j)) (fun j => ay (240 + j)) yrk yp) k) p) = p by omega, if_pos (by omega)] at IH
          exact br_t (by decide) ⟨ik, nm_r (e' := nI p) ck (nm_r nx IH)⟩
  refine cz_kindOf (k := 0) hN hY hY5 h0 ?_
  by_cases z : cn_k (fun j => op (240 + j)) (fun j => nm (240 + j)) yrk yp 0 = kind
  · rw [if_pos z] at hp
    exact br_t z ⟨N + 1, loop 100 (Or.inl rfl) hp N 0 (by omega)⟩
  · rw [if_neg z] at hp
    have L := loop n (Or.inr rfl) hp N 0 (by omega)
    have e : cz_enc (min n (cz_ms (cn_s (fun j => op (240 + j)) (fun j => nm (240 + j)) (fun j => ay (240 + j)) yrk yp) 0)) = nI n := by
      show cz_enc (min n 100) = nI n
      unfold cz_enc
      rw [if_pos (by omega), Nat.min_eq_left (by omega)]
    rw [e] at L
    exact br_f z ⟨N + 1, L⟩
end
section
variable {oc cp lc sc kc dp vc er ep uu : Int32} {cls num lnk lsz lit fb rl ro ra rt rp oo co sk kd fr fn fi vs ll li lt : Nat → Int32} {ob pl nds sts res era usd sp lv ret out : Int32} {ycls prp lst siz dnd opd rn op nm ay prt ylo yhi sN sP sX sK it vr tk tv rk : Nat → Int32} {n : Nat} {T : Nat → Nat}
theorem cu_both (hn : n ≤ 40) (hK : ∀ i, i < n → tk i = nI (T i) ∧ T i < 23) (hT6 : ∀ i, i < n → T i = 1 ∨ T i = 2 ∨ T i = 5 → ∃ x, x < 6 ∧ tv i = nI x) (x1 x2 : Int32) : ((∀ i, i < n → T i = 5 → tv i = x1 ∨ ¬ rk (tv i).toNatClampNeg = 0) ∧ (∀ post : Int32 → Prop, post (-1) → wpX_unknownPlace post (oc, nI n, cp, lc, sc, kc, dp, vc, er, ep, uu, cls, num, lnk, lsz, lit, fb, tk, tv, rk, rl, ro, ra, rt, rp, oo, co, sk, kd, fr, fn, fi, vs, ll, li, lt) x1) ∧ (∀ post : Int32 → SY → Prop, wY_compile_56 post x1 x2 ob (nI n) pl nds sts res era usd sp lv ret out ycls prp lst siz dnd (tk) (tv) opd (rk) rn op nm ay prt ylo yhi sN sP sX sK it vr 1 (nI n) → ∃ m, wY_compile_56 post x1 x2 ob (nI n) pl nds sts res era usd sp lv ret out ycls prp lst siz dnd (tk) (tv) opd (rk) rn op nm ay prt ylo yhi sN sP sX sK it vr m 0)) ∨ (∃ j, j < n ∧ (∀ post : Int32 → Prop, post (nI j) → wpX_unknownPlace post (oc, nI n, cp, lc, sc, kc, dp, vc, er, ep, uu, cls, num, lnk, lsz, lit, fb, tk, tv, rk, rl, ro, ra, rt, rp, oo, co, sk, kd, fr, fn, fi, vs, ll, li, lt) x1) ∧ (∀ post : Int32 → SY → Prop, post 4 (ob, nI n, nI j, nds, sts, res, era, usd, sp, lv, ret, out, ycls, prp, lst, siz, dnd, tk, tv, opd, rk, rn, op, nm, ay, prt, ylo, yhi, sN, sP, sX, sK, it, vr) → ∃ m, wY_compile_56 post x1 x2 ob (nI n) pl nds sts res era usd sp lv ret out ycls prp lst siz dnd (tk) (tv) opd (rk) rn op nm ay prt ylo yhi sN sP sX sK it vr m 0)) := by
  have loop : ∀ (d i : Nat), i + d = n → ((∀ j, i ≤ j → j < n → T j = 5 → tv j = x1 ∨ ¬ rk (tv j).toNatClampNeg = 0) ∧ (∀ post : Int32 → Prop, post (-1) → wX_unknownPlace_2 post x1 oc (nI n) cp lc sc kc dp vc er ep uu cls num lnk lsz lit fb tk tv rk rl ro ra rt rp oo co sk kd fr fn fi vs ll li lt (d + 1) (nI i)) ∧ (∀ post : Int32 → SY → Prop, wY_compile_56 post x1 x2 ob (nI n) pl nds sts res era usd sp lv ret out ycls prp lst siz dnd (tk) (tv) opd (rk) rn op nm ay prt ylo yhi sN sP sX sK it vr 1 (nI n) → wY_compile_56 post x1 x2 ob (nI n) pl nds sts res era usd sp lv ret out ycls prp lst siz dnd (tk) (tv) opd (rk) rn op nm ay prt ylo yhi sN sP sX sK it vr (d + 1) (nI i))) ∨ (∃ j, j < n ∧ (∀ post : Int32 → Prop, post (nI j) → wX_unknownPlace_2 post x1 oc (nI n) cp lc sc kc dp vc er ep uu cls num lnk lsz lit fb tk tv rk rl ro ra rt rp oo co sk kd fr fn fi vs ll li lt (d + 1) (nI i)) ∧ (∀ post : Int32 → SY → Prop, post 4 (ob, nI n, nI j, nds, sts, res, era, usd, sp, lv, ret, out, ycls, prp, lst, siz, dnd, tk, tv, opd, rk, rn, op, nm, ay, prt, ylo, yhi, sN, sP, sX, sK, it, vr) → wY_compile_56 post x1 x2 ob (nI n) pl nds sts res era usd sp lv ret out ycls prp lst siz dnd (tk) (tv) opd (rk) rn op nm ay prt ylo yhi sN sP sX sK it vr (d + 1) (nI i))) := by
    intro d
    induction d with
    | zero =>
      intro i hi
      have : i = n := by omega
      subst this
      exact Or.inl ⟨fun j a b => absurd a (by omega), fun post hp => br_t (nI_le (Nat.le_refl _) (by omega)) hp, fun post hp => hp⟩
    | succ d ih =>
      intro i hi
      have hin : i < n := by omega
      have ci : (nI i).toNatClampNeg = i := nI_clamp (by omega)
      have ck : tk (nI i).toNatClampNeg = nI (T i) := by rw [ci]; exact (hK i hin).1
      have cv : tv (nI i).toNatClampNeg = tv i := by rw [ci]
      have ii : vp_in (nI i) 40 := vp_in_nI (by omega) (by decide)
      have n0 : ¬ nI n ≤ nI i := nI_ge hin (by omega)
      have hT := (hK i hin).2
      -- both go on
      have go : ((∀ post : Int32 → Prop, wX_unknownPlace_2 post x1 oc (nI n) cp lc sc kc dp vc er ep uu cls num lnk lsz lit fb tk tv rk rl ro ra rt rp oo co sk kd fr fn fi vs ll li lt (d + 1) (nI (i + 1)) → wX_unknownPlace_2 post x1 oc (nI n) cp lc sc kc dp vc er ep uu cls num lnk lsz lit fb tk tv rk rl ro ra rt rp oo co sk kd fr fn fi vs ll li lt (d + 1 + 1) (nI i)) ∧ (∀ post : Int32 → SY → Prop, wY_compile_56 post x1 x2 ob (nI n) pl nds sts res era usd sp lv ret out ycls prp lst siz dnd (tk) (tv) opd (rk) rn op nm ay prt ylo yhi sN sP sX sK it vr (d + 1) (nI (i + 1)) → wY_compile_56 post x1 x2 ob (nI n) pl nds sts res era usd sp lv ret out ycls prp lst siz dnd (tk) (tv) opd (rk) rn op nm ay prt ylo yhi sN sP sX sK it vr (d + 1 + 1) (nI i)) ∧ (T i = 5 → tv i = x1 ∨ ¬ rk (tv i).toNatClampNeg = 0)) → ((∀ j, i ≤ j → j < n → T j = 5 → tv j = x1 ∨ ¬ rk (tv j).toNatClampNeg = 0) ∧ (∀ post : Int32 → Prop, post (-1) → wX_unknownPlace_2 post x1 oc (nI n) cp lc sc kc dp vc er ep uu cls num lnk lsz lit fb tk tv rk rl ro ra rt rp oo co sk kd fr fn fi vs ll li lt (d + 1 + 1) (nI i)) ∧ (∀ post : Int32 → SY → Prop, wY_compile_56 post x1 x2 ob (nI n) pl nds sts res era usd sp lv ret out ycls prp lst siz dnd (tk) (tv) opd (rk) rn op nm ay prt ylo yhi sN sP sX sK it vr 1 (nI n) → wY_compile_56 post x1 x2 ob (nI n) pl nds sts res era usd sp lv ret out ycls prp lst siz dnd (tk) (tv) opd (rk) rn op nm ay prt ylo yhi sN sP sX sK it vr (d + 1 + 1) (nI i))) ∨ (∃ j, j < n ∧ (∀ post : Int32 → Prop, post (nI j) → wX_unknownPlace_2 post x1 oc (nI n) cp lc sc kc dp vc er ep uu cls num lnk lsz lit fb tk tv rk rl ro ra rt rp oo co sk kd fr fn fi vs ll li lt (d + 1 + 1) (nI i)) ∧ (∀ post : Int32 → SY → Prop, post 4 (ob, nI n, nI j, nds, sts, res, era, usd, sp, lv, ret, out, ycls, prp, lst, siz, dnd, tk, tv, opd, rk, rn, op, nm, ay, prt, ylo, yhi, sN, sP, sX, sK, it, vr) → wY_compile_56 post x1 x2 ob (nI n) pl nds sts res era usd sp lv ret out ycls prp lst siz dnd (tk) (tv) opd (rk) rn op nm ay prt ylo yhi sN sP sX sK it vr (d + 1 + 1) (nI i))) := by
        rintro ⟨gX, gY, gT⟩
        rcases ih (i + 1) (by omega) with ⟨a1, a2, a3⟩ | ⟨j, a1, a2, a3⟩
        · refine Or.inl ⟨fun j h1 h2 h3 => ?_, fun post hp => gX post (a2 post hp), fun post hp => gY post (a3 post hp)⟩
          by_cases z : j = i
          · subst z; exact gT h3
          · exact a1 j (by omega) h2 h3
        · exact Or.inr ⟨j, a1, fun post hp => gX post (a2 post hp), fun post hp => gY post (a3 post hp)⟩
      by_cases t5 : T i = 5
      · have q5 : tk (nI i).toNatClampNeg = 5 := by rw [ck, t5]; rfl
        obtain ⟨x, hx, ex⟩ := hT6 i hin (by omega)
        by_cases zr : tv i = x1
        · exact go ⟨fun post h => br_f n0 ⟨ii, nm_r (e' := tv i) cv ⟨ii, br_t q5 (br_t zr (nm_r (nI_1 i) h))⟩⟩, fun post h => br_f n0 ⟨ii, br_t q5 ⟨ii, br_t (cv.trans zr) (nm_r (nI_1 i) h)⟩⟩, fun _ => Or.inl zr⟩
        · have cx : (tv i).toNatClampNeg = x := by rw [ex, nI_clamp (by omega)]
          have zr' : ¬ tv (nI i).toNatClampNeg = x1 := by rw [cv]; exact zr
          have i6 : vp_in (tv (nI i).toNatClampNeg) 6 := by rw [cv, ex]; exact vp_in_nI hx (by decide)
          by_cases z0 : rk x = 0
          · refine Or.inr ⟨i, hin, fun post hp => br_f n0 ⟨ii, nm_r (e' := nI x) (cv.trans ex) ⟨ii, br_t q5 (br_f (by rw [← ex]; exact zr) (br_f (nI_pos (by omega)) (br_f (nI_ge (b := 6) hx (by decide)) ⟨vp_in_nI (by omega) (by decide), br_t (by rw [nI_clamp (by omega)]; exact z0) (br_t rfl hp)⟩)))⟩⟩, fun post hp => br_f n0 ⟨ii, br_t q5 ⟨ii, br_f zr' ⟨ii, i6, br_t (by rw [cv, cx]; exact z0) hp⟩⟩⟩⟩
          · exact go ⟨fun post h => br_f n0 ⟨ii, nm_r (e' := nI x) (cv.trans ex) ⟨ii, br_t q5 (br_f (by rw [← ex]; exact zr) (br_f (nI_pos (by omega)) (br_f (nI_ge (b := 6) hx (by decide)) ⟨vp_in_nI (by omega) (by decide), br_f (by rw [nI_clamp (by omega)]; exact z0) (br_f (by decide) (nm_r (nI_1 i) h))⟩)))⟩⟩, fun post h => br_f n0 ⟨ii, br_t q5 ⟨ii, br_f zr' ⟨ii, i6, br_f (by rw [cv, cx]; exact z0) (nm_r (nI_1 i) h)⟩⟩⟩, fun _ => Or.inr (by rw [cx]; exact z0)⟩
      · have q5 : ¬ tk (nI i).toNatClampNeg = 5 := fun z => t5 ((nI_eq (b := 5) (by omega) (by decide)).1 (ck.symm.trans z))
        exact go ⟨fun post h => br_f n0 ⟨ii, nm_e ⟨ii, br_f q5 (nm_r (nI_1 i) h)⟩⟩, fun post h => br_f n0 ⟨ii, br_f q5 (nm_r (nI_1 i) h)⟩, fun z => absurd z t5⟩
  rcases loop n 0 (by omega) with ⟨a1, a2, a3⟩ | ⟨j, a1, a2, a3⟩
  · exact Or.inl ⟨fun i hi => a1 i (by omega) hi, fun post hp => ⟨n + 1, a2 post hp⟩, fun post hp => ⟨n + 1, a3 post hp⟩⟩
  · exact Or.inr ⟨j, a1, fun post hp => ⟨n + 1, a2 post hp⟩, fun post hp => ⟨n + 1, a3 post hp⟩⟩
/-- rule q calls rule r, as the Java side sees it -/
def cf_C (rl ro ra : Nat → Int32) (q r : Nat) : Prop := ∃ c len, rl q = nI len ∧ len ≤ 40 ∧ c < len ∧ ro (q * 40 + c) = 5 ∧ ra (q * 40 + c) = nI r
theorem cf_calls {tc' : Int32} {q r len : Nat} {post : Int32 → Prop} (hq : q < 6) (hl : rl q = nI len) (h40 : len ≤ 40) (h1 : cf_C rl ro ra q r → post 1) (h0 : ¬ cf_C rl ro ra q r → post 0) : wpX_callsRule post (oc, tc', cp, lc, sc, kc, dp, vc, er, ep, uu, cls, num, lnk, lsz, lit, fb, tk, tv, rk, rl, ro, ra, rt, rp, oo, co, sk, kd, fr, fn, fi, vs, ll, li, lt) (nI q) (nI r) := by
  have loop : ∀ (d c : Nat), c + d = len → (∀ j, j < c → ¬ (ro (q * 40 + j) = 5 ∧ ra (q * 40 + j) = nI r)) → wX_callsRule_8 post (nI q) (nI r) (nI (q * 40)) oc (tc') cp lc sc kc dp vc er ep uu cls num lnk lsz lit fb tk tv rk rl ro ra rt rp oo co sk kd fr fn fi vs ll li lt (d + 1) (nI c) := by
    intro d
    induction d with
    | zero =>
      intro c hc hno
      refine ⟨vp_in_nI (by omega) (by decide), br_t (by rw [nI_clamp (by omega), hl]; exact nI_le (by omega) (by omega)) (h0 ?_)⟩
      rintro ⟨j, len', g1, g2, g3, g4, g5⟩
      have : len' = len := (nI_eq (by omega) (by omega)).1 (g1.symm.trans hl)
      exact hno j (by omega) ⟨g4, g5⟩
    | succ d ih =>
      intro c hc hno
      have e : nI (q * 40) + nI c = nI (q * 40 + c) := nI_add _ _
      have ce : (nI (q * 40) + nI c).toNatClampNeg = q * 40 + c := by rw [e, nI_clamp (by omega)]
      have ie : vp_in (nI (q * 40) + nI c) 280 := by rw [e]; exact vp_in_nI (by omega) (by decide)
      have nx : ¬ (ro (q * 40 + c) = 5 ∧ ra (q * 40 + c) = nI r) → ∀ y, y = nI c + 1 → wX_callsRule_8 post (nI q) (nI r) (nI (q * 40)) oc (tc') cp lc sc kc dp vc er ep uu cls num lnk lsz lit fb tk tv rk rl ro ra rt rp oo co sk kd fr fn fi vs ll li lt (d + 1) y := by
        intro h y hy
        rw [hy, nI_1]
        refine ih (c + 1) (by omega) (fun j hj => ?_)
        by_cases z : j = c
        · subst z; exact h
        · exact hno j (by omega)
      refine ⟨vp_in_nI (by omega) (by decide), br_f (by rw [nI_clamp (by omega), hl]; exact nI_ge (by omega) (by omega)) ⟨ie, ?_⟩⟩
      rw [ce]
      by_cases z5 : ro (q * 40 + c) = 5
      · refine br_t z5 ⟨ie, ?_⟩
        by_cases zr : ra (q * 40 + c) = nI r
        · exact br_t zr (h1 ⟨c, len, hl, h40, by omega, z5, zr⟩)
        · exact br_f zr (nx (fun h => zr h.2))
      · exact br_f z5 (nx (fun h => z5 h.1))
  exact nm_r (e' := nI (q * 40)) (gr_mul q 40 rfl) ⟨_, loop len 0 (by omega) (fun j hj => absurd hj (by omega))⟩
theorem cf_xcalled {tc' : Int32} {r : Nat} {post : Int32 → Prop} (hr : r < 6) (hl : ∀ q, q < 6 → ∃ len, len ≤ 40 ∧ rl q = nI len) (h1 : (∃ q, q < 6 ∧ q ≠ r ∧ cf_C rl ro ra q r) → post 1) (h0 : ¬ (∃ q, q < 6 ∧ q ≠ r ∧ cf_C rl ro ra q r) → post 0) : wpX_isCalledByAnother post (oc, tc', cp, lc, sc, kc, dp, vc, er, ep, uu, cls, num, lnk, lsz, lit, fb, tk, tv, rk, rl, ro, ra, rt, rp, oo, co, sk, kd, fr, fn, fi, vs, ll, li, lt) (nI r) := by
  have loop : ∀ (d q : Nat), q + d = 6 → (∀ j, j < q → j ≠ r → ¬ cf_C rl ro ra j r) → wX_isCalledByAnother_2 post (nI r) oc (tc') cp lc sc kc dp vc er ep uu cls num lnk lsz lit fb tk tv rk rl ro ra rt rp oo co sk kd fr fn fi vs ll li lt (d + 1) (nI q) := by
    intro d
    induction d with
    | zero =>
      intro q hq hno
      have : q = 6 := by omega
      subst this
      exact br_t (by decide) (h0 (fun ⟨j, a, b, c⟩ => hno j a b c))
    | succ d ih =>
      intro q hq hno
      refine br_f (nI_ge (b := 6) (by omega) (by decide)) ?_
      by_cases z : q = r
      · refine br_t (by rw [z]) (nm_r (nI_1 q) (ih (q + 1) (by omega) (fun j hj hjr => ?_)))
        exact hno j (by omega) hjr
      · obtain ⟨len, l1, l2⟩ := hl q (by omega)
        refine br_f (fun y => z ((nI_eq (by omega) (by omega)).1 y)) (cf_calls (by omega) l2 l1 (fun y => br_f (by decide) (h1 ⟨q, by omega, z, y⟩)) (fun y => br_t rfl (nm_r (nI_1 q) (ih (q + 1) (by omega) (fun j hj hjr => ?_)))))
        by_cases x : j = q
        · subst x; exact y
        · exact hno j (by omega) hjr
  exact ⟨_, loop 6 0 (by omega) (fun j hj => absurd hj (by omega))⟩
/-- .. and as the reference sees it -/
def cf_D (rk rn op nm : Nat → Int32) (q r : Nat) : Prop := ¬ rk q = 0 ∧ ∃ c nn, rn q = nI nn ∧ nn ≤ 40 ∧ c < nn ∧ op (q * 40 + c) = 5 ∧ nm (q * 40 + c) = nI r
theorem cf_ycalled {tks' : Int32} {r : Nat} {post : Int32 → Prop} (hr : r < 6) (hl : ∀ q, q < 6 → ¬ rk q = 0 → ∃ nn, nn ≤ 40 ∧ rn q = nI nn) (h1 : (∃ q, q < 6 ∧ q ≠ r ∧ cf_D rk rn op nm q r) → post 1) (h0 : ¬ (∃ q, q < 6 ∧ q ≠ r ∧ cf_D rk rn op nm q r) → post 0) : wpY_calledByAnother post (ob, tks', pl, nds, sts, res, era, usd, sp, lv, ret, out, ycls, prp, lst, siz, dnd, tk, tv, opd, rk, rn, op, nm, ay, prt, ylo, yhi, sN, sP, sX, sK, it, vr) (nI r) := by
  have loop : ∀ (d k : Nat), k + d = 240 → (∀ j, j < k → j / 40 ≠ r → ¬ (¬ rk (j / 40) = 0 ∧ (∃ nn, rn (j / 40) = nI nn ∧ nn ≤ 40 ∧ j % 40 < nn) ∧ op j = 5 ∧ nm j = nI r)) → wY_calledByAnother_2 post (nI r) ob (tks') pl nds sts res era usd sp lv ret out ycls prp lst siz dnd (tk) (tv) opd (rk) rn op nm ay prt ylo yhi sN sP sX sK it vr (d + 1) (nI k) := by
    intro d
    induction d with
    | zero =>
      intro k hk hno
      have : k = 240 := by omega
      subst this
      refine br_t (by decide) (h0 ?_)
      rintro ⟨q, q1, q2, q3, c, nn, n1, n2, n3, n4, n5⟩
      have e1 : (q * 40 + c) / 40 = q := by omega
      have e2 : (q * 40 + c) % 40 = c := by omega
      exact hno (q * 40 + c) (by omega) (by rw [e1]; exact q2) (by rw [e1, e2]; exact ⟨q3, ⟨nn, n1, n2, n3⟩, n4, n5⟩)
    | succ d ih =>
      intro k hk hno
      have e40 : nI k / 40 = nI (k / 40) := pk_div (d := 40) (by omega) (by omega) (by omega)
      have er : nI k - nI k / 40 * 40 = nI (k % 40) := pk_rem (d := 40) (by omega) (by omega) (by omega)
      have nx : (k / 40 ≠ r → ¬ (¬ rk (k / 40) = 0 ∧ (∃ nn, rn (k / 40) = nI nn ∧ nn ≤ 40 ∧ k % 40 < nn) ∧ op k = 5 ∧ nm k = nI r)) → ∀ y, y = nI k + 1 → wY_calledByAnother_2 post (nI r) ob (tks') pl nds sts res era usd sp lv ret out ycls prp lst siz dnd (tk) (tv) opd (rk) rn op nm ay prt ylo yhi sN sP sX sK it vr (d + 1) y := by
        intro h y hy
        rw [hy, nI_1]
        refine ih (k + 1) (by omega) (fun j hj => ?_)
        by_cases z : j = k
        · subst z; exact h
        · exact hno j (by omega)
      have ck : (nI k).toNatClampNeg = k := nI_clamp (by omega)
      have cq : (nI (k / 40)).toNatClampNeg = k / 40 := nI_clamp (by omega)
      have iq : vp_in (nI (k / 40)) 6 := vp_in_nI (by omega) (by decide)
      have ik : vp_in (nI k) 280 := vp_in_nI (by omega) (by decide)
      refine br_f (nI_ge (b := 240) (by omega) (by decide)) ⟨by decide, nm_r e40 ?_⟩
      by_cases zr : k / 40 = r
      · exact br_t (by rw [zr]) (nx (fun h => absurd zr h))
      · refine br_f (fun y => zr ((nI_eq (by omega) (by omega)).1 y)) ⟨iq, ?_⟩
        rw [cq]
        by_cases z0 : rk (k / 40) = 0
        · exact br_t z0 (nx (fun _ h => h.1 z0))
        · obtain ⟨nn, n1, n2⟩ := hl (k / 40) (by omega) z0
          refine br_f z0 ⟨by decide, iq, ?_⟩
          rw [n2, er]
          by_cases zl : nn ≤ k % 40
          · refine br_t (nI_le zl (by omega)) (nx (fun _ h => ?_))
            obtain ⟨nn', m1, m2, m3⟩ := h.2.1
            have : nn' = nn := (nI_eq (by omega) (by omega)).1 (m1.symm.trans n2)
            omega
          · refine br_f (nI_ge (by omega) (by omega)) ⟨ik, ?_⟩
            rw [ck]
            by_cases z5 : op k = 5
            · refine br_t z5 ⟨ik, ?_⟩
              by_cases zv : nm k = nI r
              · refine br_t zv (h1 ⟨k / 40, by omega, zr, z0, k % 40, nn, n2, n1, by omega, ?_, ?_⟩)
                · rw [show k / 40 * 40 + k % 40 = k by omega]; exact z5
                · rw [show k / 40 * 40 + k % 40 = k by omega]; exact zv
              · exact br_f zv (nx (fun _ h => zv h.2.2.2))
            · exact br_f z5 (nx (fun _ h => z5 h.2.2.1))
  exact ⟨_, loop 240 0 (by omega) (fun j hj => absurd hj (by omega))⟩
end
end
section
section
variable {oc tc cp lc sc kc dp vc er ep uu : Int32} {cls num lnk lsz lit fb tk tv rk rl ro ra rt rp oo co sk kd fr fn fi vs ll li lt : Nat → Int32}
theorem cd_adopt {post : SX → Prop} {r len : Nat} {kind : Int32} (hr : r < 6) (hl : rl 6 = nI len) (h40 : len ≤ 40) (H : ∀ ro' ra' rt' rp' : Nat → Int32, (∀ j, j < len → ro' (r * 40 + j) = ro (240 + j) ∧ ra' (r * 40 + j) = ra (240 + j) ∧ rt' (r * 40 + j) = rt (240 + j) ∧ rp' (r * 40 + j) = rp (240 + j)) → (∀ j, j < r * 40 ∨ r * 40 + 40 ≤ j → ro' j = ro j ∧ ra' j = ra j ∧ rt' j = rt j ∧ rp' j = rp j) → post (oc, 0, cp, lc, sc, kc, dp, vc, er, ep, uu, cls, num, lnk, lsz, lit, fb, tk, tv, upd rk r kind, upd rl r (nI len), ro', ra', rt', rp', oo, co, sk, kd, fr, fn, fi, vs, ll, li, lt)) : wpX_adoptDraft post (oc, tc, cp, lc, sc, kc, dp, vc, er, ep, uu, cls, num, lnk, lsz, lit, fb, tk, tv, rk, rl, ro, ra, rt, rp, oo, co, sk, kd, fr, fn, fi, vs, ll, li, lt) (nI r) kind := by
  have loop : ∀ (d c : Nat) (ro1 ra1 rt1 rp1 : Nat → Int32), c + d = len → (∀ j, j < c → ro1 (r * 40 + j) = ro (240 + j) ∧ ra1 (r * 40 + j) = ra (240 + j) ∧ rt1 (r * 40 + j) = rt (240 + j) ∧ rp1 (r * 40 + j) = rp (240 + j)) → (∀ j, j < r * 40 ∨ r * 40 + 40 ≤ j → ro1 j = ro j ∧ ra1 j = ra j ∧ rt1 j = rt j ∧ rp1 j = rp j) → wX_adoptDraft_8 post (nI r) kind (nI (r * 40)) oc tc cp lc sc kc dp vc er ep uu (d + 1) (nI c) cls num lnk lsz lit fb tk tv rk rl ro1 ra1 rt1 rp1 oo co sk kd fr fn fi vs ll li lt := by
    intro d
    induction d with
    | zero =>
      intro c ro1 ra1 rt1 rp1 hc h1 h2
      have hcl : c = len := by omega
      subst hcl
      refine br_t (by rw [hl]; exact nI_le (Nat.le_refl _) (by omega)) ⟨vp_in_nI (by omega) (by decide), nm_r (e' := upd rl r (nI c)) (by rw [nI_clamp (by omega), hl]) ⟨vp_in_nI (by omega) (by decide), nm_r (e' := upd rk r kind) (by rw [nI_clamp (by omega)]) (H ro1 ra1 rt1 rp1 h1 h2)⟩⟩
    | succ d ih =>
      intro c ro1 ra1 rt1 rp1 hc h1 h2
      have e1 : 240 + nI c = nI (240 + c) := nI_add 240 c
      have e2 : nI (r * 40) + nI c = nI (r * 40 + c) := nI_add _ _
      have c1 : (240 + nI c).toNatClampNeg = 240 + c := by rw [e1, nI_clamp (by omega)]
      have c2 : (nI (r * 40) + nI c).toNatClampNeg = r * 40 + c := by rw [e2, nI_clamp (by omega)]
      have i1 : vp_in (240 + nI c) 280 := by rw [e1]; exact vp_in_nI (by omega) (by decide)
      have i2 : vp_in (nI (r * 40) + nI c) 280 := by rw [e2]; exact vp_in_nI (by omega) (by decide)
      obtain ⟨g1, g2, g3, g4⟩ := h2 (240 + c) (by omega)
      refine br_f (by rw [hl]; exact nI_ge (by omega) (by omega)) ⟨i1, i2, nm_r (e' := upd ro1 (r * 40 + c) (ro (240 + c))) (by rw [c1, c2, g1]) ⟨i1, i2, nm_r (e' := upd ra1 (r * 40 + c) (ra (240 + c))) (by rw [c1, c2, g2]) ⟨i1, i2, nm_r (e' := upd rt1 (r * 40 + c) (rt (240 + c))) (by rw [c1, c2, g3]) ⟨i1, i2, nm_r (e' := upd rp1 (r * 40 + c) (rp (240 + c))) (by rw [c1, c2, g4]) (nm_r (nI_1 c) (ih (c + 1) _ _ _ _ (by omega) (fun j hj => ?_) (fun j hj => ?_)))⟩⟩⟩⟩
      · by_cases z : j = c
        · subst z; exact ⟨pk_us, pk_us, pk_us, pk_us⟩
        · rw [pk_un (by omega), pk_un (by omega), pk_un (by omega), pk_un (by omega)]; exact h1 j (by omega)
      · rw [pk_un (by omega), pk_un (by omega), pk_un (by omega), pk_un (by omega)]; exact h2 j hj
  exact nm_r (e' := nI (r * 40)) (gr_mul r 40 rfl) ⟨_, loop len 0 ro ra rt rp (by omega) (fun j hj => absurd hj (by omega)) (fun j _ => ⟨rfl, rfl, rfl, rfl⟩)⟩
end
section
variable {ob tks pl nds sts res era usd sp lv ret out : Int32} {ycls prp lst siz dnd tok val opd yrk rn op nm ay prt ylo yhi sN sP sX sK it vr : Nat → Int32}
theorem cd_sh (r k : Nat) : nI (240 + k) + (nI (r * 40) - 240) = nI (r * 40 + k) := by
  rw [← nI_add 240 k, ← nI_add (r * 40) k]
  show 240 + nI k + (nI (r * 40) - 240) = nI (r * 40) + nI k
  grind
theorem cd_ycopy {post : Int32 → SY → Prop} {r N : Nat} {kind : Int32} (hr : r < 6) (hN : N ≤ 40) (H : ∀ op' nm' ay' prt' : Nat → Int32, (∀ j, j < N → op' (r * 40 + j) = op (240 + j) ∧ nm' (r * 40 + j) = nm (240 + j) ∧ ay' (r * 40 + j) = ay (240 + j)) → (∀ j i, j < N → i < 3 → prt' ((r * 40 + j) * 3 + i) = prt ((240 + j) * 3 + i) + (nI (r * 40) - 240)) → (∀ j, j < r * 40 ∨ r * 40 + 40 ≤ j → op' j = op j ∧ nm' j = nm j ∧ ay' j = ay j) → (∀ j, j < r * 40 * 3 ∨ (r * 40 + 40) * 3 ≤ j → prt' j = prt j) → post 1 (ob, 0, (-1), nI (240 + N), sts, res, era, usd, sp, lv, ret, out, ycls, prp, lst, siz, dnd, tok, val, opd, upd yrk r kind, upd rn r (nI N), op', nm', ay', prt', ylo, yhi, sN, sP, sX, sK, it, vr)) : wY_compile_222 post (nI r) kind ob tks pl (nI (240 + N)) sts res era usd sp lv ret out ycls prp lst siz dnd tok val opd yrk rn op nm ay prt ylo yhi sN sP sX sK it vr := by
  have loop : ∀ (d k : Nat) (op1 nm1 ay1 prt1 : Nat → Int32), k + d = N → (∀ j, j < k → op1 (r * 40 + j) = op (240 + j) ∧ nm1 (r * 40 + j) = nm (240 + j) ∧ ay1 (r * 40 + j) = ay (240 + j)) → (∀ j i, j < k → i < 3 → prt1 ((r * 40 + j) * 3 + i) = prt ((240 + j) * 3 + i) + (nI (r * 40) - 240)) → (∀ j, j < r * 40 ∨ r * 40 + 40 ≤ j → op1 j = op j ∧ nm1 j = nm j ∧ ay1 j = ay j) → (∀ j, j < r * 40 * 3 ∨ (r * 40 + 40) * 3 ≤ j → prt1 j = prt j) → wY_compile_258 post (nI (r * 40) - 240) ob tks pl (nI (240 + N)) sts res era usd sp lv ret out (d + 1) (nI (240 + k)) ycls prp lst siz dnd tok val opd (upd yrk r kind) (upd rn r (nI N)) op1 nm1 ay1 prt1 ylo yhi sN sP sX sK it vr := by
    intro d
    induction d with
    | zero =>
      intro k op1 nm1 ay1 prt1 hk h1 h2 h3 h4
      have : k = N := by omega
      subst this
      exact br_t (nI_le (Nat.le_refl _) (by omega)) (H op1 nm1 ay1 prt1 h1 h2 h3 h4)
    | succ d ih =>
      intro k op1 nm1 ay1 prt1 hk h1 h2 h3 h4
      have ck : (nI (240 + k)).toNatClampNeg = 240 + k := nI_clamp (by omega)
      have ik : vp_in (nI (240 + k)) 280 := vp_in_nI (by omega) (by decide)
      have cs : (nI (240 + k) + (nI (r * 40) - 240)).toNatClampNeg = r * 40 + k := by rw [cd_sh, nI_clamp (by omega)]
      have is : vp_in (nI (240 + k) + (nI (r * 40) - 240)) 280 := by rw [cd_sh]; exact vp_in_nI (by omega) (by decide)
      obtain ⟨g1, g2, g3⟩ := h3 (240 + k) (by omega)
      have inner : ∀ (e i : Nat) (prt2 : Nat → Int32), i + e = 3 → (∀ j i', j < k → i' < 3 → prt2 ((r * 40 + j) * 3 + i') = prt ((240 + j) * 3 + i') + (nI (r * 40) - 240)) → (∀ i', i' < i → prt2 ((r * 40 + k) * 3 + i') = prt ((240 + k) * 3 + i') + (nI (r * 40) - 240)) → (∀ j, j < r * 40 * 3 ∨ (r * 40 + 40) * 3 ≤ j → prt2 j = prt j) → wY_compile_321 post (wY_compile_258 post (nI (r * 40) - 240) ob tks pl (nI (240 + N)) sts res era usd sp lv ret out (d + 1)) (nI (240 + k)) (nI (r * 40) - 240) ob tks pl (nI (240 + N)) sts res era usd sp lv ret out (e + 1) (nI i) ycls prp lst siz dnd tok val opd (upd yrk r kind) (upd rn r (nI N)) (upd op1 (r * 40 + k) (op (240 + k))) (upd nm1 (r * 40 + k) (nm (240 + k))) (upd ay1 (r * 40 + k) (ay (240 + k))) prt2 ylo yhi sN sP sX sK it vr := by
        intro e
        induction e with
        | zero =>
          intro i prt2 hi p1 p2 p3
          have : i = 3 := by omega
          subst this
          refine br_t (by decide) (nm_r (nI_1 (240 + k)) ?_)
          rw [show 240 + k + 1 = 240 + (k + 1) by omega]
          refine ih (k + 1) _ _ _ prt2 (by omega) (fun j hj => ?_) (fun j i' hj hi' => ?_) (fun j hj => ?_) p3
          · by_cases z : j = k
            · subst z; exact ⟨pk_us, pk_us, pk_us⟩
            · rw [pk_un (by omega), pk_un (by omega), pk_un (by omega)]; exact h1 j (by omega)
          · by_cases z : j = k
            · subst z; exact p2 i' hi'
            · exact p1 j i' (by omega) hi'
          · rw [pk_un (by omega), pk_un (by omega), pk_un (by omega)]; exact h3 j hj
        | succ e ihe =>
          intro i prt2 hi p1 p2 p3
          have e1 : nI (240 + k) * 3 + nI i = nI ((240 + k) * 3 + i) := gr_lin (240 + k) 3 i rfl rfl
          have e2 : (nI (240 + k) + (nI (r * 40) - 240)) * 3 + nI i = nI ((r * 40 + k) * 3 + i) := by rw [cd_sh]; exact gr_lin (r * 40 + k) 3 i rfl rfl
          refine br_f (nI_ge (b := 3) (by omega) (by decide)) ⟨by rw [e1]; exact vp_in_nI (by omega) (by decide), by rw [e2]; exact vp_in_nI (by omega) (by decide), nm_r (e' := upd prt2 ((r * 40 + k) * 3 + i) (prt ((240 + k) * 3 + i) + (nI (r * 40) - 240))) (by rw [e1, e2, nI_clamp (by omega), nI_clamp (by omega), p3 _ (by omega)]) (nm_r (nI_1 i) (ihe (i + 1) _ (by omega) (fun j i' hj hi' => ?_) (fun i' hi' => ?_) (fun j hj => ?_)))⟩
          · rw [pk_un (by omega)]; exact p1 j i' hj hi'
          · by_cases z : i' = i
            · subst z; exact pk_us
            · rw [pk_un (by omega)]; exact p2 i' (by omega)
          · rw [pk_un (by omega)]; exact p3 j hj
      refine br_f (nI_ge (by omega) (by omega)) ⟨ik, is, nm_r (e' := upd op1 (r * 40 + k) (op (240 + k))) (by rw [ck, cs, g1]) ⟨ik, is, nm_r (e' := upd nm1 (r * 40 + k) (nm (240 + k))) (by rw [ck, cs, g2]) ⟨ik, is, nm_r (e' := upd ay1 (r * 40 + k) (ay (240 + k))) (by rw [ck, cs, g3]) ⟨4, inner 3 0 prt1 (by omega) h2 (fun i' hi' => absurd hi' (by omega)) h4⟩⟩⟩⟩
  have cr : (nI r).toNatClampNeg = r := nI_clamp (by omega)
  refine ⟨vp_in_nI hr (by decide), nm_r (e' := upd yrk r kind) (by rw [cr]) ⟨vp_in_nI hr (by decide), nm_r (e' := upd rn r (nI N)) (by rw [cr, show (240 : Int32) = nI 240 from rfl, pk_sub (by omega), Nat.add_sub_cancel_left]) (nm_r (e' := nI (r * 40) - 240) (by rw [show nI r * 40 = nI (r * 40) from gr_mul r 40 rfl]) ⟨N + 1, loop N 0 op nm ay prt (by omega) (fun j hj => absurd hj (by omega)) (fun j i hj => absurd hj (by omega)) (fun j _ => ⟨rfl, rfl, rfl⟩) (fun j _ => rfl)⟩)⟩⟩
end
end
section
section
variable {xo xa xt xp yo yn ya yc rk : Nat → Int32} {yp : Nat → Nat → Nat} {len nn : Nat}
theorem ci_mono : ∀ {f : Nat} {B : Nat → Prop} {k a b : Nat} {t : Int32}, gr_Im xo xa xt xp yo yn ya yp rk len nn f B k a b t → gr_Im xo xa xt xp yo yn ya yp rk len nn (f + 1) B k a b t := by
  intro f
  induction f with
  | zero => intro B k a b t h; exact absurd h id
  | succ f ih =>
    intro B k a b t h
    obtain ⟨hk, hab, hbl, h⟩ := h
    refine ⟨hk, hab, hbl, ?_⟩
    rcases h with h | h | h | h | ⟨p, c, h1, h2, h3, h4, h5, h6⟩ | ⟨c, h1, h2, h3, h4⟩ | ⟨r, c, h1, h2, h3, h4, h5, h6⟩ | ⟨s, m, c, t1, t2, h1, h2, h3, h4, h5, h6, h7⟩ | ⟨m, h1, h2, h3, h4, h5, h6⟩ | ⟨m, m2, h1, h2, h3, h4, h5, h6, h7, h8⟩ | ⟨s, v, m, c, h1, h2, h3, h4, h5, h6, h7, h8, h9, h10, h11, h12, h13, h14⟩
    · exact Or.inl h
    · exact Or.inr (Or.inl h)
    · exact Or.inr (Or.inr (Or.inl h))
    · exact Or.inr (Or.inr (Or.inr (Or.inl h)))
    · exact Or.inr (Or.inr (Or.inr (Or.inr (Or.inl ⟨p, c, h1, h2, h3, h4, ih h5, h6⟩))))
    · exact Or.inr (Or.inr (Or.inr (Or.inr (Or.inr (Or.inl ⟨c, h1, h2, ih h3, h4⟩)))))
    · exact Or.inr (Or.inr (Or.inr (Or.inr (Or.inr (Or.inr (Or.inl ⟨r, c, h1, h2, h3, h4, ih h5, h6⟩))))))
    · exact Or.inr (Or.inr (Or.inr (Or.inr (Or.inr (Or.inr (Or.inr (Or.inl ⟨s, m, c, t1, t2, h1, h2, h3, h4, ih h5, ih h6, h7⟩)))))))
    · exact Or.inr (Or.inr (Or.inr (Or.inr (Or.inr (Or.inr (Or.inr (Or.inr (Or.inl ⟨m, h1, ih h2, h3, h4, ih h5, h6⟩))))))))
    · exact Or.inr (Or.inr (Or.inr (Or.inr (Or.inr (Or.inr (Or.inr (Or.inr (Or.inr (Or.inl ⟨m, m2, h1, ih h2, h3, h4, ih h5, h6, h7, ih h8⟩)))))))))
    · exact Or.inr (Or.inr (Or.inr (Or.inr (Or.inr (Or.inr (Or.inr (Or.inr (Or.inr (Or.inr ⟨s, v, m, c, h1, h2, h3, h4, h5, h6, h7, ih h8, h9, h10, h11, h12, ih h13, h14⟩)))))))))
/-- a rule that calls no rule whose kind changes keeps its kinds -/
theorem ci_rk {rk' : Nat → Int32} (hrk : ∀ j r, j < nn → yo j = 5 → yn j = nI r → r < 6 → (rk r = 1 ∨ rk r = 2) → rk' r = rk r) : ∀ {f : Nat} {B : Nat → Prop} {k a b : Nat} {t : Int32}, gr_Im xo xa xt xp yo yn ya yp rk len nn f B k a b t → gr_Im xo xa xt xp yo yn ya yp rk' len nn f B k a b t := by
  intro f
  induction f with
  | zero => intro B k a b t h; exact absurd h id
  | succ f ih =>
    intro B k a b t h
    obtain ⟨hk, hab, hbl, h⟩ := h
    refine ⟨hk, hab, hbl, ?_⟩
    rcases h with h | h | h | h | ⟨p, c, h1, h2, h3, h4, h5, h6⟩ | ⟨c, h1, h2, h3, h4⟩ | ⟨r, c, h1, h2, h3, h4, h5, h6, h7, h8, h9, h10⟩ | ⟨s, m, c, t1, t2, h1, h2, h3, h4, h5, h6, h7⟩ | ⟨m, h1, h2, h3, h4, h5, h6⟩ | ⟨m, m2, h1, h2, h3, h4, h5, h6, h7, h8⟩ | ⟨s, v, m, c, h1, h2, h3, h4, h5, h6, h7, h8, h9, h10, h11, h12, h13, h14⟩
    · exact Or.inl h
    · exact Or.inr (Or.inl h)
    · exact Or.inr (Or.inr (Or.inl h))
    · exact Or.inr (Or.inr (Or.inr (Or.inl h)))
    · exact Or.inr (Or.inr (Or.inr (Or.inr (Or.inl ⟨p, c, h1, h2, h3, h4, ih h5, h6⟩))))
    · exact Or.inr (Or.inr (Or.inr (Or.inr (Or.inr (Or.inl ⟨c, h1, h2, ih h3, h4⟩)))))
    · exact Or.inr (Or.inr (Or.inr (Or.inr (Or.inr (Or.inr (Or.inl ⟨r, c, h1, h2, h3, h4, ih h5, h6, h7, h8, (hrk k r hk h3 h4 h1 (by rw [h9]; exact h10)).trans h9, h10⟩))))))
    · exact Or.inr (Or.inr (Or.inr (Or.inr (Or.inr (Or.inr (Or.inr (Or.inl ⟨s, m, c, t1, t2, h1, h2, h3, h4, ih h5, ih h6, h7⟩)))))))
    · exact Or.inr (Or.inr (Or.inr (Or.inr (Or.inr (Or.inr (Or.inr (Or.inr (Or.inl ⟨m, h1, ih h2, h3, h4, ih h5, h6⟩))))))))
    · exact Or.inr (Or.inr (Or.inr (Or.inr (Or.inr (Or.inr (Or.inr (Or.inr (Or.inr (Or.inl ⟨m, m2, h1, ih h2, h3, h4, ih h5, h6, h7, ih h8⟩)))))))))
    · exact Or.inr (Or.inr (Or.inr (Or.inr (Or.inr (Or.inr (Or.inr (Or.inr (Or.inr (Or.inr ⟨s, v, m, c, h1, h2, h3, h4, h5, h6, h7, ih h8, h9, h10, h11, h12, ih h13, h14⟩)))))))))
end
/-- the list C lies in code from a on -/
def ci_At (code : List cm_I) (a : Nat) (C : List cm_I) : Prop := ∀ (j : Nat) (x : cm_I), C[j]? = some x → code[a + j]? = some x
section
variable {code : List cm_I} {a : Nat}
theorem ci_At_l {A B : List cm_I} (h : ci_At code a (A ++ B)) : ci_At code a A := by
  intro j x hx
  refine h j x ?_
  have jl : j < A.length := by
    by_cases y : j < A.length
    · exact y
    · rw [List.getElem?_eq_none (by omega)] at hx; cases hx
  rw [List.getElem?_append_left jl]; exact hx
theorem ci_At_r {A B : List cm_I} (h : ci_At code a (A ++ B)) : ci_At code (a + A.length) B := by
  intro j x hx
  have := h (A.length + j) x (by rw [List.getElem?_append_right (by omega), Nat.add_sub_cancel_left]; exact hx)
  rw [Nat.add_assoc]; exact this
theorem ci_At_h {x : cm_I} {B : List cm_I} (h : ci_At code a (x :: B)) : code[a]? = some x ∧ ci_At code (a + 1) B := by
  refine ⟨h 0 x rfl, fun j y hy => ?_⟩
  have := h (j + 1) y hy
  rw [show a + 1 + j = a + (j + 1) by omega]; exact this
def ci_x (code : List cm_I) (j : Nat) : cm_I := (code[j]?).getD (0, 0, 0, 0)
theorem ci_get {x : cm_I} (h : code[a]? = some x) : ci_x code a = x := by unfold ci_x; rw [h]; rfl
end
section
variable {T : Nat → Nat} {tv yo yn ya yc rk : Nat → Int32} {yp : Nat → Nat → Nat} {nn : Nat}
theorem ci_len {n : Nat} (hP : ∀ k i, k < nn → i < gr_ar (yo k) → k < yp k i ∧ yp k i < 40) : ∀ (f : Nat) (B : Nat → Prop) (k w l u : Nat), cg_G T tv yo yn ya yc yp nn f B k w l u → ∀ a, (cn_c yo yn ya yc yp k a).length ≤ u - l ∧ 0 < (cn_c yo yn ya yc yp k a).length := by
  intro f
  induction f with
  | zero => intro B k w l u h; exact absurd h id
  | succ f ih =>
    intro B k w l u h a
    obtain ⟨hk, hlu, h⟩ := h
    rcases h with ⟨h1, h2, h3, h4, h5, h6⟩ | ⟨c, h1, h2, h3, h4, h5, h6, h7, h8⟩ | ⟨c, w', h1, h2, h3, h4, h5, h6, h7, h8⟩ | ⟨c, w', x, h1, h2, h3, h4, h5, h6, h7, h8, h9, h10, h11, h12, h13⟩ | ⟨c, m, w1, w2, v, h1, h2, h3, h4, h5, h6, h7, h8, h9, h10, h11, h12, h13, h14, h15, h16, h17, h18, h19⟩ | ⟨w', h1, h2, h3, h4, h5⟩ | ⟨c, w1, w2, h1, h2, h3, h4, h5, h6, h7, h8, h9, h10, h11, h12⟩ | ⟨c, m, w1, w2, w3, h1, h2, h3, h4, h5, h6, h7, h8, h9, h10, h11, h12, h13⟩
    · have hlf : yo k = 0 ∨ yo k = 3 ∨ yo k = 4 ∨ yo k = 19 := by
        rcases h2 with z | z | z | z
        · rw [h3, z]; exact Or.inl rfl
        · rw [h3, z]; exact Or.inr (Or.inl rfl)
        · rw [h3, z]; exact Or.inr (Or.inr (Or.inr rfl))
        · rw [h3, z.1]; exact Or.inr (Or.inr (Or.inl rfl))
      rw [cn_c_leaf hlf]
      exact ⟨by show 1 ≤ u - l; omega, by show 0 < 1; omega⟩
    · have hop : yo k = 1 ∨ yo k = 2 ∨ yo k = 5 := by
        rcases h2 with z | z <;> rw [h4, z] <;> decide
      have g := ih _ _ _ _ _ h7 a
      rw [cn_c_un (hP k 0 hk (by rw [cm_ar1 (by rcases hop with z | z | z <;> rw [z] <;> decide)]; omega)) hop, List.length_append]
      show _ + 1 ≤ _ ∧ 0 < _ + 1
      omega
    · have g := ih _ _ _ _ _ h6 a
      omega
    · have g := ih _ _ _ _ _ h11 a
      rw [cn_c_un (hP k 0 hk (by rw [h8]; decide)) (Or.inr (Or.inr h8)), List.length_append]
      show _ + 1 ≤ _ ∧ 0 < _ + 1
      omega
    · have hop : yo k = 20 ∨ yo k = 21 ∨ yo k = 22 := by
        have z3 : T l = 20 ∨ T l = 21 ∨ T l = 22 := by omega
        rcases z3 with z | z | z <;> rw [h12, z] <;> decide
      have har : gr_ar (yo k) = 2 := cm_ar2 (by rcases hop with z | z | z <;> rw [z] <;> decide)
      have g1 := ih _ _ _ _ _ h15 a
      have g2 := ih _ _ _ _ _ h17 (a + (cn_c yo yn ya yc yp (yp k 0) a).length + 1)
      rw [cn_c_qn (hP k 0 hk (by omega)) (hP k 1 hk (by omega)) hop]
      unfold cn_seq
      simp only [List.length_append, List.length_cons, List.length_nil]
      omega
    · have hop : yo k = 12 ∨ yo k = 23 := by
        rcases h1 with ⟨_, z⟩ | ⟨_, z, _⟩
        · exact Or.inl z
        · exact Or.inr z
      have g := ih _ _ _ _ _ h3 a
      rw [cn_c_si (hP k 0 hk (by rw [cm_ar1 (by rcases hop with z | z <;> rw [z] <;> decide)]; omega)) hop, List.length_append]
      show _ + 1 ≤ _ ∧ 0 < _ + 1
      omega
    · have g1 := ih _ _ _ _ _ h8 a
      have g2a := ih _ _ _ _ _ h9 (a + (cn_c yo yn ya yc yp (yp k 0) a).length)
      have g2b := ih _ _ _ _ _ h9 (a + (cn_c yo yn ya yc yp (yp k 0) a).length + 1)
      have z3 : T c = 10 ∨ T c = 11 ∨ T c = 13 ∨ T c = 14 ∨ T c = 15 ∨ T c = 16 ∨ T c = 17 ∨ T c = 18 := by omega
      have har : gr_ar (yo k) = 2 := cm_ar2 (by
        rcases z3 with z | z | z | z | z | z | z | z <;> rw [h6, z] <;> decide)
      by_cases hl : T c = 10 ∨ T c = 11
      · rw [cn_c_lo (hP k 0 hk (by omega)) (hP k 1 hk (by omega)) (by rcases hl with z | z <;> rw [h6, z] <;> decide)]
        unfold cn_seq
        simp only [List.length_append, List.length_cons, List.length_nil]
        omega
      · have z4 : T c = 13 ∨ T c = 14 ∨ T c = 15 ∨ T c = 16 ∨ T c = 17 ∨ T c = 18 := by omega
        rw [cn_c_bi (hP k 0 hk (by omega)) (hP k 1 hk (by omega)) (by rcases z4 with z | z | z | z | z | z <;> rw [h6, z] <;> decide)]
        unfold cn_seq
        simp only [List.length_append, List.length_cons, List.length_nil]
        omega
    · have har : gr_ar (yo k) = 3 := by rw [h4]; decide
      have g1 := ih _ _ _ _ _ h7 a
      have g2 := ih _ _ _ _ _ h9 (a + (cn_c yo yn ya yc yp (yp k 0) a).length + 1)
      have g3 := ih _ _ _ _ _ h11 (a + (cn_c yo yn ya yc yp (yp k 0) a).length + 1 + (cn_c yo yn ya yc yp (yp k 1) (a + (cn_c yo yn ya yc yp (yp k 0) a).length + 1)).length + 1)
      rw [cn_c_if (hP k 0 hk (by omega)) (hP k 1 hk (by omega)) (hP k 2 hk (by omega)) h4]
      unfold cn_seq
      simp only [List.length_append, List.length_cons, List.length_nil]
      omega
theorem ci_im {n : Nat} {code : List cm_I} (hn : n ≤ 40) (hP : ∀ k i, k < nn → i < gr_ar (yo k) → k < yp k i ∧ yp k i < 40) (h5 : ∀ l x, l < n → T l = 5 → tv l = nI x → x < 6 → rk x = 1 ∨ rk x = 2) : ∀ (f : Nat) (B : Nat → Prop) (k w l u : Nat), cg_G T tv yo yn ya yc yp nn f B k w l u → u ≤ n → 100 ≤ cn_b yo yn ya rk yp k → ∀ a, ci_At code a (cn_c yo yn ya yc yp k a) → a + (cn_c yo yn ya yc yp k a).length ≤ code.length →
    gr_Im (fun j => (ci_x code j).1) (fun j => (ci_x code j).2.1) (fun j => (ci_x code j).2.2.1) (fun j => (ci_x code j).2.2.2) yo yn ya yp rk code.length nn f B k a (a + (cn_c yo yn ya yc yp k a).length) (cn_k yo yn rk yp k) := by
  intro f
  induction f with
  | zero => intro B k w l u h; exact absurd h id
  | succ f ih =>
    intro B k w l u hG hu hb a hat hcl
    have hpos := (ci_len (n := n) hP (f + 1) B k w l u hG a).2
    have CL := fun (B : Nat → Prop) (k w l u : Nat) (h : cg_G T tv yo yn ya yc yp nn f B k w l u) (a : Nat) => (ci_len (n := n) hP f B k w l u h a).2
    obtain ⟨hk, hlu, h⟩ := hG
    have hs : cn_ok yo yn rk yp k = true ∨ (ya k).toNatClampNeg ≥ 100 := by
      have h1 : 100 ≤ cn_s yo yn ya rk yp k := Nat.le_trans hb cn_b_le
      unfold cn_s at h1
      by_cases z : cn_ok yo yn rk yp k = true
      · exact Or.inl z
      · rw [if_neg z] at h1; exact Or.inr h1
    rcases h with ⟨h1, h2, h3, h4, h5', h6⟩ | ⟨c, h1, h2, h3, h4, h5', h6, h7, h8⟩ | ⟨c, w', h1, h2, h3, h4, h5', h6, h7, h8⟩ | ⟨c, w', x, h1, h2, h3, h4, h5', h6, h7, h8, h9, h10, h11, h12, h13⟩ | ⟨c, m, w1, w2, v, h1, h2, h3, h4, h5', h6, h7, h8, h9, h10, h11, h12, h13, h14, h15, h16, h17, h18, h19⟩ | ⟨w', h1, h2, h3, h4, h5'⟩ | ⟨c, w1, w2, h1, h2, h3, h4, h5', h6, h7, h8, h9, h10, h11, h12⟩ | ⟨c, m, w1, w2, w3, h1, h2, h3, h4, h5', h6, h7, h8, h9, h10, h11, h12, h13⟩
    · -- a leaf
      have hlf : yo k = 0 ∨ yo k = 3 ∨ yo k = 4 ∨ yo k = 19 := by
        rcases h2 with z | z | z | z
        · rw [h3, z]; exact Or.inl rfl
        · rw [h3, z]; exact Or.inr (Or.inl rfl)
        · rw [h3, z]; exact Or.inr (Or.inr (Or.inr rfl))
        · rw [h3, z.1]; exact Or.inr (Or.inr (Or.inl rfl))
      rw [cn_c_leaf hlf] at hat hcl ⊢
      have gx := ci_get (ci_At_h hat).1
      refine ⟨hk, by show a < a + 1; omega, hcl, ?_⟩
      rcases h2 with z | z | z | ⟨z, v, hv, ev, hBv⟩
      · have o : yo k = 0 := by rw [h3, z]; rfl
        exact Or.inl ⟨o, rfl, by show (ci_x code a).1 = 0; rw [gx]; exact o, by show (ci_x code a).2.1 = _; rw [gx], by rw [cn_k, o]; rfl⟩
      · have o : yo k = 3 := by rw [h3, z]; rfl
        exact Or.inr (Or.inl ⟨o, rfl, by show (ci_x code a).1 = 3; rw [gx]; exact o, by rw [cn_k, o]; rfl⟩)
      · have o : yo k = 19 := by rw [h3, z]; rfl
        exact Or.inr (Or.inr (Or.inl ⟨o, rfl, by show (ci_x code a).1 = 19; rw [gx]; exact o, by rw [cn_k, o]; rfl⟩))
      · have o : yo k = 4 := by rw [h3, z]; rfl
        exact Or.inr (Or.inr (Or.inr (Or.inl ⟨v, hv, o, h4.trans ev, rfl, by show (ci_x code a).1 = 4; rw [gx]; exact o, by show (ci_x code a).2.1 = _; rw [gx]; exact h4.trans ev, hBv, by rw [cn_k, o]; rfl⟩)))
    · -- a property
      have hop2 : yo k = 1 ∨ yo k = 2 := by
        rcases h2 with z | z <;> rw [h4, z] <;> decide
      have hop : yo k = 1 ∨ yo k = 2 ∨ yo k = 5 := hop2.elim Or.inl (fun z => Or.inr (Or.inl z))
      have h0 := hP k 0 hk (by rw [cm_ar1 (by rcases hop with z | z | z <;> rw [z] <;> decide)]; omega)
      have hok : cn_ok yo yn rk yp k = true := hs.resolve_right (by rw [h6, nI_clamp (by omega)]; omega)
      rw [cn_ok_un hop] at hok
      have hK3 := of_decide_eq_true hok
      have hb0 : 100 ≤ cn_b yo yn ya rk yp (yp k 0) := by
        rw [cn_b_1 h0 (cm_ar1 (by rcases hop with z | z | z <;> rw [z] <;> decide))] at hb; omega
      rw [cn_c_un h0 hop] at hat hcl hpos ⊢
      have e : (cn_c yo yn ya yc yp (yp k 0) a ++ [(yo k, yn k, 0, ya k)]).length = (cn_c yo yn ya yc yp (yp k 0) a).length + 1 := List.length_append
      rw [e] at hcl ⊢
      have IH := ih _ _ _ _ _ h7 (by omega) hb0 a (ci_At_l hat) (by omega)
      rw [hK3] at IH
      have gx := ci_get (ci_At_h (ci_At_r hat)).1
      obtain ⟨x, hx, ex⟩ := h3
      have hyn : yn k = nI x := h5'.trans ex
      refine ⟨hk, by omega, by omega, Or.inr (Or.inr (Or.inr (Or.inr (Or.inl ⟨x, a + (cn_c yo yn ya yc yp (yp k 0) a).length, hx, rfl, hop2, hyn, IH, ?_, ?_, ?_, ?_⟩))))⟩
      · show (ci_x code _).1 = _; rw [gx]
      · show (ci_x code _).2.1 = _; rw [gx]; exact hyn
      · show (ci_x code _).2.2.2 = _; rw [gx]
      · rw [cn_k, if_neg (by rcases hop2 with z | z <;> rw [z] <;> decide), if_neg (by rcases hop2 with z | z <;> rw [z] <;> decide), if_neg (by rcases hop2 with z | z <;> rw [z] <;> decide), if_pos hop2, hyn]
        unfold gr_pk
        have x6 : x = 0 ∨ x = 1 ∨ x = 2 ∨ x = 3 ∨ x = 4 ∨ x = 5 := by omega
        rcases x6 with rfl | rfl | rfl | rfl | rfl | rfl <;> rfl
    · -- brackets
      exact ci_mono (ih _ _ _ _ _ h6 (by omega) hb a hat hcl)
    · -- a call
      have hop : yo k = 1 ∨ yo k = 2 ∨ yo k = 5 := Or.inr (Or.inr h8)
      have h0 := hP k 0 hk (by rw [h8]; decide)
      have hok : cn_ok yo yn rk yp k = true := hs.resolve_right (by rw [h10, nI_clamp (by omega)]; omega)
      rw [cn_ok_un hop] at hok
      have hK3 := of_decide_eq_true hok
      have hb0 : 100 ≤ cn_b yo yn ya rk yp (yp k 0) := by
        rw [cn_b_1 h0 (by rw [h8]; decide)] at hb; omega
      rw [cn_c_un h0 hop] at hat hcl hpos ⊢
      have e : (cn_c yo yn ya yc yp (yp k 0) a ++ [(yo k, yn k, 0, ya k)]).length = (cn_c yo yn ya yc yp (yp k 0) a).length + 1 := List.length_append
      rw [e] at hcl ⊢
      have IH := ih _ _ _ _ _ h11 (by omega) hb0 a (ci_At_l hat) (by omega)
      rw [hK3] at IH
      have gx := ci_get (ci_At_h (ci_At_r hat)).1
      have hyn : yn k = nI x := h9.trans h7
      have hk5 : cn_k yo yn rk yp k = rk x := by rw [cn_k, if_neg (by rw [h8]; decide), if_pos h8, hyn, nI_clamp (by omega)]
      refine ⟨hk, by omega, by omega, Or.inr (Or.inr (Or.inr (Or.inr (Or.inr (Or.inr (Or.inl ⟨x, a + (cn_c yo yn ya yc yp (yp k 0) a).length, h6, rfl, h8, hyn, IH, ?_, ?_, ?_, hk5.symm, ?_⟩))))))⟩
      · show (ci_x code _).1 = _; rw [gx]; exact h8
      · show (ci_x code _).2.1 = _; rw [gx]; exact hyn
      · show (ci_x code _).2.2.2 = _; rw [gx]
      · rw [hk5]; exact h5 l x (by omega) h2 h7 h6
    · -- a quantifier
      have hop : yo k = 20 ∨ yo k = 21 ∨ yo k = 22 := by
        have z3 : T l = 20 ∨ T l = 21 ∨ T l = 22 := by omega
        rcases z3 with z | z | z <;> rw [h12, z] <;> decide
      have hmc : m + 1 < c := by
        cases f with
        | zero => exact absurd h17 id
        | succ f => exact h17.2.1
      have h22 : yo k = 22 ↔ T l = 22 := by
        rw [h12]; exact nI_eq (b := 22) (by omega) (by decide)
      have har : gr_ar (yo k) = 2 := cm_ar2 (by rcases hop with z | z | z <;> rw [z] <;> decide)
      have h0 := hP k 0 hk (by omega)
      have h1' := hP k 1 hk (by omega)
      have hok : cn_ok yo yn rk yp k = true := hs.resolve_right (by rw [h14, nI_clamp (by omega)]; omega)
      rw [cn_ok_qn hop] at hok
      obtain ⟨hK4, hKb⟩ := of_decide_eq_true hok
      rw [cn_b_2 h0 h1' har] at hb
      have hkk : cn_k yo yn rk yp k = (if T l = 22 then 1 else 2) := by
        rw [cn_k, if_neg (by rcases hop with z | z | z <;> rw [z] <;> decide), if_neg (by rcases hop with z | z | z <;> rw [z] <;> decide), if_neg (by rcases hop with z | z | z <;> rw [z] <;> decide), if_neg (by rcases hop with z | z | z <;> rw [z] <;> decide)]
        by_cases z : T l = 22
        · rw [if_pos z, if_neg (by rw [h22.2 z]; decide)]
        · have hop2 : yo k = 20 ∨ yo k = 21 := by
            rcases hop with y | y | y
            · exact Or.inl y
            · exact Or.inr y
            · exact absurd (h22.1 y) z
          rw [if_neg z, if_pos (Or.inr hop2)]
      have hKb2 : cn_k yo yn rk yp (yp k 1) = cn_k yo yn rk yp k := by
        rw [hkk, hKb]
        by_cases z : T l = 22
        · rw [if_pos z, if_pos (h22.2 z)]
        · rw [if_neg z, if_neg (fun y => z (h22.1 y))]
      rw [cn_c_qn h0 h1' hop] at hat hcl hpos ⊢
      unfold cn_seq at hat hcl hpos ⊢
      generalize hA : cn_c yo yn ya yc yp (yp k 0) a = A at *
      generalize hBB : cn_c yo yn ya yc yp (yp k 1) (a + A.length + 1) = Bc at *
      have e : (A ++ (yo k, yn k, nI (a + A.length + 1 + Bc.length + 1), ya k) :: (Bc ++ [(24, nI (a + A.length), 0, ya k)])).length = A.length + 1 + Bc.length + 1 := by
        simp only [List.length_append, List.length_cons, List.length_nil]; omega
      dsimp only at hat hcl hpos ⊢
      rw [hBB] at hat hcl hpos ⊢
      rw [e] at hcl ⊢
      have at2 := ci_At_h (ci_At_r hat)
      have at3 := ci_At_r at2.2
      have gx1 := ci_get at2.1
      have gx2 := ci_get (ci_At_h at3).1
      have IH1 := ih _ _ _ _ _ h15 (by omega) (by omega) a (by rw [hA]; exact ci_At_l hat) (by rw [hA]; omega)
      have IH2 := ih _ _ _ _ _ h17 (by omega) (by omega) (a + A.length + 1) (by rw [hBB]; exact ci_At_l at2.2) (by rw [hBB]; omega)
      rw [hA, hK4] at IH1
      rw [hBB, hKb2] at IH2
      have hAp := CL _ _ _ _ _ h15 a
      have hBp := CL _ _ _ _ _ h17 (a + A.length + 1)
      rw [hA] at hAp
      rw [hBB] at hBp
      refine ⟨hk, by omega, by omega, Or.inr (Or.inr (Or.inr (Or.inr (Or.inr (Or.inr (Or.inr (Or.inr (Or.inr (Or.inr ⟨T l, v, a + A.length, a + A.length + 1 + Bc.length, h2, by omega, h9, by omega, h12, h13.trans h10, h11, IH1, ?_, ?_, ?_, ?_, IH2, ?_, ?_, ?_, hkk⟩)))))))))⟩
      · show (ci_x code _).1 = _; rw [gx1]; exact h12
      · show (ci_x code _).2.1 = _; rw [gx1]; exact h13.trans h10
      · show (ci_x code _).2.2.1 = _; rw [gx1]; exact congrArg nI (by omega)
      · show (ci_x code _).2.2.2 = _; rw [gx1]
      · show (ci_x code _).1 = _; rw [gx2]
      · show (ci_x code _).2.1 = _; rw [gx2]
      · show (ci_x code _).2.2.2 = _; rw [gx2]
    · -- one side alone
      have hop : yo k = 12 ∨ yo k = 23 := by
        rcases h1 with ⟨_, z⟩ | ⟨_, z, _⟩
        · exact Or.inl z
        · exact Or.inr z
      have har : gr_ar (yo k) = 1 := cm_ar1 (by rcases hop with z | z <;> rw [z] <;> decide)
      have h0 := hP k 0 hk (by omega)
      have hok : cn_ok yo yn rk yp k = true := hs.resolve_right (by rw [h2, nI_clamp (by omega)]; omega)
      have hb0 : 100 ≤ cn_b yo yn ya rk yp (yp k 0) := by
        rw [cn_b_1 h0 har] at hb; omega
      have hkk : cn_k yo yn rk yp (yp k 0) = cn_k yo yn rk yp k := by
        rcases hop with z | z
        · rw [cn_ok_12 z] at hok
          rw [of_decide_eq_true hok, cn_k_12 z]
        · rw [cn_ok_23 z] at hok
          rw [of_decide_eq_true hok, cn_k_23 z]
      rw [cn_c_si h0 hop] at hat hcl hpos ⊢
      have e : (cn_c yo yn ya yc yp (yp k 0) a ++ [(yo k, 0, 0, ya k)]).length = (cn_c yo yn ya yc yp (yp k 0) a).length + 1 := List.length_append
      rw [e] at hcl ⊢
      have IH := ih _ _ _ _ _ h3 hu hb0 a (ci_At_l hat) (by omega)
      rw [hkk] at IH
      have gx := ci_get (ci_At_h (ci_At_r hat)).1
      refine ⟨hk, by omega, by omega, Or.inr (Or.inr (Or.inr (Or.inr (Or.inr (Or.inl ⟨a + (cn_c yo yn ya yc yp (yp k 0) a).length, rfl, ?_, IH, ?_⟩)))))⟩
      · rcases hop with z | z
        · exact Or.inl ⟨z, cn_k_12 z⟩
        · exact Or.inr ⟨z, cn_k_23 z⟩
      · show (ci_x code _).1 = _; rw [gx]
    · -- an operator between two sides
      have z3 : T c = 10 ∨ T c = 11 ∨ T c = 13 ∨ T c = 14 ∨ T c = 15 ∨ T c = 16 ∨ T c = 17 ∨ T c = 18 := by omega
      have har : gr_ar (yo k) = 2 := cm_ar2 (by
        rcases z3 with z | z | z | z | z | z | z | z <;> rw [h6, z] <;> decide)
      have h0 := hP k 0 hk (by omega)
      have h1' := hP k 1 hk (by omega)
      have hlc : l < c ∧ c + 1 < u := by
        cases f with
        | zero => exact absurd h8 id
        | succ f => exact ⟨h8.2.1, h9.2.1⟩
      have hok : cn_ok yo yn rk yp k = true := hs.resolve_right (by rw [h7, nI_clamp (by omega)]; omega)
      rw [cn_b_2 h0 h1' har] at hb
      by_cases hl : T c = 10 ∨ T c = 11
      · have hop : yo k = 10 ∨ yo k = 11 := by rcases hl with z | z <;> rw [h6, z] <;> decide
        rw [cn_ok_lo hop] at hok
        obtain ⟨hK1, hK2⟩ := of_decide_eq_true hok
        rw [cn_c_lo h0 h1' hop] at hat hcl hpos ⊢
        unfold cn_seq at hat hcl hpos ⊢
        generalize hA : cn_c yo yn ya yc yp (yp k 0) a = A at *
        generalize hBB : cn_c yo yn ya yc yp (yp k 1) (a + A.length + 1) = Bc at *
        have e : (A ++ (yo k, 0, nI (a + A.length + 1 + Bc.length), ya k) :: Bc).length = A.length + 1 + Bc.length := by
          simp only [List.length_append, List.length_cons]; omega
        dsimp only at hat hcl hpos ⊢
        rw [hBB] at hat hcl hpos ⊢
        rw [e] at hcl ⊢
        have at2 := ci_At_h (ci_At_r hat)
        have gx1 := ci_get at2.1
        have IH1 := ih _ _ _ _ _ h8 (by omega) (by omega) a (by rw [hA]; exact ci_At_l hat) (by rw [hA]; omega)
        have IH2 := ih _ _ _ _ _ h9 (by omega) (by omega) (a + A.length + 1) (by rw [hBB]; exact at2.2) (by rw [hBB]; omega)
        rw [hA, hK1] at IH1
        rw [hBB, hK2] at IH2
        have kk : cn_k yo yn rk yp k = 2 := by
          rcases hl with z | z <;> rw [cn_k, h6, z] <;> rfl
        refine ⟨hk, by omega, by omega, Or.inr (Or.inr (Or.inr (Or.inr (Or.inr (Or.inr (Or.inr (Or.inr (Or.inl ⟨a + A.length, hop, IH1, ?_, ?_, ?_, kk⟩))))))))⟩
        · show (ci_x code _).1 = _; rw [gx1]
        · show (ci_x code _).2.2.1 = _; rw [gx1]; exact congrArg nI (by omega)
        · rw [show a + (A.length + 1 + Bc.length) = a + A.length + 1 + Bc.length by omega]; exact IH2
      · have z4 : T c = 13 ∨ T c = 14 ∨ T c = 15 ∨ T c = 16 ∨ T c = 17 ∨ T c = 18 := by omega
        have hop : yo k = 13 ∨ yo k = 14 ∨ yo k = 15 ∨ yo k = 16 ∨ yo k = 17 ∨ yo k = 18 := by rcases z4 with z | z | z | z | z | z <;> rw [h6, z] <;> decide
        rw [cn_c_bi h0 h1' hop] at hat hcl hpos ⊢
        unfold cn_seq at hat hcl hpos ⊢
        generalize hA : cn_c yo yn ya yc yp (yp k 0) a = A at *
        generalize hBB : cn_c yo yn ya yc yp (yp k 1) (a + A.length) = Bc at *
        have e : (A ++ (Bc ++ [(yo k, 0, 0, ya k)])).length = A.length + Bc.length + 1 := by
          simp only [List.length_append, List.length_cons, List.length_nil]; omega
        dsimp only at hat hcl hpos ⊢
        rw [hBB] at hat hcl hpos ⊢
        rw [e] at hcl ⊢
        have at2 := ci_At_r hat
        have gx1 := ci_get (ci_At_h (ci_At_r at2)).1
        have IH1 := ih _ _ _ _ _ h8 (by omega) (by omega) a (by rw [hA]; exact ci_At_l hat) (by rw [hA]; omega)
        have IH2 := ih _ _ _ _ _ h9 (by omega) (by omega) (a + A.length) (by rw [hBB]; exact ci_At_l at2) (by rw [hBB]; omega)
        rw [hA] at IH1
        rw [hBB] at IH2
        have kk : cn_k yo yn rk yp k = (if T c ≤ 14 then 2 else 1) := by
          rcases z4 with z | z | z | z | z | z <;> rw [cn_k, h6, z] <;> rfl
        refine ⟨hk, by omega, by omega, Or.inr (Or.inr (Or.inr (Or.inr (Or.inr (Or.inr (Or.inr (Or.inl ⟨T c, a + A.length, a + A.length + Bc.length, _, _, by omega, h2, by omega, h6, IH1, IH2, ?_, ?_, kk⟩)))))))⟩
        · show (ci_x code _).1 = _; rw [gx1]; exact h6
        · show (ci_x code _).2.2.2 = _; rw [gx1]
    · -- a choice
      have har : gr_ar (yo k) = 3 := by rw [h4]; decide
      have h0 := hP k 0 hk (by omega)
      have h1' := hP k 1 hk (by omega)
      have h2' := hP k 2 hk (by omega)
      have hlc : l < c ∧ c + 1 < m ∧ m + 1 < u := by
        cases f with
        | zero => exact absurd h7 id
        | succ f => exact ⟨h7.2.1, h9.2.1, h11.2.1⟩
      have hok : cn_ok yo yn rk yp k = true := hs.resolve_right (by rw [h5', nI_clamp (by omega)]; omega)
      rw [cn_ok_8 h4] at hok
      obtain ⟨hK1, hK2⟩ := of_decide_eq_true hok
      rw [cn_b_3 h0 h1' h2' har] at hb
      have hkk : cn_k yo yn rk yp k = cn_k yo yn rk yp (yp k 1) := by
        conv => lhs; rw [cn_k, if_pos h4, dif_pos h1']
      rw [cn_c_if h0 h1' h2' h4] at hat hcl hpos ⊢
      unfold cn_seq at hat hcl hpos ⊢
      generalize hA : cn_c yo yn ya yc yp (yp k 0) a = A at *
      generalize hBB : cn_c yo yn ya yc yp (yp k 1) (a + A.length + 1) = Bc at *
      generalize hCC : cn_c yo yn ya yc yp (yp k 2) (a + A.length + 1 + Bc.length + 1) = Cc at *
      dsimp only at hat hcl hpos ⊢
      rw [hBB] at hat hcl hpos ⊢
      rw [hCC] at hat hcl hpos ⊢
      have e : (A ++ (8, 0, nI (a + A.length + 1 + Bc.length + 1), ya k) :: (Bc ++ (9, 0, nI (a + A.length + 1 + Bc.length + 1 + Cc.length), yc k) :: Cc)).length = A.length + 1 + Bc.length + 1 + Cc.length := by
        simp only [List.length_append, List.length_cons]; omega
      rw [e] at hcl ⊢
      have at2 := ci_At_h (ci_At_r hat)
      have at3 := ci_At_h (ci_At_r at2.2)
      have gx1 := ci_get at2.1
      have gx2 := ci_get at3.1
      have IH1 := ih _ _ _ _ _ h7 (by omega) (by omega) a (by rw [hA]; exact ci_At_l hat) (by rw [hA]; omega)
      have IH2 := ih _ _ _ _ _ h9 (by omega) (by omega) (a + A.length + 1) (by rw [hBB]; exact ci_At_l at2.2) (by rw [hBB]; omega)
      have IH3 := ih _ _ _ _ _ h11 (by omega) (by omega) (a + A.length + 1 + Bc.length + 1) (by rw [hCC]; exact at3.2) (by rw [hCC]; omega)
      rw [hA, hK1] at IH1
      rw [hBB, ← hkk] at IH2
      rw [hCC, ← hK2, ← hkk] at IH3
      refine ⟨hk, by omega, by omega, Or.inr (Or.inr (Or.inr (Or.inr (Or.inr (Or.inr (Or.inr (Or.inr (Or.inr (Or.inl ⟨a + A.length, a + A.length + 1 + Bc.length, h4, IH1, ?_, ?_, IH2, ?_, ?_, ?_⟩)))))))))⟩
      · show (ci_x code _).1 = _; rw [gx1]
      · show (ci_x code _).2.2.1 = _; rw [gx1]
      · show (ci_x code _).1 = _; rw [gx2]
      · show (ci_x code _).2.2.1 = _; rw [gx2]; exact congrArg nI (by omega)
      · rw [show a + (A.length + 1 + Bc.length + 1 + Cc.length) = a + A.length + 1 + Bc.length + 1 + Cc.length by omega]; exact IH3
end
end
section
theorem cs_L_op {T : Nat → Nat} {tv : Nat → Int32} {n : Nat} (hT : ∀ i, i < n → T i < 23) : ∀ {f l u : Nat} {t v : Int32} {p : Nat} {ch : List (Nat × Nat)}, cs_L T tv n f l u t v p ch → ∃ t', t' < 24 ∧ t = nI t' ∧ t' ≠ 6 ∧ t' ≠ 7 ∧ t' ≠ 9 := by
  intro f
  induction f with
  | zero => intro l u t v p ch h; exact absurd h id
  | succ f ih =>
    intro l u t v p ch h
    obtain ⟨hV, h⟩ := h
    have v1 := hV.1
    have v2 := hV.2.1
    rcases h with ⟨_, _, _, _, h⟩ | ⟨h1, h2, h3, _, h5, h6⟩ | ⟨h2, _, _, h3, _, h5, h6, h7, _⟩ | ⟨h1, _, _, _, _, h3, h4, h5, h6, h7⟩ | ⟨m, h1, _, _, _, _, _, _, _, h3, _, h5, h6, h7, h8⟩ | ⟨h1, _, _, h5, h6, h7, _⟩ | ⟨c, h0, h00, _, h2, _, h3, _, h5, h6, h7, h8, _⟩ | ⟨c, m, _, _, _, _, _, _, _, _, _, _, h3, _, h5, h6, h7, h8, h9⟩
    · exact ih h
    · exact ⟨T l, by omega, h3, by omega, by omega, by omega⟩
    · exact ⟨T (u - 1), by omega, h3, by omega, by omega, by omega⟩
    · exact ⟨5, by omega, h3, by omega, by omega, by omega⟩
    · have := hT l (by omega)
      exact ⟨T l, by omega, h3, by omega, by omega, by omega⟩
    · rcases h1 with ⟨_, z⟩ | ⟨_, z⟩
      · exact ⟨12, by omega, z, by omega, by omega, by omega⟩
      · exact ⟨23, by omega, z, by omega, by omega, by omega⟩
    · have := h2.2.2
      exact ⟨T c, by omega, h3, by omega, by omega, by omega⟩
    · exact ⟨8, by omega, h3, by omega, by omega, by omega⟩
section
variable {yo yn ya yc : Nat → Int32} {yp : Nat → Nat → Nat} {N : Nat}
theorem cq_cl {k : Nat} (hop : ∀ j, j < N → ∃ t, t < 24 ∧ yo j = nI t ∧ t ≠ 6 ∧ t ≠ 7 ∧ t ≠ 9) (hk : k < N) : (yo k = 0 ∨ yo k = 3 ∨ yo k = 4 ∨ yo k = 19) ∨ (yo k = 1 ∨ yo k = 2 ∨ yo k = 5) ∨ (yo k = 12 ∨ yo k = 23) ∨ yo k = 8 ∨ (yo k = 10 ∨ yo k = 11) ∨ (yo k = 20 ∨ yo k = 21 ∨ yo k = 22) ∨ (yo k = 13 ∨ yo k = 14 ∨ yo k = 15 ∨ yo k = 16 ∨ yo k = 17 ∨ yo k = 18) := by
  obtain ⟨t, h1, h2, h3, h4, h5⟩ := hop k hk
  have c : t = 0 ∨ t = 1 ∨ t = 2 ∨ t = 3 ∨ t = 4 ∨ t = 5 ∨ t = 8 ∨ t = 10 ∨ t = 11 ∨ t = 12 ∨ t = 13 ∨ t = 14 ∨ t = 15 ∨ t = 16 ∨ t = 17 ∨ t = 18 ∨ t = 19 ∨ t = 20 ∨ t = 21 ∨ t = 22 ∨ t = 23 := by omega
  rcases c with rfl | rfl | rfl | rfl | rfl | rfl | rfl | rfl | rfl | rfl | rfl | rfl | rfl | rfl | rfl | rfl | rfl | rfl | rfl | rfl | rfl <;> rw [h2] <;> decide
theorem cq_in (hN : N ≤ 40) (hop : ∀ j, j < N → ∃ t, t < 24 ∧ yo j = nI t ∧ t ≠ 6 ∧ t ≠ 7 ∧ t ≠ 9) (hP : ∀ k i, k < N → i < gr_ar (yo k) → k < yp k i ∧ yp k i < N) : ∀ (d k : Nat), k < N → N - k ≤ d → ∀ (a : Nat) (x : cm_I), x ∈ cn_c yo yn ya yc yp k a → x.1 = 5 → ∃ j, j < N ∧ yo j = 5 ∧ yn j = x.2.1 := by
  intro d
  induction d with
  | zero => intro k hk hd; omega
  | succ d ih =>
    intro k hk hd a x hx h5
    have kid : ∀ i, i < gr_ar (yo k) → ∀ a2, x ∈ cn_c yo yn ya yc yp (yp k i) a2 → ∃ j, j < N ∧ yo j = 5 ∧ yn j = x.2.1 := by
      intro i hi a2 hm
      obtain ⟨p1, p2⟩ := hP k i hk hi
      exact ih (yp k i) p2 (by omega) a2 x hm h5
    have gd : ∀ i, i < gr_ar (yo k) → k < yp k i ∧ yp k i < 40 := fun i hi => ⟨(hP k i hk hi).1, by have := (hP k i hk hi).2; omega⟩
    rcases cq_cl hop hk with z | z | z | z | z | z | z
    · rw [cn_c_leaf z, List.mem_singleton] at hx
      rw [hx] at h5
      have h5' : yo k = 5 := h5
      rw [h5'] at z
      exact absurd z (by decide)
    · have har : gr_ar (yo k) = 1 := cm_ar1 (by rcases z with y | y | y <;> rw [y] <;> decide)
      rw [cn_c_un (gd 0 (by omega)) z, List.mem_append, List.mem_singleton] at hx
      rcases hx with hx | hx
      · exact kid 0 (by omega) _ hx
      · rw [hx] at h5 ⊢
        exact ⟨k, hk, h5, rfl⟩
    · have har : gr_ar (yo k) = 1 := cm_ar1 (by rcases z with y | y <;> rw [y] <;> decide)
      rw [cn_c_si (gd 0 (by omega)) z, List.mem_append, List.mem_singleton] at hx
      rcases hx with hx | hx
      · exact kid 0 (by omega) _ hx
      · rw [hx] at h5
        have h5' : yo k = 5 := h5
        rw [h5'] at z
        exact absurd z (by decide)
    · have har : gr_ar (yo k) = 3 := by rw [z]; decide
      rw [cn_c_if (gd 0 (by omega)) (gd 1 (by omega)) (gd 2 (by omega)) z] at hx
      unfold cn_seq at hx
      rw [List.mem_append, List.mem_cons, List.mem_append, List.mem_cons] at hx
      rcases hx with hx | hx | hx | hx | hx
      · exact kid 0 (by omega) _ hx
      · rw [hx] at h5; exact absurd h5 (by show ¬ (8 : Int32) = 5; decide)
      · exact kid 1 (by omega) _ hx
      · rw [hx] at h5; exact absurd h5 (by show ¬ (9 : Int32) = 5; decide)
      · exact kid 2 (by omega) _ hx
    · have har : gr_ar (yo k) = 2 := cm_ar2 (by rcases z with y | y <;> rw [y] <;> decide)
      rw [cn_c_lo (gd 0 (by omega)) (gd 1 (by omega)) z] at hx
      unfold cn_seq at hx
      rw [List.mem_append, List.mem_cons] at hx
      rcases hx with hx | hx | hx
      · exact kid 0 (by omega) _ hx
      · rw [hx] at h5
        have h5' : yo k = 5 := h5
        rw [h5'] at z
        exact absurd z (by decide)
      · exact kid 1 (by omega) _ hx
    · have har : gr_ar (yo k) = 2 := cm_ar2 (by rcases z with y | y | y <;> rw [y] <;> decide)
      rw [cn_c_qn (gd 0 (by omega)) (gd 1 (by omega)) z] at hx
      unfold cn_seq at hx
      rw [List.mem_append, List.mem_cons, List.mem_append, List.mem_singleton] at hx
      rcases hx with hx | hx | hx | hx
      · exact kid 0 (by omega) _ hx
      · rw [hx] at h5
        have h5' : yo k = 5 := h5
        rw [h5'] at z
        exact absurd z (by decide)
      · exact kid 1 (by omega) _ hx
      · rw [hx] at h5; exact absurd h5 (by show ¬ (24 : Int32) = 5; decide)
    · have har : gr_ar (yo k) = 2 := cm_ar2 (by rcases z with y | y | y | y | y | y <;> rw [y] <;> decide)
      rw [cn_c_bi (gd 0 (by omega)) (gd 1 (by omega)) z] at hx
      unfold cn_seq at hx
      rw [List.mem_append, List.mem_append, List.mem_singleton] at hx
      rcases hx with hx | hx | hx
      · exact kid 0 (by omega) _ hx
      · exact kid 1 (by omega) _ hx
      · rw [hx] at h5
        have h5' : yo k = 5 := h5
        rw [h5'] at z
        exact absurd z (by decide)
theorem cq_kid (hN : N ≤ 40) (hop : ∀ j, j < N → ∃ t, t < 24 ∧ yo j = nI t ∧ t ≠ 6 ∧ t ≠ 7 ∧ t ≠ 9) (hP : ∀ k i, k < N → i < gr_ar (yo k) → k < yp k i ∧ yp k i < N) {k i : Nat} (hk : k < N) (hi : i < gr_ar (yo k)) (a : Nat) : ∃ a2, ∀ x, x ∈ cn_c yo yn ya yc yp (yp k i) a2 → x ∈ cn_c yo yn ya yc yp k a := by
  have gd : ∀ i, i < gr_ar (yo k) → k < yp k i ∧ yp k i < 40 := fun i hi => ⟨(hP k i hk hi).1, by have := (hP k i hk hi).2; omega⟩
  rcases cq_cl hop hk with z | z | z | z | z | z | z
  · have har : gr_ar (yo k) = 0 := if_pos z
    omega
  · have har : gr_ar (yo k) = 1 := cm_ar1 (by rcases z with y | y | y <;> rw [y] <;> decide)
    have : i = 0 := by omega
    subst this
    exact ⟨a, fun x hx => by rw [cn_c_un (gd 0 hi) z]; exact List.mem_append.mpr (Or.inl hx)⟩
  · have har : gr_ar (yo k) = 1 := cm_ar1 (by rcases z with y | y <;> rw [y] <;> decide)
    have : i = 0 := by omega
    subst this
    exact ⟨a, fun x hx => by rw [cn_c_si (gd 0 hi) z]; exact List.mem_append.mpr (Or.inl hx)⟩
  · have har : gr_ar (yo k) = 3 := by rw [z]; decide
    have c : i = 0 ∨ i = 1 ∨ i = 2 := by omega
    rw [cn_c_if (gd 0 (by omega)) (gd 1 (by omega)) (gd 2 (by omega)) z]
    unfold cn_seq
    rcases c with rfl | rfl | rfl
    · exact ⟨_, fun x hx => List.mem_append.mpr (Or.inl hx)⟩
    · exact ⟨_, fun x hx => List.mem_append.mpr (Or.inr (List.mem_cons_of_mem _ (List.mem_append.mpr (Or.inl hx))))⟩
    · exact ⟨_, fun x hx => List.mem_append.mpr (Or.inr (List.mem_cons_of_mem _ (List.mem_append.mpr (Or.inr (List.mem_cons_of_mem _ hx)))))⟩
  · have har : gr_ar (yo k) = 2 := cm_ar2 (by rcases z with y | y <;> rw [y] <;> decide)
    have c : i = 0 ∨ i = 1 := by omega
    rw [cn_c_lo (gd 0 (by omega)) (gd 1 (by omega)) z]
    unfold cn_seq
    rcases c with rfl | rfl
    · exact ⟨_, fun x hx => List.mem_append.mpr (Or.inl hx)⟩
    · exact ⟨_, fun x hx => List.mem_append.mpr (Or.inr (List.mem_cons_of_mem _ hx))⟩
  · have har : gr_ar (yo k) = 2 := cm_ar2 (by rcases z with y | y | y <;> rw [y] <;> decide)
    have c : i = 0 ∨ i = 1 := by omega
    rw [cn_c_qn (gd 0 (by omega)) (gd 1 (by omega)) z]
    unfold cn_seq
    rcases c with rfl | rfl
    · exact ⟨_, fun x hx => List.mem_append.mpr (Or.inl hx)⟩
    · exact ⟨_, fun x hx => List.mem_append.mpr (Or.inr (List.mem_cons_of_mem _ (List.mem_append.mpr (Or.inl hx))))⟩
  · have har : gr_ar (yo k) = 2 := cm_ar2 (by rcases z with y | y | y | y | y | y <;> rw [y] <;> decide)
    have c : i = 0 ∨ i = 1 := by omega
    rw [cn_c_bi (gd 0 (by omega)) (gd 1 (by omega)) z]
    unfold cn_seq
    rcases c with rfl | rfl
    · exact ⟨_, fun x hx => List.mem_append.mpr (Or.inl hx)⟩
    · exact ⟨_, fun x hx => List.mem_append.mpr (Or.inr (List.mem_append.mpr (Or.inl hx)))⟩
theorem cq_all (hN : N ≤ 40) (hop : ∀ j, j < N → ∃ t, t < 24 ∧ yo j = nI t ∧ t ≠ 6 ∧ t ≠ 7 ∧ t ≠ 9) (hP : ∀ k i, k < N → i < gr_ar (yo k) → k < yp k i ∧ yp k i < N) (hroot : ∀ j, 0 < j → j < N → ∃ q i, q < j ∧ i < gr_ar (yo q) ∧ i < 3 ∧ j = yp q i) : ∀ j, j < N → ∃ a, ∀ x, x ∈ cn_c yo yn ya yc yp j a → x ∈ cn_c yo yn ya yc yp 0 0 := by
  intro j
  induction j using Nat.strongRecOn with
  | _ j ih =>
    intro hj
    by_cases z : j = 0
    · subst z; exact ⟨0, fun x hx => hx⟩
    · obtain ⟨q, i, q1, q2, q3, q4⟩ := hroot j (by omega) hj
      obtain ⟨a, ha⟩ := ih q q1 (by omega)
      obtain ⟨a2, ha2⟩ := cq_kid (yn := yn) (ya := ya) (yc := yc) hN hop hP (by omega : q < N) q2 a
      rw [← q4] at ha2
      exact ⟨a2, fun x hx => ha x (ha2 x hx)⟩
theorem cq_calls (hN : N ≤ 40) (hop : ∀ j, j < N → ∃ t, t < 24 ∧ yo j = nI t ∧ t ≠ 6 ∧ t ≠ 7 ∧ t ≠ 9) (hP : ∀ k i, k < N → i < gr_ar (yo k) → k < yp k i ∧ yp k i < N) (hroot : ∀ j, 0 < j → j < N → ∃ q i, q < j ∧ i < gr_ar (yo q) ∧ i < 3 ∧ j = yp q i) (h0 : 0 < N) (v : Nat) : (∃ c, c < (cn_c yo yn ya yc yp 0 0).length ∧ (ci_x (cn_c yo yn ya yc yp 0 0) c).1 = 5 ∧ (ci_x (cn_c yo yn ya yc yp 0 0) c).2.1 = nI v) ↔ ∃ j, j < N ∧ yo j = 5 ∧ yn j = nI v := by
  constructor
  · rintro ⟨c, c1, c2, c3⟩
    have hx : ci_x (cn_c yo yn ya yc yp 0 0) c ∈ cn_c yo yn ya yc yp 0 0 := by
      unfold ci_x
      rw [List.getElem?_eq_getElem c1]
      exact List.getElem_mem c1
    obtain ⟨j, j1, j2, j3⟩ := cq_in hN hop hP N 0 h0 (by omega) 0 _ hx c2
    exact ⟨j, j1, j2, j3.trans c3⟩
  · rintro ⟨j, j1, j2, j3⟩
    obtain ⟨a, ha⟩ := cq_all (yn := yn) (ya := ya) (yc := yc) hN hop hP hroot j j1
    have har : gr_ar (yo j) = 1 := by rw [j2]; decide
    have g0 := hP j 0 j1 (by omega)
    have hm : (yo j, yn j, 0, ya j) ∈ cn_c yo yn ya yc yp 0 0 := ha _ (by rw [cn_c_un ⟨g0.1, by omega⟩ (Or.inr (Or.inr j2))]; exact List.mem_append.mpr (Or.inr (List.mem_singleton.mpr rfl)))
    obtain ⟨c, c1, c2⟩ := List.getElem_of_mem hm
    refine ⟨c, c1, ?_, ?_⟩
    · rw [ci_get (List.getElem?_eq_getElem c1), c2]; exact j2
    · rw [ci_get (List.getElem?_eq_getElem c1), c2]; exact j3
end
theorem cz_ms_or {g : Nat → Nat} {n : Nat} : ∀ N, (∀ j, j < N → g j = 100 ∨ g j < n) → cz_ms g N = 100 ∨ cz_ms g N < n
  | 0, _ => Or.inl rfl
  | N + 1, h => by
    have a := cz_ms_or N (fun j hj => h j (by omega))
    have b := h N (by omega)
    show min (cz_ms g N) (g N) = 100 ∨ min (cz_ms g N) (g N) < n
    omega
/-- what the table of nodes says of each node -/
theorem cl_facts {T : Nat → Nat} {tv : Nat → Int32} {n N : Nat} (hn : n ≤ 40) (hT : ∀ i, i < n → T i < 23) (hT6 : ∀ i, i < n → T i = 1 ∨ T i = 2 ∨ T i = 5 → ∃ x, x < 6 ∧ tv i = nI x) {lN hN bN cN : Nat → Nat} {op nm ay prt ylo yhi : Nat → Int32} (hI : cl_I T tv n N N lN hN bN cN op nm ay prt ylo yhi) :
    N ≤ n ∧ 0 < N ∧ (∀ j i, j < N → i < gr_ar (op (240 + j)) → prt ((240 + j) * 3 + i) = nI (240 + (bN j + i)) ∧ j < bN j + i ∧ bN j + i < N) ∧ (∀ j, j < N → op (240 + j) = 5 → ∃ x, x < 6 ∧ nm (240 + j) = nI x) ∧ (∀ j, j < N → ∃ t, t < 24 ∧ op (240 + j) = nI t ∧ t ≠ 6 ∧ t ≠ 7 ∧ t ≠ 9) ∧ (∀ j, j < N → ∃ p, p < n ∧ ay (240 + j) = nI p) ∧ (∀ j, 0 < j → j < N → ∃ q i, q < j ∧ i < gr_ar (op (240 + q)) ∧ i < 3 ∧ j = bN q + i) := by
  obtain ⟨i1, i2, i3, i3a, i3b, i4, i5, i6⟩ := hI
  refine ⟨by omega, i1, fun j i hj hi => ?_, fun j hj h5 => ?_, fun j hj => ?_, fun j hj => ?_, fun j h0 hj => ?_⟩
  · obtain ⟨p, ch, f, q1, q2, q3, q4, q5, q6⟩ := i5 j hj
    have e := (cs_L_ar hT q1).1
    have il : i < ch.length := by omega
    obtain ⟨r1, _, _⟩ := q6 i _ (List.getElem?_eq_getElem il)
    exact ⟨r1, by omega, by omega⟩
  · obtain ⟨p, ch, f, q1, q2, q3, q4, q5, q6⟩ := i5 j hj
    obtain ⟨i, a, b, c⟩ := (cs_L_ar hT q1).2 h5
    obtain ⟨x, hx, ex⟩ := hT6 i a (by omega)
    exact ⟨x, hx, c.trans ex⟩
  · obtain ⟨p, ch, f, q1, q2, q3, q4, q5, q6⟩ := i5 j hj
    exact cs_L_op hT q1
  · obtain ⟨p, ch, f, q1, q2, q3, q4, q5, q6⟩ := i5 j hj
    exact ⟨p, (cs_L_ch q1).2.2.2, q2⟩
  · obtain ⟨q, i, a1, a2, a3⟩ := i6 j h0 hj
    obtain ⟨p, ch, f, q1, q2, q3, q4, q5, q6⟩ := i5 q a1
    have e := (cs_L_ar hT q1).1
    have l3 := (cs_L_ch q1).2.1
    exact ⟨q, i, by omega, by omega, by omega, a3⟩
end
section
theorem cw_ar3 (t : Int32) : gr_ar t ≤ 3 := by
  unfold gr_ar; repeat' split
  all_goals omega
theorem cw_keep {q r : Nat} {kind : Int32} {rk rl ro ra rt rp rn op nm ay prt rl' ro' ra' rt' rp' rn' op' nm' ay' prt' : Nat → Int32} (hq : q < 6) (hqr : q ≠ r) (hkq : ¬ rk q = 0) (hQ : gr_Q q rk rl ro ra rt rp rn op nm ay prt) (h1 : rl' q = rl q) (h2 : rn' q = rn q) (h3 : ∀ j, q * 40 ≤ j → j < q * 40 + 40 → ro' j = ro j ∧ ra' j = ra j ∧ rt' j = rt j ∧ rp' j = rp j) (h4 : ∀ j, q * 40 ≤ j → j < q * 40 + 40 → op' j = op j ∧ nm' j = nm j ∧ ay' j = ay j) (h5 : ∀ j, q * 40 * 3 ≤ j → j < (q * 40 + 40) * 3 → prt' j = prt j) (hc : rk r = kind ∨ rk r = 0 ∨ ¬ cf_D rk rn op nm q r) : gr_Q q (upd rk r kind) rl' ro' ra' rt' rp' rn' op' nm' ay' prt' := by
  obtain ⟨len, nn, f, xo, xa, xt, xp, yo, yn, ya, yp, d1, d2, d3, d4, d5, d6, d7, d8, d9, d10⟩ := hQ
  refine ⟨len, nn, f, xo, xa, xt, xp, yo, yn, ya, yp, d1, d2, d3, h1.trans d4, h2.trans d5, fun j hj => ?_, fun j hj => ?_, fun j i hj hi => ?_, d9, ?_⟩
  · obtain ⟨a, b, c, d⟩ := h3 (q * 40 + j) (by omega) (by omega)
    rw [a, b, c, d]; exact d6 j hj
  · obtain ⟨a, b, c⟩ := h4 (q * 40 + j) (by omega) (by omega)
    rw [a, b, c]; exact d7 j hj
  · have := cw_ar3 (yo j)
    rw [h5 _ (by omega) (by omega)]; exact d8 j i hj hi
  · rw [pk_un hqr]
    refine ci_rk (fun j v hj hj5 hjv hv hvk => ?_) d10
    by_cases z : v = r
    · subst z
      rcases hc with z | z | z
      · rw [pk_us]; exact z.symm
      · rw [z] at hvk; exact absurd hvk (by decide)
      · exact absurd ⟨hkq, j, nn, d5, d3, hj, (d7 j hj).1.trans hj5, (d7 j hj).2.1.trans hjv⟩ z
    · exact pk_un z
theorem cw_draft {rk rl ro ra rt rp rn op nm ay prt rl' ro' ra' rt' rp' op' nm' ay' prt' : Nat → Int32} (hU : gr_U rk rl ro ra rt rp rn op nm ay prt) (h1 : ∀ j, j < 6 → rl' j = rl j) (h3 : ∀ j, j < 240 → ro' j = ro j ∧ ra' j = ra j ∧ rt' j = rt j ∧ rp' j = rp j) (h4 : ∀ j, j < 240 → op' j = op j ∧ nm' j = nm j ∧ ay' j = ay j) (h5 : ∀ j, j < 720 → prt' j = prt j) : gr_U rk rl' ro' ra' rt' rp' rn op' nm' ay' prt' := by
  intro q hq
  rcases hU q hq with ⟨a, b⟩ | ⟨a, b⟩
  · exact Or.inl ⟨a, (h1 q hq).trans b⟩
  · have hkq : ¬ rk q = 0 := by rcases a with z | z <;> rw [z] <;> decide
    have e : rk = upd rk (q + 1) (rk (q + 1)) := by
      funext j
      by_cases z : j = q + 1
      · rw [z, pk_us]
      · rw [pk_un z]
    have := cw_keep (r := q + 1) (kind := rk (q + 1)) hq (by omega) hkq b (h1 q hq) rfl (fun j x y => h3 j (by omega)) (fun j x y => h4 j (by omega)) (fun j x y => h5 j (by omega)) (Or.inl rfl)
    rw [← e] at this
    exact Or.inr ⟨a, this⟩
theorem cw_CD {rk rl ro ra rt rp rn op nm ay prt : Nat → Int32} (hU : gr_U rk rl ro ra rt rp rn op nm ay prt) {q r : Nat} (hq : q < 6) (hr : r < 6) : cf_C rl ro ra q r ↔ cf_D rk rn op nm q r := by
  rcases hU q hq with ⟨a, b⟩ | ⟨a, b⟩
  · constructor
    · rintro ⟨c, len, c1, c2, c3, _⟩
      have : len = 0 := (nI_eq (b := 0) (by omega) (by decide)).1 (c1.symm.trans b)
      omega
    · rintro ⟨c, _⟩; exact absurd a c
  · obtain ⟨len, nn, f, xo, xa, xt, xp, yo, yn, ya, yp, d1, d2, d3, d4, d5, d6, d7, d8, d9, d10⟩ := b
    have hkq : ¬ rk q = 0 := by rcases a with z | z <;> rw [z] <;> decide
    constructor
    · rintro ⟨c, len', c1, c2, c3, c4, c5⟩
      have e : len' = len := (nI_eq (by omega) (by omega)).1 (c1.symm.trans d4)
      subst e
      obtain ⟨j, j1, j2, j3⟩ := (d9 r hr).1 ⟨c, c3, (d6 c c3).1.symm.trans c4, (d6 c c3).2.1.symm.trans c5⟩
      exact ⟨hkq, j, nn, d5, d3, j1, (d7 j j1).1.trans j2, (d7 j j1).2.1.trans j3⟩
    · rintro ⟨_, j, nn', n1, n2, n3, n4, n5⟩
      have e : nn' = nn := (nI_eq (by omega) (by omega)).1 (n1.symm.trans d5)
      subst e
      obtain ⟨c, c1, c2, c3⟩ := (d9 r hr).2 ⟨j, n3, (d7 j n3).1.symm.trans n4, (d7 j n3).2.1.symm.trans n5⟩
      exact ⟨c, len, d4, d2, c1, (d6 c c1).1.trans c2, (d6 c c1).2.1.trans c3⟩
theorem cw_pu {T : Nat → Nat} {yo yn ya yc rk : Nat → Int32} {yp : Nat → Nat → Nat} {k q L : Nat} : cm_se T q [] (cm_pu yo yn ya yc rk yp k [] [] L) = some ([], ([cn_k yo yn rk yp k], cn_c yo yn ya yc yp k 0, min L (cn_b yo yn ya rk yp k))) := by
  unfold cm_pu
  rw [List.nil_append, List.length_nil]
  unfold cm_se
  rfl
theorem cw_upd2 (f : Nat → Int32) (r : Nat) (x : Int32) : upd (upd f r x) r (f r) = f := by
  funext j
  by_cases z : j = r
  · rw [z, pk_us]
  · rw [pk_un z, pk_un z]
theorem i_vc_compile {k : Nat} {u : SX} {v : SY} (I : i_Rel k u v) (hk : k + 4 ≤ 2048) (v1 : Int32) (v2 : Int32) : wpX_compile (fun r u' => wpY_compile (fun r' v' => r' = r ∧ i_Rel (k + 4) u' v') v v1 v2) u v1 v2 := by
  refine gr_el (P := fun u v => wpX_compile (fun r u' => wpY_compile (fun r' v' => r' = r ∧ i_Rel (k + 4) u' v') v v1 v2) u v1 v2) I ?_
  intro o n cp lc sc kc dp vc er ep uu nds sts sp lv ret out cls num lnk lsz lit fb tk tv rk rl ro ra rt rp oo co sk kd fr fn fi vs ll li lt prp opd rn op nm ay prt ylo yhi sN sP sX sK it vr hO hT hU
  have R : i_Rel (k + 4) (nI o, nI n, cp, lc, sc, kc, dp, vc, er, ep, uu, cls, num, lnk, lsz, lit, fb, tk, tv, rk, rl, ro, ra, rt, rp, oo, co, sk, kd, fr, fn, fi, vs, ll, li, lt) (nI o, nI n, cp, nds, sts, er, ep, uu, sp, lv, ret, out, cls, prp, lit, lsz, fb, tk, tv, opd, rk, rn, op, nm, ay, prt, ylo, yhi, sN, sP, sX, sK, it, vr) := gr_mk hO hT hU
  rcases pk_ix v1 (n := 6) (by omega) with h | h | ⟨r, hr, rfl⟩
  · exact br_t h (br_t h ⟨rfl, R⟩)
  · obtain ⟨j, hj, hj2, rfl⟩ := gr_ge (by omega) h
    exact br_f (nI_pos hj2) (br_t (nI_le (a := 6) hj hj2) (br_f (nI_pos hj2) (br_t (nI_lt (a := 5) hj hj2) ⟨rfl, R⟩)))
  have r0 : ¬ nI r < 0 := nI_pos (by omega)
  have r6 : ¬ 6 ≤ nI r := nI_ge (b := 6) hr (by decide)
  have r5 : ¬ 5 < nI r := nI_nlt (a := 5) (by omega) (by omega)
  by_cases hkd : v2 = 1 ∨ v2 = 2
  rotate_left 1
  · have k1 : ¬ v2 = 1 := fun z => hkd (Or.inl z)
    have k2 : ¬ v2 = 2 := fun z => hkd (Or.inr z)
    exact br_f r0 (br_f r6 (br_f k1 (br_f k2 (br_f r0 (br_f r5 (br_f k1 (br_f k2 ⟨rfl, R⟩)))))))
  have XL : ∀ post : Int32 → SX → Prop, wX_compile_22 post (nI r) v2 (nI o) (nI n) cp lc sc kc dp vc er ep uu cls num lnk lsz lit fb tk tv rk rl ro ra rt rp oo co sk kd fr fn fi vs ll li lt → wpX_compile post (nI o, nI n, cp, lc, sc, kc, dp, vc, er, ep, uu, cls, num, lnk, lsz, lit, fb, tk, tv, rk, rl, ro, ra, rt, rp, oo, co, sk, kd, fr, fn, fi, vs, ll, li, lt) (nI r) v2 := by
    intro post H
    rcases hkd with z | z
    · exact br_f r0 (br_f r6 (br_t z H))
    · exact br_f r0 (br_f r6 (br_f (by rw [z]; decide) (br_t z H)))
  have YL : ∀ post : Int32 → SY → Prop, wY_compile_21 post (nI r) v2 (nI o) (nI n) (cp) nds sts (er) (ep) (uu) sp lv ret out (cls) prp (lit) (lsz) (fb) (tk) (tv) opd (rk) rn op nm ay prt ylo yhi sN sP sX sK it vr → wpY_compile post (nI o, nI n, cp, nds, sts, er, ep, uu, sp, lv, ret, out, cls, prp, lit, lsz, fb, tk, tv, opd, rk, rn, op, nm, ay, prt, ylo, yhi, sN, sP, sX, sK, it, vr) (nI r) v2 := by
    intro post H
    rcases hkd with z | z
    · exact br_f r0 (br_f r5 (br_t z H))
    · exact br_f r0 (br_f r5 (br_f (by rw [z]; decide) (br_t z H)))
  refine XL _ ?_
  obtain ⟨hn, hTk⟩ := id hT
  obtain ⟨T, eT⟩ : ∃ T : Nat → Nat, T = fun i => (tk i).toNatClampNeg := ⟨_, rfl⟩
  have hK : ∀ i, i < n → tk i = nI (T i) ∧ T i < 23 := by
    intro i hi
    obtain ⟨t, t1, t2, _⟩ := hTk i hi
    rw [eT]
    dsimp only
    rw [t2, nI_clamp (by omega)]
    exact ⟨rfl, t1⟩
  have hTt : ∀ i, i < n → ∀ t, tk i = nI t → t < 23 → T i = t := by
    intro i hi t h1 h2
    rw [eT]
    dsimp only
    rw [h1, nI_clamp (by omega)]
  have hT23 : ∀ i, i < n → T i < 23 := fun i hi => (hK i hi).2
  have hTv : ∀ i, i < n → T i = 4 ∨ 20 ≤ T i → ∃ v, v < 3 ∧ tv i = nI v := by
    intro i hi h
    obtain ⟨t, t1, t2, t3, t4⟩ := hTk i hi
    rw [hTt i hi t t2 t1] at h
    exact t4 h
  have hT6 : ∀ i, i < n → T i = 1 ∨ T i = 2 ∨ T i = 5 → ∃ x, x < 6 ∧ tv i = nI x := by
    intro i hi h
    obtain ⟨t, t1, t2, t3, t4⟩ := hTk i hi
    rw [hTt i hi t t2 t1] at h
    exact t3 h
  clear hTt eT
  -- the grammar
  obtain ⟨s1, sc1, oo1, sk1, opd1, sX1, sY1, sR⟩ := ca_syn (oc := nI o) (cp := cp) (lc := lc) (kc := kc) (dp := dp) (vc := vc) (er := er) (ep := ep) (uu := uu) (cls := cls) (num := num) (lnk := lnk) (lsz := lsz) (lit := lit) (fb := fb) (rk := rk) (rl := rl) (ro := ro) (ra := ra) (rt := rt) (rp := rp) (co := co) (kd := kd) (fr := fr) (fn := fn) (fi := fi) (vs := vs) (ll := ll) (li := li) (lt := lt) (ob := nI o) (pl := cp) (nds := nds) (sts := sts) (res := er) (era := ep) (usd := uu) (sp := sp) (lv := lv) (ret := ret) (out := out) (ycls := cls) (prp := prp) (lst := lit) (siz := lsz) (dnd := fb) (yrk := rk) (rn := rn) (op := op) (nm := nm) (ay := ay) (prt := prt) (ylo := ylo) (yhi := yhi) (sN := sN) (sP := sP) (sX := sX) (sK := sK) (it := it) (vr := vr) (tk := tk) (tv := tv) (n := n) (T := T) hn hK sc oo sk opd
  refine sX1 _ ?_
  rcases sR with ⟨e1, hA, hoo0⟩ | ⟨j, hj, e1⟩
  rotate_left 1
  · subst e1
    exact br_f (gr_m1 (by omega)) (YL _ (sY1 _ (br_f (nI_pos (by omega)) ⟨rfl, gr_mk hO hT hU⟩)))
  subst e1
  refine br_t rfl ?_
  -- the bindings
  obtain ⟨s2, bX, bY, bR⟩ := cb_both (oc := nI o) (cp := -1) (lc := lc) (sc := sc1) (kc := kc) (dp := dp) (vc := vc) (er := er) (ep := ep) (uu := uu) (cls := cls) (num := num) (lnk := lnk) (lsz := lsz) (lit := lit) (fb := fb) (rk := rk) (rl := rl) (ro := ro) (ra := ra) (rt := rt) (rp := rp) (oo := oo1) (co := co) (sk := sk1) (kd := kd) (fr := fr) (fn := fn) (fi := fi) (vs := vs) (ll := ll) (li := li) (lt := lt) (ob := nI o) (pl := cp) (nds := nds) (sts := sts) (res := er) (era := ep) (usd := uu) (sp := sp) (lv := lv) (ret := ret) (out := out) (ycls := cls) (prp := prp) (lst := lit) (siz := lsz) (dnd := fb) (opd := opd1) (yrk := rk) (rn := rn) (op := op) (nm := nm) (ay := ay) (prt := prt) (ylo := ylo) (yhi := yhi) (sN := sN) (sP := sP) (sX := sX) (sK := sK) (it := it) (vr := vr) (tk := tk) (tv := tv) (n := n) (T := T) hn hK hA hTv hoo0
  refine bX _ ?_
  rcases bR with ⟨e2, hD⟩ | ⟨j, hj, e2⟩
  rotate_left 1
  · subst e2
    exact br_f (gr_m1 (by omega)) (YL _ (sY1 _ (br_t (by decide) (bY _ (br_f (nI_pos (by omega)) ⟨rfl, gr_mk hO hT hU⟩)))))
  subst e2
  refine br_t rfl ?_
  -- the rules that are called
  rcases cu_both (oc := nI o) (cp := -1) (lc := lc) (sc := sc1) (kc := kc) (dp := dp) (vc := vc) (er := er) (ep := ep) (uu := uu) (cls := cls) (num := num) (lnk := lnk) (lsz := lsz) (lit := lit) (fb := fb) (rk := rk) (rl := rl) (ro := ro) (ra := ra) (rt := rt) (rp := rp) (oo := oo1) (co := co) (sk := sk1) (kd := kd) (fr := fr) (fn := fn) (fi := fi) (vs := vs) (ll := ll) (li := li) (lt := lt) (ob := nI o) (pl := cp) (nds := nds) (sts := sts) (res := er) (era := ep) (usd := uu) (sp := sp) (lv := lv) (ret := ret) (out := out) (ycls := cls) (prp := prp) (lst := lit) (siz := lsz) (dnd := fb) (opd := opd1) (rn := rn) (op := op) (nm := nm) (ay := ay) (prt := prt) (ylo := ylo) (yhi := yhi) (sN := sN) (sP := sP) (sX := sX) (sK := sK) (it := it) (vr := vr) (tk := tk) (tv := tv) (n := n) (T := T) hn hK hT6 (nI r) v2 with ⟨hUk, uX, uY⟩ | ⟨j, hj, uX, uY⟩
  rotate_left 1
  · refine uX _ ?_
    exact br_f (gr_m1 (by omega)) (YL _ (sY1 _ (br_t (by decide) (bY _ (br_t (by decide) (uY _ ⟨rfl, gr_mk hO hT hU⟩))))))
  refine uX _ ?_
  refine br_t rfl ?_
  -- the nodes
  have hoo : ∀ j, j < n → T j = 7 ∨ T j = 9 → oo1 j = nI (ca_o T j) ∧ ca_o T j < j := by
    intro j hj h
    refine ⟨hoo0 j hj h, ?_⟩
    have rl9 := ca_rule hA hj
    have hd : ∃ e rr, ca_Z T j = e :: rr := by
      rcases rl9 with ⟨_, t, _⟩ | ⟨_, t, _⟩ | ⟨_, t, _⟩ | ⟨_, t, _⟩ | ⟨_, t, _⟩ | ⟨_, t, _⟩ | ⟨_, t, _⟩ | ⟨_, t, _, e, rr, z, _⟩ | ⟨_, t, _, e, rr, z, _⟩ | ⟨_, t, _, e, rr, z, _⟩ | ⟨_, t, _⟩
      all_goals first | exact ⟨e, rr, z⟩ | omega
    obtain ⟨e, rr, z⟩ := hd
    rw [cg_opn hA (by omega) z]
    obtain ⟨a1, a2, a3, a4, a5⟩ := ca_ent hA (i := j) (by omega) [] e rr z
    by_cases t9 : T e.1 = 9
    · have := (a5 t9).2.2; omega
    · have := (a4 t9).1; omega
  have hQ : ∀ j, j < n → T j = 7 → 20 ≤ T (ca_o T j) → cx_J T j (ca_o T j) := by
    intro j hj h7 h20
    rcases ca_rule hA hj with ⟨_, t, _⟩ | ⟨_, t, _⟩ | ⟨_, t, _⟩ | ⟨_, t, _⟩ | ⟨_, t, _⟩ | ⟨_, t, _⟩ | ⟨_, t, _⟩ | ⟨_, t, _⟩ | ⟨_, t, _⟩ | ⟨_, t, _, e, rr, z, t1, _⟩ | ⟨_, t, _⟩
    all_goals first | omega | skip
    obtain ⟨a1, a2, a3, a4, a5⟩ := ca_ent hA (i := j) (by omega) [] e rr z
    have eo := cg_opn hA (by omega : j ≤ n) z
    rw [eo] at h20 ⊢
    by_cases t9 : T e.1 = 9
    · exact ⟨e.1, a1, t9, (cg_opn (e := (e.2, e.2)) hA (by omega) (a5 t9).2.1)⟩
    · have := (a4 t9).1
      rw [this] at h20; omega
  have hC : ∀ j, j < n → T j = 9 → T (ca_o T j) = 8 ∨ 20 ≤ T (ca_o T j) := by
    intro j hj h9
    rcases ca_rule hA hj with ⟨_, t, _⟩ | ⟨_, t, _⟩ | ⟨_, t, _⟩ | ⟨_, t, _⟩ | ⟨_, t, _⟩ | ⟨_, t, _⟩ | ⟨_, t, _⟩ | ⟨_, t, _, e, rr, z, t1, _⟩ | ⟨_, t, _, e, rr, z, t1, _⟩ | ⟨_, t, _⟩ | ⟨_, t, _⟩
    all_goals first | omega | skip
    · rw [cg_opn hA (by omega) z]
      have := ((ca_ent hA (i := j) (by omega) [] e rr z).2.2.2.1 (by omega)).1
      rw [this]; exact Or.inl t1
    · rw [cg_opn hA (by omega) z]
      have := ((ca_ent hA (i := j) (by omega) [] e rr z).2.2.2.1 (by omega)).1
      rw [this]; exact Or.inr t1
  obtain ⟨N, lN, hNN, bN, cN, op1, nm1, ay1, prt1, ylo1, yhi1, I1, E1, E2, HL⟩ := cl_loop (ob := nI o) (pl := cp) (sts := sts) (res := er) (era := ep) (usd := uu) (sp := sp) (lv := lv) (ret := ret) (out := out) (ycls := cls) (prp := prp) (lst := lit) (siz := lsz) (dnd := fb) (opd := opd1) (yrk := rk) (rn := rn) (sN := sN) (sP := sP) (sX := sX) (sK := sK) (it := it) (vr := vr) (tk := tk) (tv := tv) (n := n) (T := T) hn hK hA n (cl_start (op := op) (nm := nm) (ay := ay) (prt := prt) (ylo := upd ylo 240 0) (yhi := upd yhi 240 (nI n)) hA pk_us pk_us) (by omega)
  obtain ⟨hNn, hN0, hY, hY5, hop, hay, hroot⟩ := cl_facts hn hT23 hT6 I1
  have hN40 : N ≤ 40 := by omega
  -- the tree
  have hP : ∀ k i, k < N → i < gr_ar (op1 (240 + k)) → k < bN k + i ∧ bN k + i < N := fun k i a b => (hY k i a b).2
  have hP40 : ∀ k i, k < N → i < gr_ar ((fun j => op1 (240 + j)) k) → k < (fun j i => bN j + i) k i ∧ (fun j i => bN j + i) k i < 40 := fun k i a b => ⟨(hP k i a b).1, by have := (hP k i a b).2; show bN k + i < 40; omega⟩
  obtain ⟨p0, ch0, f0, L0, ea0, b0a, b0b, b0c, b0d⟩ := I1.2.2.2.2.2.2.1 0 hN0
  rw [I1.2.2.2.1, I1.2.2.2.2.1] at L0
  obtain ⟨w, hw1, hG⟩ := cg_all hA hn hT23 hTv hT6 hD I1 n 0 0 n f0 p0 ch0 hN0 (by omega) L0 ea0 (fun i c hc => ⟨by
    obtain ⟨z, _⟩ := List.getElem?_eq_some_iff.1 hc
    omega, (b0d i c hc).2⟩) 1 cg_LB1
  have eB : cg_B T tv 0 = fun _ => False := by
    funext x
    apply propext
    constructor
    · rintro ⟨_, e, he, _⟩
      rw [ca_Z0] at he
      exact absurd he List.not_mem_nil
    · intro z; exact absurd z id
  rw [eB] at hG
  -- the pass over the tokens
  obtain ⟨st, hrun, hse, _⟩ := cm_main (rk := upd rk r v2) hP40 n _ 0 w 0 n hG (by omega) [] [] [] (n + 1) (by omega) (fun e r h => by cases h)
  have hse1 := (hse 1 hw1).trans cw_pu
  rw [Nat.sub_zero] at hrun
  have hcl := ci_len (n := n) hP40 n _ 0 w 0 n hG 0
  have hs : ∀ j, j < N → cn_s (fun j => op1 (240 + j)) (fun j => nm1 (240 + j)) (fun j => ay1 (240 + j)) (upd rk r v2) (fun j i => bN j + i) j = 100 ∨ cn_s (fun j => op1 (240 + j)) (fun j => nm1 (240 + j)) (fun j => ay1 (240 + j)) (upd rk r v2) (fun j i => bN j + i) j < n := by
    intro j hj
    unfold cn_s
    split
    · exact Or.inl rfl
    · obtain ⟨p, hp, e⟩ := hay j hj
      refine Or.inr ?_
      show (ay1 (240 + j)).toNatClampNeg < n
      rw [e, nI_clamp (by omega)]; exact hp
  have hb := cz_b (yrk := upd rk r v2) (ay := ay1) (yp := (fun j i => bN j + i)) hN40 hY hY5 (fun j hj => by rcases hs j hj with z | z <;> omega) hroot hN0
  have hms := cz_ms_or N hs
  rw [hb] at hse1
  have hEn : ∃ (K : Int32) (code : List cm_I) (mb : Nat), K = cn_k (fun j => op1 (240 + j)) (fun j => nm1 (240 + j)) (upd rk r v2) (fun j i => bN j + i) 0 ∧ code = cn_c (fun j => op1 (240 + j)) (fun j => nm1 (240 + j)) (fun j => ay1 (240 + j)) (fun j => nI (hNN (bN j + 1))) (fun j i => bN j + i) 0 0 ∧ mb = cz_ms (cn_s (fun j => op1 (240 + j)) (fun j => nm1 (240 + j)) (fun j => ay1 (240 + j)) (upd rk r v2) (fun j i => bN j + i)) N := ⟨_, _, _, rfl, rfl, rfl⟩
  obtain ⟨K, code, mb, eK, ecode, emb⟩ := hEn
  rw [← eK, ← ecode, ← emb] at hse1
  rw [← ecode] at hcl
  rw [← emb] at hms hb
  have hE : ∀ c mb : Nat, (c = 100 ∨ c = n) → (mb = 100 ∨ mb < n) → (if min (min (n + 1) mb) c ≤ n then nI (min (min (n + 1) mb) c) else (-1 : Int32)) = cz_enc (min c mb) := by
    intro c mb h1 h2
    unfold cz_enc
    by_cases z : min c mb < 100
    · rw [if_pos z, if_pos (by omega), show min (min (n + 1) mb) c = min c mb by omega]
    · rw [if_neg z, if_neg (by omega)]
  have hc0 : (if K = v2 then 100 else n) = 100 ∨ (if K = v2 then 100 else n) = n := by
    split
    · exact Or.inl rfl
    · exact Or.inr rfl
  have cr : (nI r).toNatClampNeg = r := nI_clamp (by omega)
  have ir : vp_in (nI r) 6 := vp_in_nI hr (by decide)
  have ir7 : vp_in (nI r) 7 := vp_in_nI (by omega) (by decide)
  -- the reference
  have YS : ∀ post : Int32 → SY → Prop, (∀ m, wY_compile_134 post (nI r) v2 (m + 1) (nI (240 + N)) (nI o) (nI n) (cp) (nI (240 + N)) sts (er) (ep) (uu) sp lv ret out (cls) prp (lit) (lsz) (fb) (tk) (tv) (opd1) (rk) rn (op1) (nm1) (ay1) (prt1) (ylo1) (yhi1) sN sP sX sK it vr) → wpY_compile post (nI o, nI n, cp, nds, sts, er, ep, uu, sp, lv, ret, out, cls, prp, lit, lsz, fb, tk, tv, opd, rk, rn, op, nm, ay, prt, ylo, yhi, sN, sP, sX, sK, it, vr) (nI r) v2 := by
    intro post H
    refine YL _ (sY1 _ (br_t (by decide) (bY _ (br_t (by decide) (uY _ ?_)))))
    refine br_t (nI_le (Nat.le_refl n) (by omega)) ?_
    refine cs_add (nd := 240) (by omega) ?_
    exact HL post (nI r) v2 H
  have YE : ∀ post : Int32 → SY → Prop, (∀ e, e = cz_enc (min (if K = v2 then 100 else n) mb) → ((e < 0 → (((rk r = 0 → wY_compile_222 post (nI r) v2 (nI o) (nI n) (cp) (nI (240 + N)) sts (er) (ep) (uu) sp lv ret out (cls) prp (lit) (lsz) (fb) (tk) (tv) (opd1) (rk) rn (op1) (nm1) (ay1) (prt1) (ylo1) (yhi1) sN sP sX sK it vr) ∧ (¬ rk r = 0 → (((rk r = v2 → wY_compile_222 post (nI r) v2 (nI o) (nI n) (cp) (nI (240 + N)) sts (er) (ep) (uu) sp lv ret out (cls) prp (lit) (lsz) (fb) (tk) (tv) (opd1) (rk) rn (op1) (nm1) (ay1) (prt1) (ylo1) (yhi1) sN sP sX sK it vr) ∧ (¬ rk r = v2 → wpY_calledByAnother (fun x => ((x = 0 → wY_compile_222 post (nI r) v2 (nI o) (nI n) (cp) (nI (240 + N)) sts (er) (ep) (uu) sp lv ret out (cls) prp (lit) (lsz) (fb) (tk) (tv) (opd1) (rk) rn (op1) (nm1) (ay1) (prt1) (ylo1) (yhi1) sN sP sX sK it vr) ∧ (¬ x = 0 → post 6 (nI o, nI n, 0, nI (240 + N), sts, er, ep, uu, sp, lv, ret, out, cls, prp, lit, lsz, fb, tk, tv, opd1, rk, rn, op1, nm1, ay1, prt1, ylo1, yhi1, sN, sP, sX, sK, it, vr)))) (nI o, nI n, cp, nI (240 + N), sts, er, ep, uu, sp, lv, ret, out, cls, prp, lit, lsz, fb, tk, tv, opd1, rk, rn, op1, nm1, ay1, prt1, ylo1, yhi1, sN, sP, sX, sK, it, vr) (nI r)))))))) ∧ (¬ e < 0 → post 5 (nI o, nI n, e, nI (240 + N), sts, er, ep, uu, sp, lv, ret, out, cls, prp, lit, lsz, fb, tk, tv, opd1, rk, rn, op1, nm1, ay1, prt1, ylo1, yhi1, sN, sP, sX, sK, it, vr)))) → wpY_compile post (nI o, nI n, cp, nds, sts, er, ep, uu, sp, lv, ret, out, cls, prp, lit, lsz, fb, tk, tv, opd, rk, rn, op, nm, ay, prt, ylo, yhi, sN, sP, sX, sK, it, vr) (nI r) v2 := by
    intro post H
    refine YS post (fun m => br_t (nI_le (Nat.le_refl _) (by omega)) ⟨ir, ?_⟩)
    rw [cr]
    refine nm_r rfl ⟨ir, nm_r (e' := upd rk r v2) rfl (cz_clash (yrk := upd rk r v2) (N := N) hN40 hY hY5 (fun j hj => by
      obtain ⟨t, t1, t2, _⟩ := hop j hj
      exact ⟨t, t1, t2⟩) (fun j hj => by
      obtain ⟨t, t1, t2, t3, t4, t5⟩ := hop j hj
      rw [t2]
      exact ⟨fun y => t3 ((nI_eq (b := 6) (by omega) (by decide)).1 y), fun y => t4 ((nI_eq (b := 7) (by omega) (by decide)).1 y), fun y => t5 ((nI_eq (b := 9) (by omega) (by decide)).1 y)⟩) hay hn hN0 ?_)⟩
    rw [← eK, ← emb]
    exact ⟨ir, nm_r (e' := rk) (cw_upd2 rk r v2) (H _ rfl)⟩
  -- the Java side
  refine cx_clash hn hK hoo hQ hC (kf := fun o => upd rk r v2 (tv o).toNatClampNeg) (fun j hj h => hT6 j hj (Or.inr (Or.inr h))) (fun j hj h => by
    obtain ⟨x, hx, ex⟩ := hT6 j hj (Or.inr (Or.inr h))
    show upd rk r v2 (tv j).toNatClampNeg = _
    rw [ex, nI_clamp (by omega)]
    by_cases z : x = r
    · rw [z, pk_us, if_pos rfl]
    · rw [pk_un z, if_neg (fun y => z ((nI_eq (by omega) (by omega)).1 y))]) hrun hse1 (by
      have := hcl.1
      omega) ?_
  intro lc' sc' kc' rl' ro' ra' rt' rp' co' sk' kd' g1 g2 g3 g4
  rw [hE _ _ hc0 hms]
  have U' := cw_draft (op' := op1) (nm' := nm1) (ay' := ay1) (prt' := prt1) hU g3 g4 (fun j hj => E1 j (Or.inr hj)) (fun j hj => E2 j (Or.inr hj))
  by_cases hm : min (if K = v2 then 100 else n) mb < 100
  · -- a clash
    have ee : cz_enc (min (if K = v2 then 100 else n) mb) = nI (min (if K = v2 then 100 else n) mb) := if_pos hm
    rw [ee]
    refine br_f (gr_m1 (by omega)) (YE _ (fun e he => ?_))
    rw [ee] at he
    subst he
    exact br_f (nI_pos (by omega)) ⟨rfl, gr_mk hO hT U'⟩
  have ee : cz_enc (min (if K = v2 then 100 else n) mb) = -1 := if_neg hm
  have hK2 : K = v2 := by
    by_cases z : K = v2
    · exact z
    · rw [if_neg z] at hm; omega
  have hmb : mb = 100 := by
    rcases hms with z | z
    · exact z
    · omega
  have he' : ∀ e, e = cz_enc (min (if K = v2 then 100 else n) mb) → e < 0 := by
    intro e he
    rw [he, ee]; decide
  have h5 : ∀ l x, l < n → T l = 5 → tv l = nI x → x < 6 → upd rk r v2 x = 1 ∨ upd rk r v2 x = 2 := by
    intro l x hl t5 ex hx
    by_cases z : x = r
    · rw [z, pk_us]; exact hkd
    · rw [pk_un z]
      rcases hUk l hl t5 with y | y
      · rw [ex] at y; exact absurd ((nI_eq (by omega) (by omega)).1 y) z
      · rw [ex, nI_clamp (by omega)] at y
        rcases hU x hx with ⟨a, _⟩ | ⟨a, _⟩
        · exact absurd a y
        · exact a
  have hIm := ci_im (rk := upd rk r v2) (code := code) hn hP40 h5 n _ 0 w 0 n hG (Nat.le_refl n) (by rw [hb]; omega) 0 (by rw [← ecode]; exact fun j x h => by rw [Nat.zero_add]; exact h) (by rw [← ecode]; omega)
  rw [← ecode, Nat.zero_add, ← eK, hK2] at hIm
  have hCa : ∀ v, (∃ c, c < code.length ∧ (ci_x code c).1 = 5 ∧ (ci_x code c).2.1 = nI v) ↔ ∃ j, j < N ∧ op1 (240 + j) = 5 ∧ nm1 (240 + j) = nI v := by
    intro v
    rw [ecode]
    exact cq_calls (yo := (fun j => op1 (240 + j))) (yn := (fun j => nm1 (240 + j))) (ya := (fun j => ay1 (240 + j))) (yc := (fun j => nI (hNN (bN j + 1)))) (yp := (fun j i => bN j + i)) hN40 hop hP hroot hN0 v
  have AD : (rk r = v2 ∨ rk r = 0 ∨ ∀ q, q < 6 → q ≠ r → ¬ cf_D rk rn op1 nm1 q r) → (∀ post : Int32 → SY → Prop, wY_compile_222 post (nI r) v2 (nI o) (nI n) (cp) (nI (240 + N)) sts (er) (ep) (uu) sp lv ret out (cls) prp (lit) (lsz) (fb) (tk) (tv) (opd1) (rk) rn (op1) (nm1) (ay1) (prt1) (ylo1) (yhi1) sN sP sX sK it vr → wpY_compile post (nI o, nI n, cp, nds, sts, er, ep, uu, sp, lv, ret, out, cls, prp, lit, lsz, fb, tk, tv, opd, rk, rn, op, nm, ay, prt, ylo, yhi, sN, sP, sX, sK, it, vr) (nI r) v2) → wX_compile_132 (fun r0 u' => wpY_compile (fun r' v' => r' = r0 ∧ i_Rel (k + 4) u' v') (nI o, nI n, cp, nds, sts, er, ep, uu, sp, lv, ret, out, cls, prp, lit, lsz, fb, tk, tv, opd, rk, rn, op, nm, ay, prt, ylo, yhi, sN, sP, sX, sK, it, vr) (nI r) v2) (nI r) v2 (nI o) (nI n) (-1) (lc') (sc') (kc') dp vc er ep uu cls num lnk lsz lit fb tk tv rk (rl') (ro') (ra') (rt') (rp') (oo1) (co') (sk') (kd') fr fn fi vs ll li lt := by
    intro hc hW
    refine cd_adopt hr g1 (by have := hcl.1; omega) ?_
    intro ro2 ra2 rt2 rp2 k1 k2
    refine hW _ ?_
    refine cd_ycopy hr hN40 ?_
    intro op2 nm2 ay2 prt2 l1 l2 l3 l4
    refine ⟨rfl, gr_mk (n := 0) hO ⟨by omega, fun i h => absurd h (by omega)⟩ ?_⟩
    intro q hq
    by_cases z : q = r
    · rw [z]
      refine Or.inr ⟨by rw [pk_us]; exact hkd, ?_⟩
      refine ⟨code.length, N, n, fun j => (ci_x code j).1, fun j => (ci_x code j).2.1, fun j => (ci_x code j).2.2.1, fun j => (ci_x code j).2.2.2, (fun j => op1 (240 + j)), (fun j => nm1 (240 + j)), (fun j => ay1 (240 + j)), (fun j i => bN j + i), hcl.2, by have := hcl.1; omega, hN40, pk_us, pk_us, fun j hj => ?_, fun j hj => l1 j hj, fun j i hj hi => ?_, fun v hv => hCa v, ?_⟩
      · obtain ⟨a, b, c, d⟩ := k1 j hj
        have hx : code[j]? = some (ci_x code j) := by rw [List.getElem?_eq_getElem hj, ci_get (List.getElem?_eq_getElem hj)]
        obtain ⟨a', b', c', d'⟩ := g2 j _ hx
        exact ⟨a.trans a', b.trans b', c.trans c', d.trans d'⟩
      · have h3 := cw_ar3 (op1 (240 + j))
        have hi' : i < gr_ar (op1 (240 + j)) := hi
        show prt2 ((r * 40 + j) * 3 + i) = nI (r * 40 + (bN j + i))
        rw [l2 j i hj (by omega), (hY j i hj hi).1, cd_sh]
      · rw [pk_us]; exact hIm
    · rcases U' q hq with ⟨a, b⟩ | ⟨a, b⟩
      · exact Or.inl ⟨(pk_un z).trans a, (pk_un z).trans b⟩
      · refine Or.inr ⟨by rw [pk_un z]; exact a, ?_⟩
        refine cw_keep hq z (by rcases a with y | y <;> rw [y] <;> decide) b (pk_un z) (pk_un z) (fun j x y => k2 j (by omega)) (fun j x y => l3 j (by omega)) (fun j x y => l4 j (by omega)) ?_
        rcases hc with c | c | c
        · exact Or.inl c
        · exact Or.inr (Or.inl c)
        · exact Or.inr (Or.inr (c q hq z))
  have hlen : ∀ q, q < 6 → ∃ len, len ≤ 40 ∧ rl' q = nI len := by
    intro q hq
    rcases U' q hq with ⟨a, b⟩ | ⟨a, len, nn, f, xo, xa, xt, xp, yo, yn, ya, yp, d1, d2, d3, d4, d5, _⟩
    · exact ⟨0, by omega, b⟩
    · exact ⟨len, d2, d4⟩
  have hnn : ∀ q, q < 6 → ¬ rk q = 0 → ∃ nn, nn ≤ 40 ∧ rn q = nI nn := by
    intro q hq hz
    rcases U' q hq with ⟨a, b⟩ | ⟨a, len, nn, f, xo, xa, xt, xp, yo, yn, ya, yp, d1, d2, d3, d4, d5, _⟩
    · exact absurd a hz
    · exact ⟨nn, d3, d5⟩
  rw [ee]
  by_cases z0 : rk r = 0
  · exact br_t rfl ⟨ir7, br_t (by rw [cr]; exact z0) (AD (Or.inr (Or.inl z0)) (fun post H => YE post (fun e he => br_t (he' e he) (br_t z0 H))))⟩
  by_cases z2 : rk r = v2
  · exact br_t rfl ⟨ir7, br_f (by rw [cr]; exact z0) ⟨ir7, br_t (by rw [cr]; exact z2) (AD (Or.inl z2) (fun post H => YE post (fun e he => br_t (he' e he) (br_f z0 (br_t z2 H)))))⟩⟩
  · refine br_t rfl ⟨ir7, br_f (by rw [cr]; exact z0) ⟨ir7, br_f (by rw [cr]; exact z2) (cf_xcalled hr hlen (fun hx => ?_) (fun hx => ?_))⟩⟩
    · obtain ⟨q, q1, q2, q3⟩ := hx
      refine br_f (by decide) (YE _ (fun e he => br_t (he' e he) (br_f z0 (br_f z2 (cf_ycalled hr hnn (fun hy => br_f (by decide) ⟨rfl, gr_mk hO hT U'⟩) (fun hy => absurd ⟨q, q1, q2, (cw_CD U' q1 hr).1 q3⟩ hy))))))
    · have hno : ∀ q, q < 6 → q ≠ r → ¬ cf_D rk rn op1 nm1 q r := fun q q1 q2 q3 => hx ⟨q, q1, q2, (cw_CD U' q1 hr).2 q3⟩
      exact br_t rfl (AD (Or.inr (Or.inr hno)) (fun post H => YE post (fun e he => br_t (he' e he) (br_f z0 (br_f z2 (cf_ycalled hr hnn (fun hy => by
        obtain ⟨q, q1, q2, q3⟩ := hy
        exact absurd q3 (hno q q1 q2)) (fun _ => br_t rfl H)))))))
end
