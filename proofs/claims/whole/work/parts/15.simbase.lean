/-- the values of each kind -/
def si_V (o : Nat) (t v : Int32) : Prop := (t = 2 → v = 0 ∨ v = 1) ∧ (t = 3 → v = -1 ∨ ∃ i, i < o ∧ v = nI i) ∧ (t = 4 → v = -1 ∨ ∃ l, l < 16 ∧ v = nI l)
/-- the bound variables -/
def si_B (lsz lit ll li vr : Nat → Int32) (l : Nat) (B : Nat → Prop) : Prop := ∀ v, v < 3 → B v → ∃ a j y, a < 16 ∧ y ≤ 4 ∧ j < y ∧ lsz a = nI y ∧ ll (l * 3 + v) = nI a ∧ li (l * 3 + v) = nI j ∧ vr (l * 3 + v) = lit (a * 4 + j)
/-- where the outermost rule stands, seen from a called one -/
def si_O (rp : Nat → Int32) (r0 l : Nat) (fn : Nat → Int32) (out : Int32) : Prop := 1 ≤ l → ∃ j, j < 40 ∧ fn 0 = nI (j + 1) ∧ out = rp (r0 * 40 + j)
/-- what a piece of the run leaves alone -/
def si_N (l p w : Nat) (B : Nat → Prop) (fr fn fi vs ll li lt sN sP sX sK it vr : Nat → Int32) (out : Int32) (fr1 fn1 fi1 vs1 ll1 li1 lt1 sN1 sP1 sX1 sK1 it1 vr1 : Nat → Int32) (out1 : Int32) : Prop :=
  (∀ j, j ≤ l → fr1 j = fr j ∧ fi1 j = fi j ∧ it1 j = it j) ∧ (∀ j, j < l → fn1 j = fn j) ∧ (∀ j, j < w → vs1 j = vs j) ∧
  (∀ j, j < l * 3 → ll1 j = ll j ∧ li1 j = li j ∧ lt1 j = lt j ∧ vr1 j = vr j) ∧
  (∀ v, v < 3 → B v → ll1 (l * 3 + v) = ll (l * 3 + v) ∧ li1 (l * 3 + v) = li (l * 3 + v) ∧ lt1 (l * 3 + v) = lt (l * 3 + v) ∧ vr1 (l * 3 + v) = vr (l * 3 + v)) ∧
  (∀ j, j < p → sN1 j = sN j ∧ sP1 j = sP j ∧ sX1 j = sX j ∧ sK1 j = sK j) ∧ (1 ≤ l → out1 = out)
def si_Pre (o r0 l q k a b : Nat) (B : Nat → Prop) (lsz lit rp : Nat → Int32) (s s' w g p : Nat) (out : Int32) (fr fn fi ll li sN sP it vr : Nat → Int32) : Prop :=
  l < 5 ∧ fr l = nI q ∧ fn l = nI a ∧ fi l = it l ∧ (∃ i, i < o ∧ it l = nI i) ∧ si_B lsz lit ll li vr l B ∧ sN p = nI (q * 40 + k) ∧ sP p = nI 0 ∧ (l = 0 → q = r0) ∧ si_O rp r0 l fn out ∧
  w + (b - a) ≤ 40 * (l + 1) ∧ p + (b - a) ≤ 40 * (l + 1) ∧ g ≤ 40 ∧ s + 200 * (40 - g) + 3 * (b - a) ≤ 15000 ∧ s' + 200 * (40 - g) + 3 * (b - a) ≤ 15000
/-- rule q as it lies in the arrays -/
def si_D (q len nn : Nat) (xo xa xt xp yo yn ya : Nat → Int32) (yp : Nat → Nat → Nat) (rl ro ra rt rp op nm ay prt : Nat → Int32) : Prop :=
  q < 6 ∧ len ≤ 40 ∧ nn ≤ 40 ∧ rl q = nI len ∧
  (∀ j, j < len → ro (q * 40 + j) = xo j ∧ ra (q * 40 + j) = xa j ∧ rt (q * 40 + j) = xt j ∧ rp (q * 40 + j) = xp j) ∧
  (∀ j, j < nn → op (q * 40 + j) = yo j ∧ nm (q * 40 + j) = yn j ∧ ay (q * 40 + j) = ya j) ∧
  (∀ j i, j < nn → i < gr_ar (yo j) → prt ((q * 40 + j) * 3 + i) = nI (q * 40 + yp j i))
def si_E (post : Int32 → SX → Prop) (Z : (Int32 → SY → Prop) → Prop) (oc tc cp lc sc kc er ep ob tks pl nds res : Int32) (cls num lnk lsz lit fb tk tv rk rl ro ra rt rp oo co sk kd prp opd rn op nm ay prt ylo yhi : Nat → Int32) (r0 : Nat) : Prop := ∀ (x g d w : Nat) (e : Int32) (fr fn fi vs ll li lt : Nat → Int32), 2 ≤ x → x ≤ 6 → g ≤ 40 → (∃ j, j < 40 ∧ fn 0 = nI (j + 1) ∧ rp (r0 * 40 + j) = e) → ey_E Z ob tks pl nds res cls prp lit lsz fb tk tv opd rk rn op nm ay prt ylo yhi x e g → post (nI x) (oc, tc, cp, lc, sc, kc, nI d, nI w, er, ep, nI g, cls, num, lnk, lsz, lit, fb, tk, tv, rk, rl, ro, ra, rt, rp, oo, co, sk, kd, fr, fn, fi, vs, ll, li, lt)
/-- node k of rule q, carried out by both -/
def si_Run (post : Int32 → SX → Prop) (Z : (Int32 → SY → Prop) → Prop) (oc tc cp lc sc kc er ep ob tks pl nds res : Int32) (cls num lnk lsz lit fb tk tv rk rl ro ra rt rp oo co sk kd prp opd rn op nm ay prt ylo yhi : Nat → Int32) (o r0 l q k a b : Nat) (B : Nat → Prop) (t : Int32) : Prop := ∀ (s s' w g p : Nat) (ret out : Int32) (fr fn fi vs ll li lt sN sP sX sK it vr : Nat → Int32), si_Pre o r0 l q k a b B lsz lit rp s s' w g p out fr fn fi ll li sN sP it vr → ey_F Z ob tks pl nds res cls prp lit lsz fb tk tv opd rk rn op nm ay prt ylo yhi s' (p + 1) l g ret out sN sP sX sK it vr →
  (∀ {s1 s2 g1 : Nat} {v out1 : Int32} {fr1 fn1 fi1 vs1 ll1 li1 lt1 sN1 sP1 sX1 sK1 it1 vr1 : Nat → Int32}, si_V o t v → si_N l p w B fr fn fi vs ll li lt sN sP sX sK it vr out fr1 fn1 fi1 vs1 ll1 li1 lt1 sN1 sP1 sX1 sK1 it1 vr1 out1 → vs1 w = v → fn1 l = nI b → g ≤ g1 → g1 ≤ 40 → s1 + 200 * (40 - g1) ≤ s + 200 * (40 - g) + 3 * (b - a) → s2 + 200 * (40 - g1) ≤ s' + 200 * (40 - g) + 3 * (b - a) → ey_F Z ob tks pl nds res cls prp lit lsz fb tk tv opd rk rn op nm ay prt ylo yhi s2 p l g1 v out1 sN1 sP1 sX1 sK1 it1 vr1 → ex_R post oc tc cp lc sc kc er ep cls num lnk lsz lit fb tk tv rk rl ro ra rt rp oo co sk kd s1 (l + 1) (w + 1) g1 fr1 fn1 fi1 vs1 ll1 li1 lt1) → ex_R post oc tc cp lc sc kc er ep cls num lnk lsz lit fb tk tv rk rl ro ra rt rp oo co sk kd s (l + 1) w g fr fn fi vs ll li lt
theorem si_bb {B : Nat → Prop} {l v u : Nat} (z : l * 3 + v = l * 3 + u) (hb : B v) : B u := by
  have e : v = u := by omega
  rw [← e]; exact hb
section
variable {l p w : Nat} {B : Nat → Prop} {fr fn fi vs ll li lt sN sP sX sK it vr fr1 fn1 fi1 vs1 ll1 li1 lt1 sN1 sP1 sX1 sK1 it1 vr1 fr2 fn2 fi2 vs2 ll2 li2 lt2 sN2 sP2 sX2 sK2 it2 vr2 : Nat → Int32} {out out1 out2 : Int32}
theorem si_N_refl : si_N l p w B fr fn fi vs ll li lt sN sP sX sK it vr out fr fn fi vs ll li lt sN sP sX sK it vr out := ⟨fun _ _ => ⟨rfl, rfl, rfl⟩, fun _ _ => rfl, fun _ _ => rfl, fun _ _ => ⟨rfl, rfl, rfl, rfl⟩, fun _ _ _ => ⟨rfl, rfl, rfl, rfl⟩, fun _ _ => ⟨rfl, rfl, rfl, rfl⟩, fun _ => rfl⟩
theorem si_N_trans (h : si_N l p w B fr fn fi vs ll li lt sN sP sX sK it vr out fr1 fn1 fi1 vs1 ll1 li1 lt1 sN1 sP1 sX1 sK1 it1 vr1 out1) (h' : si_N l p w B fr1 fn1 fi1 vs1 ll1 li1 lt1 sN1 sP1 sX1 sK1 it1 vr1 out1 fr2 fn2 fi2 vs2 ll2 li2 lt2 sN2 sP2 sX2 sK2 it2 vr2 out2) : si_N l p w B fr fn fi vs ll li lt sN sP sX sK it vr out fr2 fn2 fi2 vs2 ll2 li2 lt2 sN2 sP2 sX2 sK2 it2 vr2 out2 := by
  obtain ⟨a1, a2, a3, a4, a5, a6, a7⟩ := h
  obtain ⟨b1, b2, b3, b4, b5, b6, b7⟩ := h'
  refine ⟨fun j hj => ?_, fun j hj => (b2 j hj).trans (a2 j hj), fun j hj => (b3 j hj).trans (a3 j hj), fun j hj => ?_, fun v hv hb => ?_, fun j hj => ?_, fun z => (b7 z).trans (a7 z)⟩
  · exact ⟨(b1 j hj).1.trans (a1 j hj).1, (b1 j hj).2.1.trans (a1 j hj).2.1, (b1 j hj).2.2.trans (a1 j hj).2.2⟩
  · exact ⟨(b4 j hj).1.trans (a4 j hj).1, (b4 j hj).2.1.trans (a4 j hj).2.1, (b4 j hj).2.2.1.trans (a4 j hj).2.2.1, (b4 j hj).2.2.2.trans (a4 j hj).2.2.2⟩
  · exact ⟨(b5 v hv hb).1.trans (a5 v hv hb).1, (b5 v hv hb).2.1.trans (a5 v hv hb).2.1, (b5 v hv hb).2.2.1.trans (a5 v hv hb).2.2.1, (b5 v hv hb).2.2.2.trans (a5 v hv hb).2.2.2⟩
  · exact ⟨(b6 j hj).1.trans (a6 j hj).1, (b6 j hj).2.1.trans (a6 j hj).2.1, (b6 j hj).2.2.1.trans (a6 j hj).2.2.1, (b6 j hj).2.2.2.trans (a6 j hj).2.2.2⟩
theorem si_N_mono {p' w' : Nat} {B' : Nat → Prop} (hp : p ≤ p') (hw : w ≤ w') (hB : ∀ v, B v → B' v) (h : si_N l p' w' B' fr fn fi vs ll li lt sN sP sX sK it vr out fr1 fn1 fi1 vs1 ll1 li1 lt1 sN1 sP1 sX1 sK1 it1 vr1 out1) : si_N l p w B fr fn fi vs ll li lt sN sP sX sK it vr out fr1 fn1 fi1 vs1 ll1 li1 lt1 sN1 sP1 sX1 sK1 it1 vr1 out1 := by
  obtain ⟨a1, a2, a3, a4, a5, a6, a7⟩ := h
  exact ⟨a1, a2, fun j hj => a3 j (by omega), a4, fun v hv hb => a5 v hv (hB v hb), fun j hj => a6 j (by omega), a7⟩
theorem si_N_up {p' w' : Nat} {B' : Nat → Prop} (hp : p ≤ p') (hw : w ≤ w') (h : si_N (l + 1) p' w' B' fr fn fi vs ll li lt sN sP sX sK it vr out fr1 fn1 fi1 vs1 ll1 li1 lt1 sN1 sP1 sX1 sK1 it1 vr1 out1) : si_N l p w B fr fn fi vs ll li lt sN sP sX sK it vr out fr1 fn1 fi1 vs1 ll1 li1 lt1 sN1 sP1 sX1 sK1 it1 vr1 out1 := by
  obtain ⟨a1, a2, a3, a4, a5, a6, a7⟩ := h
  exact ⟨fun j hj => a1 j (by omega), fun j hj => a2 j (by omega), fun j hj => a3 j (by omega), fun j hj => a4 j (by omega), fun v hv hb => a4 _ (by omega), fun j hj => a6 j (by omega), fun z => a7 (by omega)⟩
theorem si_N_fr {j : Nat} {x : Int32} (hj : l < j) (h : si_N l p w B fr fn fi vs ll li lt sN sP sX sK it vr out fr1 fn1 fi1 vs1 ll1 li1 lt1 sN1 sP1 sX1 sK1 it1 vr1 out1) : si_N l p w B fr fn fi vs ll li lt sN sP sX sK it vr out (upd fr1 j x) fn1 fi1 vs1 ll1 li1 lt1 sN1 sP1 sX1 sK1 it1 vr1 out1 := by
  obtain ⟨a1, a2, a3, a4, a5, a6, a7⟩ := h
  exact ⟨fun i hi => ⟨(pk_un (by omega)).trans (a1 i hi).1, (a1 i hi).2⟩, a2, a3, a4, a5, a6, a7⟩
theorem si_N_fi {j : Nat} {x : Int32} (hj : l < j) (h : si_N l p w B fr fn fi vs ll li lt sN sP sX sK it vr out fr1 fn1 fi1 vs1 ll1 li1 lt1 sN1 sP1 sX1 sK1 it1 vr1 out1) : si_N l p w B fr fn fi vs ll li lt sN sP sX sK it vr out fr1 fn1 (upd fi1 j x) vs1 ll1 li1 lt1 sN1 sP1 sX1 sK1 it1 vr1 out1 := by
  obtain ⟨a1, a2, a3, a4, a5, a6, a7⟩ := h
  exact ⟨fun i hi => ⟨(a1 i hi).1, (pk_un (by omega)).trans (a1 i hi).2.1, (a1 i hi).2.2⟩, a2, a3, a4, a5, a6, a7⟩
theorem si_N_it {j : Nat} {x : Int32} (hj : l < j) (h : si_N l p w B fr fn fi vs ll li lt sN sP sX sK it vr out fr1 fn1 fi1 vs1 ll1 li1 lt1 sN1 sP1 sX1 sK1 it1 vr1 out1) : si_N l p w B fr fn fi vs ll li lt sN sP sX sK it vr out fr1 fn1 fi1 vs1 ll1 li1 lt1 sN1 sP1 sX1 sK1 (upd it1 j x) vr1 out1 := by
  obtain ⟨a1, a2, a3, a4, a5, a6, a7⟩ := h
  exact ⟨fun i hi => ⟨(a1 i hi).1, (a1 i hi).2.1, (pk_un (by omega)).trans (a1 i hi).2.2⟩, a2, a3, a4, a5, a6, a7⟩
theorem si_N_fn {j : Nat} {x : Int32} (hj : l ≤ j) (h : si_N l p w B fr fn fi vs ll li lt sN sP sX sK it vr out fr1 fn1 fi1 vs1 ll1 li1 lt1 sN1 sP1 sX1 sK1 it1 vr1 out1) : si_N l p w B fr fn fi vs ll li lt sN sP sX sK it vr out fr1 (upd fn1 j x) fi1 vs1 ll1 li1 lt1 sN1 sP1 sX1 sK1 it1 vr1 out1 := by
  obtain ⟨a1, a2, a3, a4, a5, a6, a7⟩ := h
  exact ⟨a1, fun i hi => (pk_un (by omega)).trans (a2 i hi), a3, a4, a5, a6, a7⟩
theorem si_N_vs {j : Nat} {x : Int32} (hj : w ≤ j) (h : si_N l p w B fr fn fi vs ll li lt sN sP sX sK it vr out fr1 fn1 fi1 vs1 ll1 li1 lt1 sN1 sP1 sX1 sK1 it1 vr1 out1) : si_N l p w B fr fn fi vs ll li lt sN sP sX sK it vr out fr1 fn1 fi1 (upd vs1 j x) ll1 li1 lt1 sN1 sP1 sX1 sK1 it1 vr1 out1 := by
  obtain ⟨a1, a2, a3, a4, a5, a6, a7⟩ := h
  exact ⟨a1, a2, fun i hi => (pk_un (by omega)).trans (a3 i hi), a4, a5, a6, a7⟩
theorem si_N_sN {j : Nat} {x : Int32} (hj : p ≤ j) (h : si_N l p w B fr fn fi vs ll li lt sN sP sX sK it vr out fr1 fn1 fi1 vs1 ll1 li1 lt1 sN1 sP1 sX1 sK1 it1 vr1 out1) : si_N l p w B fr fn fi vs ll li lt sN sP sX sK it vr out fr1 fn1 fi1 vs1 ll1 li1 lt1 (upd sN1 j x) sP1 sX1 sK1 it1 vr1 out1 := by
  obtain ⟨a1, a2, a3, a4, a5, a6, a7⟩ := h
  exact ⟨a1, a2, a3, a4, a5, fun i hi => ⟨(pk_un (by omega)).trans (a6 i hi).1, (a6 i hi).2⟩, a7⟩
theorem si_N_sP {j : Nat} {x : Int32} (hj : p ≤ j) (h : si_N l p w B fr fn fi vs ll li lt sN sP sX sK it vr out fr1 fn1 fi1 vs1 ll1 li1 lt1 sN1 sP1 sX1 sK1 it1 vr1 out1) : si_N l p w B fr fn fi vs ll li lt sN sP sX sK it vr out fr1 fn1 fi1 vs1 ll1 li1 lt1 sN1 (upd sP1 j x) sX1 sK1 it1 vr1 out1 := by
  obtain ⟨a1, a2, a3, a4, a5, a6, a7⟩ := h
  exact ⟨a1, a2, a3, a4, a5, fun i hi => ⟨(a6 i hi).1, (pk_un (by omega)).trans (a6 i hi).2.1, (a6 i hi).2.2⟩, a7⟩
theorem si_N_sX {j : Nat} {x : Int32} (hj : p ≤ j) (h : si_N l p w B fr fn fi vs ll li lt sN sP sX sK it vr out fr1 fn1 fi1 vs1 ll1 li1 lt1 sN1 sP1 sX1 sK1 it1 vr1 out1) : si_N l p w B fr fn fi vs ll li lt sN sP sX sK it vr out fr1 fn1 fi1 vs1 ll1 li1 lt1 sN1 sP1 (upd sX1 j x) sK1 it1 vr1 out1 := by
  obtain ⟨a1, a2, a3, a4, a5, a6, a7⟩ := h
  exact ⟨a1, a2, a3, a4, a5, fun i hi => ⟨(a6 i hi).1, (a6 i hi).2.1, (pk_un (by omega)).trans (a6 i hi).2.2.1, (a6 i hi).2.2.2⟩, a7⟩
theorem si_N_sK {j : Nat} {x : Int32} (hj : p ≤ j) (h : si_N l p w B fr fn fi vs ll li lt sN sP sX sK it vr out fr1 fn1 fi1 vs1 ll1 li1 lt1 sN1 sP1 sX1 sK1 it1 vr1 out1) : si_N l p w B fr fn fi vs ll li lt sN sP sX sK it vr out fr1 fn1 fi1 vs1 ll1 li1 lt1 sN1 sP1 sX1 (upd sK1 j x) it1 vr1 out1 := by
  obtain ⟨a1, a2, a3, a4, a5, a6, a7⟩ := h
  exact ⟨a1, a2, a3, a4, a5, fun i hi => ⟨(a6 i hi).1, (a6 i hi).2.1, (a6 i hi).2.2.1, (pk_un (by omega)).trans (a6 i hi).2.2.2⟩, a7⟩
theorem si_N_ll {u : Nat} {x : Int32} (hu : ¬ B u) (h : si_N l p w B fr fn fi vs ll li lt sN sP sX sK it vr out fr1 fn1 fi1 vs1 ll1 li1 lt1 sN1 sP1 sX1 sK1 it1 vr1 out1) : si_N l p w B fr fn fi vs ll li lt sN sP sX sK it vr out fr1 fn1 fi1 vs1 (upd ll1 (l * 3 + u) x) li1 lt1 sN1 sP1 sX1 sK1 it1 vr1 out1 := by
  obtain ⟨a1, a2, a3, a4, a5, a6, a7⟩ := h
  exact ⟨a1, a2, a3, fun i hi => ⟨(pk_un (by omega)).trans (a4 i hi).1, (a4 i hi).2.1, (a4 i hi).2.2.1, (a4 i hi).2.2.2⟩, fun v hv hb => ⟨(pk_un (fun z => hu (si_bb z hb))).trans (a5 v hv hb).1, (a5 v hv hb).2.1, (a5 v hv hb).2.2.1, (a5 v hv hb).2.2.2⟩, a6, a7⟩
theorem si_N_li {u : Nat} {x : Int32} (hu : ¬ B u) (h : si_N l p w B fr fn fi vs ll li lt sN sP sX sK it vr out fr1 fn1 fi1 vs1 ll1 li1 lt1 sN1 sP1 sX1 sK1 it1 vr1 out1) : si_N l p w B fr fn fi vs ll li lt sN sP sX sK it vr out fr1 fn1 fi1 vs1 ll1 (upd li1 (l * 3 + u) x) lt1 sN1 sP1 sX1 sK1 it1 vr1 out1 := by
  obtain ⟨a1, a2, a3, a4, a5, a6, a7⟩ := h
  exact ⟨a1, a2, a3, fun i hi => ⟨(a4 i hi).1, (pk_un (by omega)).trans (a4 i hi).2.1, (a4 i hi).2.2.1, (a4 i hi).2.2.2⟩, fun v hv hb => ⟨(a5 v hv hb).1, (pk_un (fun z => hu (si_bb z hb))).trans (a5 v hv hb).2.1, (a5 v hv hb).2.2.1, (a5 v hv hb).2.2.2⟩, a6, a7⟩
theorem si_N_lt {u : Nat} {x : Int32} (hu : ¬ B u) (h : si_N l p w B fr fn fi vs ll li lt sN sP sX sK it vr out fr1 fn1 fi1 vs1 ll1 li1 lt1 sN1 sP1 sX1 sK1 it1 vr1 out1) : si_N l p w B fr fn fi vs ll li lt sN sP sX sK it vr out fr1 fn1 fi1 vs1 ll1 li1 (upd lt1 (l * 3 + u) x) sN1 sP1 sX1 sK1 it1 vr1 out1 := by
  obtain ⟨a1, a2, a3, a4, a5, a6, a7⟩ := h
  exact ⟨a1, a2, a3, fun i hi => ⟨(a4 i hi).1, (a4 i hi).2.1, (pk_un (by omega)).trans (a4 i hi).2.2.1, (a4 i hi).2.2.2⟩, fun v hv hb => ⟨(a5 v hv hb).1, (a5 v hv hb).2.1, (pk_un (fun z => hu (si_bb z hb))).trans (a5 v hv hb).2.2.1, (a5 v hv hb).2.2.2⟩, a6, a7⟩
theorem si_N_vr {u : Nat} {x : Int32} (hu : ¬ B u) (h : si_N l p w B fr fn fi vs ll li lt sN sP sX sK it vr out fr1 fn1 fi1 vs1 ll1 li1 lt1 sN1 sP1 sX1 sK1 it1 vr1 out1) : si_N l p w B fr fn fi vs ll li lt sN sP sX sK it vr out fr1 fn1 fi1 vs1 ll1 li1 lt1 sN1 sP1 sX1 sK1 it1 (upd vr1 (l * 3 + u) x) out1 := by
  obtain ⟨a1, a2, a3, a4, a5, a6, a7⟩ := h
  exact ⟨a1, a2, a3, fun i hi => ⟨(a4 i hi).1, (a4 i hi).2.1, (a4 i hi).2.2.1, (pk_un (by omega)).trans (a4 i hi).2.2.2⟩, fun v hv hb => ⟨(a5 v hv hb).1, (a5 v hv hb).2.1, (a5 v hv hb).2.2.1, (pk_un (fun z => hu (si_bb z hb))).trans (a5 v hv hb).2.2.2⟩, a6, a7⟩
theorem si_N_out {x : Int32} (hx : 1 ≤ l → x = out1) (h : si_N l p w B fr fn fi vs ll li lt sN sP sX sK it vr out fr1 fn1 fi1 vs1 ll1 li1 lt1 sN1 sP1 sX1 sK1 it1 vr1 out1) : si_N l p w B fr fn fi vs ll li lt sN sP sX sK it vr out fr1 fn1 fi1 vs1 ll1 li1 lt1 sN1 sP1 sX1 sK1 it1 vr1 x := by
  obtain ⟨a1, a2, a3, a4, a5, a6, a7⟩ := h
  exact ⟨a1, a2, a3, a4, a5, a6, fun z => (hx z).trans (a7 z)⟩
theorem si_B_N {lsz lit : Nat → Int32} (h : si_B lsz lit ll li vr l B) (hN : si_N l p w B fr fn fi vs ll li lt sN sP sX sK it vr out fr1 fn1 fi1 vs1 ll1 li1 lt1 sN1 sP1 sX1 sK1 it1 vr1 out1) : si_B lsz lit ll1 li1 vr1 l B := by
  intro v hv hb
  obtain ⟨a, j, y, h1, h2, h3, h4, h5, h6, h7⟩ := h v hv hb
  obtain ⟨e1, e2, e3, e4⟩ := hN.2.2.2.2.1 v hv hb
  exact ⟨a, j, y, h1, h2, h3, h4, e1.trans h5, e2.trans h6, e4.trans h7⟩
theorem si_O_N {rp : Nat → Int32} {r0 : Nat} (h : si_O rp r0 l fn out) (hN : si_N l p w B fr fn fi vs ll li lt sN sP sX sK it vr out fr1 fn1 fi1 vs1 ll1 li1 lt1 sN1 sP1 sX1 sK1 it1 vr1 out1) : si_O rp r0 l fn1 out1 := by
  intro z
  obtain ⟨j, hj, h1, h2⟩ := h z
  exact ⟨j, hj, (hN.2.1 0 (by omega)).trans h1, (hN.2.2.2.2.2.2 z).trans h2⟩
theorem si_eo {rp ay : Nat → Int32} {r0 q c K : Nat} (h0 : l = 0 → q = r0) (hO : si_O rp r0 l fn out) (hc : c < 40) (hp : rp (q * 40 + c) = ay K) : ∃ j, j < 40 ∧ upd fn l (nI (c + 1)) 0 = nI (j + 1) ∧ rp (r0 * 40 + j) = (if l = 0 then ay K else out) := by
  by_cases z : l = 0
  · subst z
    rw [if_pos rfl, ← h0 rfl]
    exact ⟨c, hc, pk_us, hp⟩
  · rw [if_neg z]
    obtain ⟨j, hj, h1, h2⟩ := hO (by omega)
    exact ⟨j, hj, (pk_un (by omega)).trans h1, h2.symm⟩
theorem si_pre2 {o r0 q k a b k' a' b' s s' g p' w' s1 s2 g1 : Nat} {B' : Nat → Prop} {lsz lit rp : Nat → Int32} (hP : si_Pre o r0 l q k a b B lsz lit rp s s' w g p out fr fn fi ll li sN sP it vr) (hN : si_N l p w B fr fn fi vs ll li lt sN sP sX sK it vr out fr1 fn1 fi1 vs1 ll1 li1 lt1 sN1 sP1 sX1 sK1 it1 vr1 out1) (hB' : si_B lsz lit ll1 li1 vr1 l B') (e1 : fn1 l = nI a') (e2 : sN1 p' = nI (q * 40 + k')) (e3 : sP1 p' = nI 0) (h1 : w' + (b' - a') ≤ 40 * (l + 1)) (h2 : p' + (b' - a') ≤ 40 * (l + 1)) (h3 : g1 ≤ 40) (h4 : s1 + 200 * (40 - g1) + 3 * (b' - a') ≤ 15000) (h5 : s2 + 200 * (40 - g1) + 3 * (b' - a') ≤ 15000) : si_Pre o r0 l q k' a' b' B' lsz lit rp s1 s2 w' g1 p' out1 fr1 fn1 fi1 ll1 li1 sN1 sP1 it1 vr1 := by
  obtain ⟨hl, efr, efn, efi, hit, hB, esN, esP, h0, hO, hw, hp, hg, hs, hs'⟩ := hP
  obtain ⟨n1, n2, n3⟩ := hN.1 l (Nat.le_refl l)
  exact ⟨hl, n1.trans efr, e1, by rw [n2, n3]; exact efi, by rw [n3]; exact hit, hB', e2, e3, h0, si_O_N hO hN, h1, h2, h3, h4, h5⟩
end
