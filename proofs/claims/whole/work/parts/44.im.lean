section
variable {xo xa xt xp yo yn ya yc rk : Nat → Int32} {yp : Nat → Nat → Nat} {len nn : Nat}
theorem ci_mono : ∀ {f : Nat} {B : Nat → Prop} {k a b : Nat} {t : Int32}, gr_Im xo xa xt xp yo yn ya yp rk len nn f B k a b t → gr_Im xo xa xt xp yo yn ya yp rk len nn (f + 1) B k a b t := by
  intro f
  induction f with
  | zero => intro B k a b t h; exact absurd h id
  | succ f ih =>
    intro B k a b t h
    obtain ⟨hk, hab, hbl, h⟩ := h
    refine ⟨hk, hab, hbl, ?_⟩
    rcases h with h | h | h | h | ⟨p, c, h1, h2, h3, h4, h5, h6⟩ | ⟨c, h1, h2, h3, h4⟩ | ⟨r, c, h1, h2, h3, h4, h5, h6⟩ | ⟨s, m, c, t1, t2, h1, h2, h3, h4, h5, h6, h7⟩ | ⟨m, h1, h2, h3, h4, h5, h6⟩ | ⟨m, m2, h1, h2, h3, h4, h5, h6, h7, h8⟩ | ⟨s, v, m, c, h1, h2, h3, h4, h5, h6, h7, h8, h9, h10, h11, h12, h13, h14⟩
    · exact Or.inl h
    · exact Or.inr (Or.inl h)
    · exact Or.inr (Or.inr (Or.inl h))
    · exact Or.inr (Or.inr (Or.inr (Or.inl h)))
    · exact Or.inr (Or.inr (Or.inr (Or.inr (Or.inl ⟨p, c, h1, h2, h3, h4, ih h5, h6⟩))))
    · exact Or.inr (Or.inr (Or.inr (Or.inr (Or.inr (Or.inl ⟨c, h1, h2, ih h3, h4⟩)))))
    · exact Or.inr (Or.inr (Or.inr (Or.inr (Or.inr (Or.inr (Or.inl ⟨r, c, h1, h2, h3, h4, ih h5, h6⟩))))))
    · exact Or.inr (Or.inr (Or.inr (Or.inr (Or.inr (Or.inr (Or.inr (Or.inl ⟨s, m, c, t1, t2, h1, h2, h3, h4, ih h5, ih h6, h7⟩)))))))
    · exact Or.inr (Or.inr (Or.inr (Or.inr (Or.inr (Or.inr (Or.inr (Or.inr (Or.inl ⟨m, h1, ih h2, h3, h4, ih h5, h6⟩))))))))
    · exact Or.inr (Or.inr (Or.inr (Or.inr (Or.inr (Or.inr (Or.inr (Or.inr (Or.inr (Or.inl ⟨m, m2, h1, ih h2, h3, h4, ih h5, h6, h7, ih h8⟩)))))))))
    · exact Or.inr (Or.inr (Or.inr (Or.inr (Or.inr (Or.inr (Or.inr (Or.inr (Or.inr (Or.inr ⟨s, v, m, c, h1, h2, h3, h4, h5, h6, h7, ih h8, h9, h10, h11, h12, ih h13, h14⟩)))))))))
/-- a rule that calls no rule whose kind changes keeps its kinds -/
theorem ci_rk {rk' : Nat → Int32} (hrk : ∀ j r, j < nn → yo j = 5 → yn j = nI r → r < 6 → (rk r = 1 ∨ rk r = 2) → rk' r = rk r) : ∀ {f : Nat} {B : Nat → Prop} {k a b : Nat} {t : Int32}, gr_Im xo xa xt xp yo yn ya yp rk len nn f B k a b t → gr_Im xo xa xt xp yo yn ya yp rk' len nn f B k a b t := by
  intro f
  induction f with
  | zero => intro B k a b t h; exact absurd h id
  | succ f ih =>
    intro B k a b t h
    obtain ⟨hk, hab, hbl, h⟩ := h
    refine ⟨hk, hab, hbl, ?_⟩
    rcases h with h | h | h | h | ⟨p, c, h1, h2, h3, h4, h5, h6⟩ | ⟨c, h1, h2, h3, h4⟩ | ⟨r, c, h1, h2, h3, h4, h5, h6, h7, h8, h9, h10⟩ | ⟨s, m, c, t1, t2, h1, h2, h3, h4, h5, h6, h7⟩ | ⟨m, h1, h2, h3, h4, h5, h6⟩ | ⟨m, m2, h1, h2, h3, h4, h5, h6, h7, h8⟩ | ⟨s, v, m, c, h1, h2, h3, h4, h5, h6, h7, h8, h9, h10, h11, h12, h13, h14⟩
    · exact Or.inl h
    · exact Or.inr (Or.inl h)
    · exact Or.inr (Or.inr (Or.inl h))
    · exact Or.inr (Or.inr (Or.inr (Or.inl h)))
    · exact Or.inr (Or.inr (Or.inr (Or.inr (Or.inl ⟨p, c, h1, h2, h3, h4, ih h5, h6⟩))))
    · exact Or.inr (Or.inr (Or.inr (Or.inr (Or.inr (Or.inl ⟨c, h1, h2, ih h3, h4⟩)))))
    · exact Or.inr (Or.inr (Or.inr (Or.inr (Or.inr (Or.inr (Or.inl ⟨r, c, h1, h2, h3, h4, ih h5, h6, h7, h8, (hrk k r hk h3 h4 h1 (by rw [h9]; exact h10)).trans h9, h10⟩))))))
    · exact Or.inr (Or.inr (Or.inr (Or.inr (Or.inr (Or.inr (Or.inr (Or.inl ⟨s, m, c, t1, t2, h1, h2, h3, h4, ih h5, ih h6, h7⟩)))))))
    · exact Or.inr (Or.inr (Or.inr (Or.inr (Or.inr (Or.inr (Or.inr (Or.inr (Or.inl ⟨m, h1, ih h2, h3, h4, ih h5, h6⟩))))))))
    · exact Or.inr (Or.inr (Or.inr (Or.inr (Or.inr (Or.inr (Or.inr (Or.inr (Or.inr (Or.inl ⟨m, m2, h1, ih h2, h3, h4, ih h5, h6, h7, ih h8⟩)))))))))
    · exact Or.inr (Or.inr (Or.inr (Or.inr (Or.inr (Or.inr (Or.inr (Or.inr (Or.inr (Or.inr ⟨s, v, m, c, h1, h2, h3, h4, h5, h6, h7, ih h8, h9, h10, h11, h12, ih h13, h14⟩)))))))))
end
/-- the list C lies in code from a on -/
def ci_At (code : List cm_I) (a : Nat) (C : List cm_I) : Prop := ∀ (j : Nat) (x : cm_I), C[j]? = some x → code[a + j]? = some x
section
variable {code : List cm_I} {a : Nat}
theorem ci_At_l {A B : List cm_I} (h : ci_At code a (A ++ B)) : ci_At code a A := by
  intro j x hx
  refine h j x ?_
  have jl : j < A.length := by
    by_cases y : j < A.length
    · exact y
    · rw [List.getElem?_eq_none (by omega)] at hx; cases hx
  rw [List.getElem?_append_left jl]; exact hx
theorem ci_At_r {A B : List cm_I} (h : ci_At code a (A ++ B)) : ci_At code (a + A.length) B := by
  intro j x hx
  have := h (A.length + j) x (by rw [List.getElem?_append_right (by omega), Nat.add_sub_cancel_left]; exact hx)
  rw [Nat.add_assoc]; exact this
theorem ci_At_h {x : cm_I} {B : List cm_I} (h : ci_At code a (x :: B)) : code[a]? = some x ∧ ci_At code (a + 1) B := by
  refine ⟨h 0 x rfl, fun j y hy => ?_⟩
  have := h (j + 1) y hy
  rw [show a + 1 + j = a + (j + 1) by omega]; exact this
def ci_x (code : List cm_I) (j : Nat) : cm_I := (code[j]?).getD (0, 0, 0, 0)
theorem ci_get {x : cm_I} (h : code[a]? = some x) : ci_x code a = x := by unfold ci_x; rw [h]; rfl
end
section
variable {T : Nat → Nat} {tv yo yn ya yc rk : Nat → Int32} {yp : Nat → Nat → Nat} {nn : Nat}
theorem ci_len {n : Nat} (hP : ∀ k i, k < nn → i < gr_ar (yo k) → k < yp k i ∧ yp k i < 40) : ∀ (f : Nat) (B : Nat → Prop) (k w l u : Nat), cg_G T tv yo yn ya yc yp nn f B k w l u → ∀ a, (cn_c yo yn ya yc yp k a).length ≤ u - l ∧ 0 < (cn_c yo yn ya yc yp k a).length := by
  intro f
  induction f with
  | zero => intro B k w l u h; exact absurd h id
  | succ f ih =>
    intro B k w l u h a
    obtain ⟨hk, hlu, h⟩ := h
    rcases h with ⟨h1, h2, h3, h4, h5, h6⟩ | ⟨c, h1, h2, h3, h4, h5, h6, h7, h8⟩ | ⟨c, w', h1, h2, h3, h4, h5, h6, h7, h8⟩ | ⟨c, w', x, h1, h2, h3, h4, h5, h6, h7, h8, h9, h10, h11, h12, h13⟩ | ⟨c, m, w1, w2, v, h1, h2, h3, h4, h5, h6, h7, h8, h9, h10, h11, h12, h13, h14, h15, h16, h17, h18, h19⟩ | ⟨w', h1, h2, h3, h4, h5⟩ | ⟨c, w1, w2, h1, h2, h3, h4, h5, h6, h7, h8, h9, h10, h11, h12⟩ | ⟨c, m, w1, w2, w3, h1, h2, h3, h4, h5, h6, h7, h8, h9, h10, h11, h12, h13⟩
    · have hlf : yo k = 0 ∨ yo k = 3 ∨ yo k = 4 ∨ yo k = 19 := by
        rcases h2 with z | z | z | z
        · rw [h3, z]; exact Or.inl rfl
        · rw [h3, z]; exact Or.inr (Or.inl rfl)
        · rw [h3, z]; exact Or.inr (Or.inr (Or.inr rfl))
        · rw [h3, z.1]; exact Or.inr (Or.inr (Or.inl rfl))
      rw [cn_c_leaf hlf]
      exact ⟨by show 1 ≤ u - l; omega, by show 0 < 1; omega⟩
    · have hop : yo k = 1 ∨ yo k = 2 ∨ yo k = 5 := by
        rcases h2 with z | z <;> rw [h4, z] <;> decide
      have g := ih _ _ _ _ _ h7 a
      rw [cn_c_un (hP k 0 hk (by rw [cm_ar1 (by rcases hop with z | z | z <;> rw [z] <;> decide)]; omega)) hop, List.length_append]
      show _ + 1 ≤ _ ∧ 0 < _ + 1
      omega
    · have g := ih _ _ _ _ _ h6 a
      omega
    · have g := ih _ _ _ _ _ h11 a
      rw [cn_c_un (hP k 0 hk (by rw [h8]; decide)) (Or.inr (Or.inr h8)), List.length_append]
      show _ + 1 ≤ _ ∧ 0 < _ + 1
      omega
    · have hop : yo k = 20 ∨ yo k = 21 ∨ yo k = 22 := by
        have z3 : T l = 20 ∨ T l = 21 ∨ T l = 22 := by omega
        rcases z3 with z | z | z <;> rw [h12, z] <;> decide
      have har : gr_ar (yo k) = 2 := cm_ar2 (by rcases hop with z | z | z <;> rw [z] <;> decide)
      have g1 := ih _ _ _ _ _ h15 a
      have g2 := ih _ _ _ _ _ h17 (a + (cn_c yo yn ya yc yp (yp k 0) a).length + 1)
      rw [cn_c_qn (hP k 0 hk (by omega)) (hP k 1 hk (by omega)) hop]
      unfold cn_seq
      simp only [List.length_append, List.length_cons, List.length_nil]
      omega
    · have hop : yo k = 12 ∨ yo k = 23 := by
        rcases h1 with ⟨_, z⟩ | ⟨_, z, _⟩
        · exact Or.inl z
        · exact Or.inr z
      have g := ih _ _ _ _ _ h3 a
      rw [cn_c_si (hP k 0 hk (by rw [cm_ar1 (by rcases hop with z | z <;> rw [z] <;> decide)]; omega)) hop, List.length_append]
      show _ + 1 ≤ _ ∧ 0 < _ + 1
      omega
    · have g1 := ih _ _ _ _ _ h8 a
      have g2a := ih _ _ _ _ _ h9 (a + (cn_c yo yn ya yc yp (yp k 0) a).length)
      have g2b := ih _ _ _ _ _ h9 (a + (cn_c yo yn ya yc yp (yp k 0) a).length + 1)
      have z3 : T c = 10 ∨ T c = 11 ∨ T c = 13 ∨ T c = 14 ∨ T c = 15 ∨ T c = 16 ∨ T c = 17 ∨ T c = 18 := by omega
      have har : gr_ar (yo k) = 2 := cm_ar2 (by
        rcases z3 with z | z | z | z | z | z | z | z <;> rw [h6, z] <;> decide)
      by_cases hl : T c = 10 ∨ T c = 11
      · rw [cn_c_lo (hP k 0 hk (by omega)) (hP k 1 hk (by omega)) (by rcases hl with z | z <;> rw [h6, z] <;> decide)]
        unfold cn_seq
        simp only [List.length_append, List.length_cons, List.length_nil]
        omega
      · have z4 : T c = 13 ∨ T c = 14 ∨ T c = 15 ∨ T c = 16 ∨ T c = 17 ∨ T c = 18 := by omega
        rw [cn_c_bi (hP k 0 hk (by omega)) (hP k 1 hk (by omega)) (by rcases z4 with z | z | z | z | z | z <;> rw [h6, z] <;> decide)]
        unfold cn_seq
        simp only [List.length_append, List.length_cons, List.length_nil]
        omega
    · have har : gr_ar (yo k) = 3 := by rw [h4]; decide
      have g1 := ih _ _ _ _ _ h7 a
      have g2 := ih _ _ _ _ _ h9 (a + (cn_c yo yn ya yc yp (yp k 0) a).length + 1)
      have g3 := ih _ _ _ _ _ h11 (a + (cn_c yo yn ya yc yp (yp k 0) a).length + 1 + (cn_c yo yn ya yc yp (yp k 1) (a + (cn_c yo yn ya yc yp (yp k 0) a).length + 1)).length + 1)
      rw [cn_c_if (hP k 0 hk (by omega)) (hP k 1 hk (by omega)) (hP k 2 hk (by omega)) h4]
      unfold cn_seq
      simp only [List.length_append, List.length_cons, List.length_nil]
      omega
theorem ci_im {n : Nat} {code : List cm_I} (hn : n ≤ 40) (hP : ∀ k i, k < nn → i < gr_ar (yo k) → k < yp k i ∧ yp k i < 40) (h5 : ∀ l x, l < n → T l = 5 → tv l = nI x → x < 6 → rk x = 1 ∨ rk x = 2) : ∀ (f : Nat) (B : Nat → Prop) (k w l u : Nat), cg_G T tv yo yn ya yc yp nn f B k w l u → u ≤ n → 100 ≤ cn_b yo yn ya rk yp k → ∀ a, ci_At code a (cn_c yo yn ya yc yp k a) → a + (cn_c yo yn ya yc yp k a).length ≤ code.length →
    gr_Im (fun j => (ci_x code j).1) (fun j => (ci_x code j).2.1) (fun j => (ci_x code j).2.2.1) (fun j => (ci_x code j).2.2.2) yo yn ya yp rk code.length nn f B k a (a + (cn_c yo yn ya yc yp k a).length) (cn_k yo yn rk yp k) := by
  intro f
  induction f with
  | zero => intro B k w l u h; exact absurd h id
  | succ f ih =>
    intro B k w l u hG hu hb a hat hcl
    have hpos := (ci_len (n := n) hP (f + 1) B k w l u hG a).2
    have CL := fun (B : Nat → Prop) (k w l u : Nat) (h : cg_G T tv yo yn ya yc yp nn f B k w l u) (a : Nat) => (ci_len (n := n) hP f B k w l u h a).2
    obtain ⟨hk, hlu, h⟩ := hG
    have hs : cn_ok yo yn rk yp k = true ∨ (ya k).toNatClampNeg ≥ 100 := by
      have h1 : 100 ≤ cn_s yo yn ya rk yp k := Nat.le_trans hb cn_b_le
      unfold cn_s at h1
      by_cases z : cn_ok yo yn rk yp k = true
      · exact Or.inl z
      · rw [if_neg z] at h1; exact Or.inr h1
    rcases h with ⟨h1, h2, h3, h4, h5', h6⟩ | ⟨c, h1, h2, h3, h4, h5', h6, h7, h8⟩ | ⟨c, w', h1, h2, h3, h4, h5', h6, h7, h8⟩ | ⟨c, w', x, h1, h2, h3, h4, h5', h6, h7, h8, h9, h10, h11, h12, h13⟩ | ⟨c, m, w1, w2, v, h1, h2, h3, h4, h5', h6, h7, h8, h9, h10, h11, h12, h13, h14, h15, h16, h17, h18, h19⟩ | ⟨w', h1, h2, h3, h4, h5'⟩ | ⟨c, w1, w2, h1, h2, h3, h4, h5', h6, h7, h8, h9, h10, h11, h12⟩ | ⟨c, m, w1, w2, w3, h1, h2, h3, h4, h5', h6, h7, h8, h9, h10, h11, h12, h13⟩
    · -- a leaf
      have hlf : yo k = 0 ∨ yo k = 3 ∨ yo k = 4 ∨ yo k = 19 := by
        rcases h2 with z | z | z | z
        · rw [h3, z]; exact Or.inl rfl
        · rw [h3, z]; exact Or.inr (Or.inl rfl)
        · rw [h3, z]; exact Or.inr (Or.inr (Or.inr rfl))
        · rw [h3, z.1]; exact Or.inr (Or.inr (Or.inl rfl))
      rw [cn_c_leaf hlf] at hat hcl ⊢
      have gx := ci_get (ci_At_h hat).1
      refine ⟨hk, by show a < a + 1; omega, hcl, ?_⟩
      rcases h2 with z | z | z | ⟨z, v, hv, ev, hBv⟩
      · have o : yo k = 0 := by rw [h3, z]; rfl
        exact Or.inl ⟨o, rfl, by show (ci_x code a).1 = 0; rw [gx]; exact o, by show (ci_x code a).2.1 = _; rw [gx], by rw [cn_k, o]; rfl⟩
      · have o : yo k = 3 := by rw [h3, z]; rfl
        exact Or.inr (Or.inl ⟨o, rfl, by show (ci_x code a).1 = 3; rw [gx]; exact o, by rw [cn_k, o]; rfl⟩)
      · have o : yo k = 19 := by rw [h3, z]; rfl
        exact Or.inr (Or.inr (Or.inl ⟨o, rfl, by show (ci_x code a).1 = 19; rw [gx]; exact o, by rw [cn_k, o]; rfl⟩))
      · have o : yo k = 4 := by rw [h3, z]; rfl
        exact Or.inr (Or.inr (Or.inr (Or.inl ⟨v, hv, o, h4.trans ev, rfl, by show (ci_x code a).1 = 4; rw [gx]; exact o, by show (ci_x code a).2.1 = _; rw [gx]; exact h4.trans ev, hBv, by rw [cn_k, o]; rfl⟩)))
    · -- a property
      have hop2 : yo k = 1 ∨ yo k = 2 := by
        rcases h2 with z | z <;> rw [h4, z] <;> decide
      have hop : yo k = 1 ∨ yo k = 2 ∨ yo k = 5 := hop2.elim Or.inl (fun z => Or.inr (Or.inl z))
      have h0 := hP k 0 hk (by rw [cm_ar1 (by rcases hop with z | z | z <;> rw [z] <;> decide)]; omega)
      have hok : cn_ok yo yn rk yp k = true := hs.resolve_right (by rw [h6, nI_clamp (by omega)]; omega)
      rw [cn_ok_un hop] at hok
      have hK3 := of_decide_eq_true hok
      have hb0 : 100 ≤ cn_b yo yn ya rk yp (yp k 0) := by
        rw [cn_b_1 h0 (cm_ar1 (by rcases hop with z | z | z <;> rw [z] <;> decide))] at hb; omega
      rw [cn_c_un h0 hop] at hat hcl hpos ⊢
      have e : (cn_c yo yn ya yc yp (yp k 0) a ++ [(yo k, yn k, 0, ya k)]).length = (cn_c yo yn ya yc yp (yp k 0) a).length + 1 := List.length_append
      rw [e] at hcl ⊢
      have IH := ih _ _ _ _ _ h7 (by omega) hb0 a (ci_At_l hat) (by omega)
      rw [hK3] at IH
      have gx := ci_get (ci_At_h (ci_At_r hat)).1
      obtain ⟨x, hx, ex⟩ := h3
      have hyn : yn k = nI x := h5'.trans ex
      refine ⟨hk, by omega, by omega, Or.inr (Or.inr (Or.inr (Or.inr (Or.inl ⟨x, a + (cn_c yo yn ya yc yp (yp k 0) a).length, hx, rfl, hop2, hyn, IH, ?_, ?_, ?_, ?_⟩))))⟩
      · show (ci_x code _).1 = _; rw [gx]
      · show (ci_x code _).2.1 = _; rw [gx]; exact hyn
      · show (ci_x code _).2.2.2 = _; rw [gx]
      · rw [cn_k, if_neg (by rcases hop2 with z | z <;> rw [z] <;> decide), if_neg (by rcases hop2 with z | z <;> rw [z] <;> decide), if_neg (by rcases hop2 with z | z <;> rw [z] <;> decide), if_pos hop2, hyn]
        unfold gr_pk
        have x6 : x = 0 ∨ x = 1 ∨ x = 2 ∨ x = 3 ∨ x = 4 ∨ x = 5 := by omega
        rcases x6 with rfl | rfl | rfl | rfl | rfl | rfl <;> rfl
    · -- brackets
      exact ci_mono (ih _ _ _ _ _ h6 (by omega) hb a hat hcl)
    · -- a call
      have hop : yo k = 1 ∨ yo k = 2 ∨ yo k = 5 := Or.inr (Or.inr h8)
      have h0 := hP k 0 hk (by rw [h8]; decide)
      have hok : cn_ok yo yn rk yp k = true := hs.resolve_right (by rw [h10, nI_clamp (by omega)]; omega)
      rw [cn_ok_un hop] at hok
      have hK3 := of_decide_eq_true hok
      have hb0 : 100 ≤ cn_b yo yn ya rk yp (yp k 0) := by
        rw [cn_b_1 h0 (by rw [h8]; decide)] at hb; omega
      rw [cn_c_un h0 hop] at hat hcl hpos ⊢
      have e : (cn_c yo yn ya yc yp (yp k 0) a ++ [(yo k, yn k, 0, ya k)]).length = (cn_c yo yn ya yc yp (yp k 0) a).length + 1 := List.length_append
      rw [e] at hcl ⊢
      have IH := ih _ _ _ _ _ h11 (by omega) hb0 a (ci_At_l hat) (by omega)
      rw [hK3] at IH
      have gx := ci_get (ci_At_h (ci_At_r hat)).1
      have hyn : yn k = nI x := h9.trans h7
      have hk5 : cn_k yo yn rk yp k = rk x := by rw [cn_k, if_neg (by rw [h8]; decide), if_pos h8, hyn, nI_clamp (by omega)]
      refine ⟨hk, by omega, by omega, Or.inr (Or.inr (Or.inr (Or.inr (Or.inr (Or.inr (Or.inl ⟨x, a + (cn_c yo yn ya yc yp (yp k 0) a).length, h6, rfl, h8, hyn, IH, ?_, ?_, ?_, hk5.symm, ?_⟩))))))⟩
      · show (ci_x code _).1 = _; rw [gx]; exact h8
      · show (ci_x code _).2.1 = _; rw [gx]; exact hyn
      · show (ci_x code _).2.2.2 = _; rw [gx]
      · rw [hk5]; exact h5 l x (by omega) h2 h7 h6
    · -- a quantifier
      have hop : yo k = 20 ∨ yo k = 21 ∨ yo k = 22 := by
        have z3 : T l = 20 ∨ T l = 21 ∨ T l = 22 := by omega
        rcases z3 with z | z | z <;> rw [h12, z] <;> decide
      have hmc : m + 1 < c := by
        cases f with
        | zero => exact absurd h17 id
        | succ f => exact h17.2.1
      have h22 : yo k = 22 ↔ T l = 22 := by
        rw [h12]; exact nI_eq (b := 22) (by omega) (by decide)
      have har : gr_ar (yo k) = 2 := cm_ar2 (by rcases hop with z | z | z <;> rw [z] <;> decide)
      have h0 := hP k 0 hk (by omega)
      have h1' := hP k 1 hk (by omega)
      have hok : cn_ok yo yn rk yp k = true := hs.resolve_right (by rw [h14, nI_clamp (by omega)]; omega)
      rw [cn_ok_qn hop] at hok
      obtain ⟨hK4, hKb⟩ := of_decide_eq_true hok
      rw [cn_b_2 h0 h1' har] at hb
      have hkk : cn_k yo yn rk yp k = (if T l = 22 then 1 else 2) := by
        rw [cn_k, if_neg (by rcases hop with z | z | z <;> rw [z] <;> decide), if_neg (by rcases hop with z | z | z <;> rw [z] <;> decide), if_neg (by rcases hop with z | z | z <;> rw [z] <;> decide), if_neg (by rcases hop with z | z | z <;> rw [z] <;> decide)]
        by_cases z : T l = 22
        · rw [if_pos z, if_neg (by rw [h22.2 z]; decide)]
        · have hop2 : yo k = 20 ∨ yo k = 21 := by
            rcases hop with y | y | y
            · exact Or.inl y
            · exact Or.inr y
            · exact absurd (h22.1 y) z
          rw [if_neg z, if_pos (Or.inr hop2)]
      have hKb2 : cn_k yo yn rk yp (yp k 1) = cn_k yo yn rk yp k := by
        rw [hkk, hKb]
        by_cases z : T l = 22
        · rw [if_pos z, if_pos (h22.2 z)]
        · rw [if_neg z, if_neg (fun y => z (h22.1 y))]
      rw [cn_c_qn h0 h1' hop] at hat hcl hpos ⊢
      unfold cn_seq at hat hcl hpos ⊢
      generalize hA : cn_c yo yn ya yc yp (yp k 0) a = A at *
      generalize hBB : cn_c yo yn ya yc yp (yp k 1) (a + A.length + 1) = Bc at *
      have e : (A ++ (yo k, yn k, nI (a + A.length + 1 + Bc.length + 1), ya k) :: (Bc ++ [(24, nI (a + A.length), 0, ya k)])).length = A.length + 1 + Bc.length + 1 := by
        simp only [List.length_append, List.length_cons, List.length_nil]; omega
      dsimp only at hat hcl hpos ⊢
      rw [hBB] at hat hcl hpos ⊢
      rw [e] at hcl ⊢
      have at2 := ci_At_h (ci_At_r hat)
      have at3 := ci_At_r at2.2
      have gx1 := ci_get at2.1
      have gx2 := ci_get (ci_At_h at3).1
      have IH1 := ih _ _ _ _ _ h15 (by omega) (by omega) a (by rw [hA]; exact ci_At_l hat) (by rw [hA]; omega)
      have IH2 := ih _ _ _ _ _ h17 (by omega) (by omega) (a + A.length + 1) (by rw [hBB]; exact ci_At_l at2.2) (by rw [hBB]; omega)
      rw [hA, hK4] at IH1
      rw [hBB, hKb2] at IH2
      have hAp := CL _ _ _ _ _ h15 a
      have hBp := CL _ _ _ _ _ h17 (a + A.length + 1)
      rw [hA] at hAp
      rw [hBB] at hBp
      refine ⟨hk, by omega, by omega, Or.inr (Or.inr (Or.inr (Or.inr (Or.inr (Or.inr (Or.inr (Or.inr (Or.inr (Or.inr ⟨T l, v, a + A.length, a + A.length + 1 + Bc.length, h2, by omega, h9, by omega, h12, h13.trans h10, h11, IH1, ?_, ?_, ?_, ?_, IH2, ?_, ?_, ?_, hkk⟩)))))))))⟩
      · show (ci_x code _).1 = _; rw [gx1]; exact h12
      · show (ci_x code _).2.1 = _; rw [gx1]; exact h13.trans h10
      · show (ci_x code _).2.2.1 = _; rw [gx1]; exact congrArg nI (by omega)
      · show (ci_x code _).2.2.2 = _; rw [gx1]
      · show (ci_x code _).1 = _; rw [gx2]
      · show (ci_x code _).2.1 = _; rw [gx2]
      · show (ci_x code _).2.2.2 = _; rw [gx2]
    · -- one side alone
      have hop : yo k = 12 ∨ yo k = 23 := by
        rcases h1 with ⟨_, z⟩ | ⟨_, z, _⟩
        · exact Or.inl z
        · exact Or.inr z
      have har : gr_ar (yo k) = 1 := cm_ar1 (by rcases hop with z | z <;> rw [z] <;> decide)
      have h0 := hP k 0 hk (by omega)
      have hok : cn_ok yo yn rk yp k = true := hs.resolve_right (by rw [h2, nI_clamp (by omega)]; omega)
      have hb0 : 100 ≤ cn_b yo yn ya rk yp (yp k 0) := by
        rw [cn_b_1 h0 har] at hb; omega
      have hkk : cn_k yo yn rk yp (yp k 0) = cn_k yo yn rk yp k := by
        rcases hop with z | z
        · rw [cn_ok_12 z] at hok
          rw [of_decide_eq_true hok, cn_k_12 z]
        · rw [cn_ok_23 z] at hok
          rw [of_decide_eq_true hok, cn_k_23 z]
      rw [cn_c_si h0 hop] at hat hcl hpos ⊢
      have e : (cn_c yo yn ya yc yp (yp k 0) a ++ [(yo k, 0, 0, ya k)]).length = (cn_c yo yn ya yc yp (yp k 0) a).length + 1 := List.length_append
      rw [e] at hcl ⊢
      have IH := ih _ _ _ _ _ h3 hu hb0 a (ci_At_l hat) (by omega)
      rw [hkk] at IH
      have gx := ci_get (ci_At_h (ci_At_r hat)).1
      refine ⟨hk, by omega, by omega, Or.inr (Or.inr (Or.inr (Or.inr (Or.inr (Or.inl ⟨a + (cn_c yo yn ya yc yp (yp k 0) a).length, rfl, ?_, IH, ?_⟩)))))⟩
      · rcases hop with z | z
        · exact Or.inl ⟨z, cn_k_12 z⟩
        · exact Or.inr ⟨z, cn_k_23 z⟩
      · show (ci_x code _).1 = _; rw [gx]
    · -- an operator between two sides
      have z3 : T c = 10 ∨ T c = 11 ∨ T c = 13 ∨ T c = 14 ∨ T c = 15 ∨ T c = 16 ∨ T c = 17 ∨ T c = 18 := by omega
      have har : gr_ar (yo k) = 2 := cm_ar2 (by
        rcases z3 with z | z | z | z | z | z | z | z <;> rw [h6, z] <;> decide)
      have h0 := hP k 0 hk (by omega)
      have h1' := hP k 1 hk (by omega)
      have hlc : l < c ∧ c + 1 < u := by
        cases f with
        | zero => exact absurd h8 id
        | succ f => exact ⟨h8.2.1, h9.2.1⟩
      have hok : cn_ok yo yn rk yp k = true := hs.resolve_right (by rw [h7, nI_clamp (by omega)]; omega)
      rw [cn_b_2 h0 h1' har] at hb
      by_cases hl : T c = 10 ∨ T c = 11
      · have hop : yo k = 10 ∨ yo k = 11 := by rcases hl with z | z <;> rw [h6, z] <;> decide
        rw [cn_ok_lo hop] at hok
        obtain ⟨hK1, hK2⟩ := of_decide_eq_true hok
        rw [cn_c_lo h0 h1' hop] at hat hcl hpos ⊢
        unfold cn_seq at hat hcl hpos ⊢
        generalize hA : cn_c yo yn ya yc yp (yp k 0) a = A at *
        generalize hBB : cn_c yo yn ya yc yp (yp k 1) (a + A.length + 1) = Bc at *
        have e : (A ++ (yo k, 0, nI (a + A.length + 1 + Bc.length), ya k) :: Bc).length = A.length + 1 + Bc.length := by
          simp only [List.length_append, List.length_cons]; omega
        dsimp only at hat hcl hpos ⊢
        rw [hBB] at hat hcl hpos ⊢
        rw [e] at hcl ⊢
        have at2 := ci_At_h (ci_At_r hat)
        have gx1 := ci_get at2.1
        have IH1 := ih _ _ _ _ _ h8 (by omega) (by omega) a (by rw [hA]; exact ci_At_l hat) (by rw [hA]; omega)
        have IH2 := ih _ _ _ _ _ h9 (by omega) (by omega) (a + A.length + 1) (by rw [hBB]; exact at2.2) (by rw [hBB]; omega)
        rw [hA, hK1] at IH1
        rw [hBB, hK2] at IH2
        have kk : cn_k yo yn rk yp k = 2 := by
          rcases hl with z | z <;> rw [cn_k, h6, z] <;> rfl
        refine ⟨hk, by omega, by omega, Or.inr (Or.inr (Or.inr (Or.inr (Or.inr (Or.inr (Or.inr (Or.inr (Or.inl ⟨a + A.length, hop, IH1, ?_, ?_, ?_, kk⟩))))))))⟩
        · show (ci_x code _).1 = _; rw [gx1]
        · show (ci_x code _).2.2.1 = _; rw [gx1]; exact congrArg nI (by omega)
        · rw [show a + (A.length + 1 + Bc.length) = a + A.length + 1 + Bc.length by omega]; exact IH2
      · have z4 : T c = 13 ∨ T c = 14 ∨ T c = 15 ∨ T c = 16 ∨ T c = 17 ∨ T c = 18 := by omega
        have hop : yo k = 13 ∨ yo k = 14 ∨ yo k = 15 ∨ yo k = 16 ∨ yo k = 17 ∨ yo k = 18 := by rcases z4 with z | z | z | z | z | z <;> rw [h6, z] <;> decide
        rw [cn_c_bi h0 h1' hop] at hat hcl hpos ⊢
        unfold cn_seq at hat hcl hpos ⊢
        generalize hA : cn_c yo yn ya yc yp (yp k 0) a = A at *
        generalize hBB : cn_c yo yn ya yc yp (yp k 1) (a + A.length) = Bc at *
        have e : (A ++ (Bc ++ [(yo k, 0, 0, ya k)])).length = A.length + Bc.length + 1 := by
          simp only [List.length_append, List.length_cons, List.length_nil]; omega
        dsimp only at hat hcl hpos ⊢
        rw [hBB] at hat hcl hpos ⊢
        rw [e] at hcl ⊢
        have at2 := ci_At_r hat
        have gx1 := ci_get (ci_At_h (ci_At_r at2)).1
        have IH1 := ih _ _ _ _ _ h8 (by omega) (by omega) a (by rw [hA]; exact ci_At_l hat) (by rw [hA]; omega)
        have IH2 := ih _ _ _ _ _ h9 (by omega) (by omega) (a + A.length) (by rw [hBB]; exact ci_At_l at2) (by rw [hBB]; omega)
        rw [hA] at IH1
        rw [hBB] at IH2
        have kk : cn_k yo yn rk yp k = (if T c ≤ 14 then 2 else 1) := by
          rcases z4 with z | z | z | z | z | z <;> rw [cn_k, h6, z] <;> rfl
        refine ⟨hk, by omega, by omega, Or.inr (Or.inr (Or.inr (Or.inr (Or.inr (Or.inr (Or.inr (Or.inl ⟨T c, a + A.length, a + A.length + Bc.length, _, _, by omega, h2, by omega, h6, IH1, IH2, ?_, ?_, kk⟩)))))))⟩
        · show (ci_x code _).1 = _; rw [gx1]; exact h6
        · show (ci_x code _).2.2.2 = _; rw [gx1]
    · -- a choice
      have har : gr_ar (yo k) = 3 := by rw [h4]; decide
      have h0 := hP k 0 hk (by omega)
      have h1' := hP k 1 hk (by omega)
      have h2' := hP k 2 hk (by omega)
      have hlc : l < c ∧ c + 1 < m ∧ m + 1 < u := by
        cases f with
        | zero => exact absurd h7 id
        | succ f => exact ⟨h7.2.1, h9.2.1, h11.2.1⟩
      have hok : cn_ok yo yn rk yp k = true := hs.resolve_right (by rw [h5', nI_clamp (by omega)]; omega)
      rw [cn_ok_8 h4] at hok
      obtain ⟨hK1, hK2⟩ := of_decide_eq_true hok
      rw [cn_b_3 h0 h1' h2' har] at hb
      have hkk : cn_k yo yn rk yp k = cn_k yo yn rk yp (yp k 1) := by
        conv => lhs; rw [cn_k, if_pos h4, dif_pos h1']
      rw [cn_c_if h0 h1' h2' h4] at hat hcl hpos ⊢
      unfold cn_seq at hat hcl hpos ⊢
      generalize hA : cn_c yo yn ya yc yp (yp k 0) a = A at *
      generalize hBB : cn_c yo yn ya yc yp (yp k 1) (a + A.length + 1) = Bc at *
      generalize hCC : cn_c yo yn ya yc yp (yp k 2) (a + A.length + 1 + Bc.length + 1) = Cc at *
      dsimp only at hat hcl hpos ⊢
      rw [hBB] at hat hcl hpos ⊢
      rw [hCC] at hat hcl hpos ⊢
      have e : (A ++ (8, 0, nI (a + A.length + 1 + Bc.length + 1), ya k) :: (Bc ++ (9, 0, nI (a + A.length + 1 + Bc.length + 1 + Cc.length), yc k) :: Cc)).length = A.length + 1 + Bc.length + 1 + Cc.length := by
        simp only [List.length_append, List.length_cons]; omega
      rw [e] at hcl ⊢
      have at2 := ci_At_h (ci_At_r hat)
      have at3 := ci_At_h (ci_At_r at2.2)
      have gx1 := ci_get at2.1
      have gx2 := ci_get at3.1
      have IH1 := ih _ _ _ _ _ h7 (by omega) (by omega) a (by rw [hA]; exact ci_At_l hat) (by rw [hA]; omega)
      have IH2 := ih _ _ _ _ _ h9 (by omega) (by omega) (a + A.length + 1) (by rw [hBB]; exact ci_At_l at2.2) (by rw [hBB]; omega)
      have IH3 := ih _ _ _ _ _ h11 (by omega) (by omega) (a + A.length + 1 + Bc.length + 1) (by rw [hCC]; exact at3.2) (by rw [hCC]; omega)
      rw [hA, hK1] at IH1
      rw [hBB, ← hkk] at IH2
      rw [hCC, ← hK2, ← hkk] at IH3
      refine ⟨hk, by omega, by omega, Or.inr (Or.inr (Or.inr (Or.inr (Or.inr (Or.inr (Or.inr (Or.inr (Or.inr (Or.inl ⟨a + A.length, a + A.length + 1 + Bc.length, h4, IH1, ?_, ?_, IH2, ?_, ?_, ?_⟩)))))))))⟩
      · show (ci_x code _).1 = _; rw [gx1]
      · show (ci_x code _).2.2.1 = _; rw [gx1]
      · show (ci_x code _).1 = _; rw [gx2]
      · show (ci_x code _).2.2.1 = _; rw [gx2]; exact congrArg nI (by omega)
      · rw [show a + (A.length + 1 + Bc.length + 1 + Cc.length) = a + A.length + 1 + Bc.length + 1 + Cc.length by omega]; exact IH3
end
