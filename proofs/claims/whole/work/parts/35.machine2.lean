theorem cm_rq_ge {w : Nat} (h : 2 ≤ w) : w ≤ cm_rq w ∨ w = 8 ∨ 8 < w := by
  unfold cm_rq; repeat' split
  all_goals omega
theorem cm_rq_lt {a w : Nat} (ha : a ≤ 6) (h : a < w) (h2 : 2 ≤ w) : a < cm_rq w := by
  unfold cm_rq; repeat' split
  all_goals omega
theorem cm_rq_mono {w w1 : Nat} (h : w ≤ w1) : cm_rq w ≤ cm_rq w1 := by
  unfold cm_rq; repeat' split
  all_goals omega
theorem cm_rq_eq {w : Nat} (h : 2 ≤ w) (h6 : w ≤ 6) : cm_rq w = w := by
  unfold cm_rq; rw [if_neg (by omega), if_neg (by omega)]
theorem cm_se_ap {T : Nat → Nat} {q : Nat} {e : Nat × Nat} {r : List (Nat × Nat)} {z z' : cm_R} (h : q ≤ cm_str T e.1) (ha : cm_ap T e.1 e.2 z = some z') : cm_se T q (e :: r) z = cm_se T q r z' := by
  show (if cm_str T e.1 < q then some (e :: r, z) else (match cm_ap T e.1 e.2 z with | none => none | some z' => cm_se T q r z')) = _
  rw [if_neg (by omega), ha]
theorem cm_eqz {a a' : List Int32} {b b' : List cm_I} {c c' : Nat} (h1 : a = a') (h2 : b = b') (h3 : c = c') : some ((a, b, c) : cm_R) = some ((a', b', c') : cm_R) := by rw [h1, h2, h3]
section
variable {T : Nat → Nat} {tv yo yn ya yc rk : Nat → Int32} {yp : Nat → Nat → Nat} {k l u : Nat}
theorem cn_k_12 (h : yo k = 12) : cn_k yo yn rk yp k = 2 := by rw [cn_k, h]; rfl
theorem cn_k_23 (h : yo k = 23) : cn_k yo yn rk yp k = 1 := by rw [cn_k, h]; rfl
theorem cp_pre {w' : Nat} (hlu : l < u) (hl : l < 1000) (ht : T l = 12 ∧ yo k = 12 ∨ T l = 16 ∧ yo k = 23 ∧ (l = 0 ∨ ¬ (T (l - 1) ≤ 4 ∨ T (l - 1) = 7 ∨ T (l - 1) = 19))) (ha : ya k = nI l) (h0 : k < yp k 0 ∧ yp k 0 < 40) (hw : 7 ≤ w') (ih : cm_P T tv yo yn ya yc rk yp (yp k 0) w' (l + 1) u) : cm_P T tv yo yn ya yc rk yp k 7 l u := by
  intro stk kd code lst hlst htop
  have hpre : cm_pre T l = true := cm_pre_y (by
    rcases ht with ⟨z, _⟩ | ⟨z, _, y⟩
    · exact Or.inl z
    · exact Or.inr ⟨z, y⟩)
  have s7 : cm_str T l = 7 := cm_str_pre (by
    rcases ht with ⟨z, _⟩ | ⟨z, _, _⟩
    · exact Or.inl z
    · exact Or.inr ⟨z, hpre⟩)
  obtain ⟨st, r1, r2, r3⟩ := ih ((l, 0) :: stk) kd code lst hlst (fun e r z => by
    rw [← (List.cons.inj z).1]
    show cm_str T l < cm_rq w'
    rw [s7]; unfold cm_rq; rw [if_pos hw]; omega)
  have a1 : cm_step T tv (fun o => rk (tv o).toNatClampNeg) l (stk, (kd, code, lst)) = some ((l, 0) :: stk, (kd, code, lst)) := by
    rw [cm_stp (s' := (stk, (kd, code, lst))) (by rw [cm_sf8 (Or.inr s7) (by omega) (by omega) (by omega)]; exact cm_se8)]
    unfold cm_tr
    rw [if_neg (by omega), if_neg (by omega), if_neg (by omega), if_neg (by omega), if_neg (by omega), if_neg (by omega), if_neg (by omega)]
  have hop : yo k = 12 ∨ yo k = 23 := by
    rcases ht with ⟨_, z⟩ | ⟨_, z, _⟩
    · exact Or.inl z
    · exact Or.inr z
  have ap : cm_ap T l 0 (cm_pu yo yn ya yc rk yp (yp k 0) kd code lst) = some (cm_pu yo yn ya yc rk yp k kd code lst) := by
    unfold cm_ap cm_pu
    rw [if_pos hpre, cn_c_si h0 hop, cn_b_1 h0 (cm_ar1 (by rcases hop with z | z <;> rw [z] <;> decide)), ha]
    dsimp only
    rw [cm_dem_eq (by omega), List.append_assoc]
    unfold cn_s
    rw [ha, nI_clamp (by omega)]
    rcases ht with ⟨z, y⟩ | ⟨z, y, _⟩
    · rw [if_pos z, if_pos z, cn_ok_12 y]
      refine cm_eqz ?_ (by rw [y]) ?_
      · rw [cn_k_12 y]
      · generalize (if decide (cn_k yo yn rk yp (yp k 0) = 2) = true then 100 else l) = A
        omega
    · rw [if_neg (by omega), if_neg (by omega), cn_ok_23 y]
      refine cm_eqz ?_ (by rw [y]) ?_
      · rw [cn_k_23 y]
      · generalize (if decide (cn_k yo yn rk yp (yp k 0) = 1) = true then 100 else l) = A
        omega
  refine ⟨st, ?_, fun q hq => ?_, fun z => absurd z (by omega)⟩
  · rw [cm_run_1 hlu a1]; exact r1
  · rw [r2 q (by omega)]
    exact cm_se_ap (by show q ≤ cm_str T l; omega) ap
theorem cp_bin {c w1 w2 : Nat} (hlc : l ≤ c) (hcu : c + 1 ≤ u) (hc : c < 1000) (ht : 13 ≤ T c ∧ T c ≤ 18) (hend : 0 < c ∧ (T (c - 1) ≤ 4 ∨ T (c - 1) = 7 ∨ T (c - 1) = 19)) (ho : yo k = nI (T c)) (ha : ya k = nI c) (h0 : k < yp k 0 ∧ yp k 0 < 40) (h1 : k < yp k 1 ∧ yp k 1 < 40) (hw1 : ca_wt (T c) + 1 ≤ w1) (hw2 : ca_wt (T c) + 1 < w2) (ih1 : cm_P T tv yo yn ya yc rk yp (yp k 0) w1 l c) (ih2 : cm_P T tv yo yn ya yc rk yp (yp k 1) w2 (c + 1) u) : cm_P T tv yo yn ya yc rk yp k (ca_wt (T c) + 1) l u := by
  intro stk kd code lst hlst htop
  have hwt := ca_wt_op (t := T c) ⟨by omega, by omega, by omega⟩
  have hnp : cm_pre T c = false := cm_pre_n (by omega) (fun _ => hend)
  have sc : cm_str T c = ca_wt (T c) + 1 := cm_str_op ⟨by omega, by omega, by omega⟩ hnp
  have htop2 : ∀ e r, stk = e :: r → cm_str T e.1 < ca_wt (T c) + 1 := fun e r z => by
    have := htop e r z
    rw [cm_rq_eq (by omega) (by omega)] at this
    exact this
  obtain ⟨st, r1, r2, r3⟩ := ih1 stk kd code lst hlst (fun e r z => Nat.lt_of_lt_of_le (htop e r z) (cm_rq_mono hw1))
  have sf : cm_sf T c = ca_wt (T c) + 1 := by
    unfold cm_sf
    rw [if_neg (by omega), if_neg (by omega), if_neg (by omega), sc]
  have a1 : cm_step T tv (fun o => rk (tv o).toNatClampNeg) c st = some ((c, 0) :: stk, cm_pu yo yn ya yc rk yp (yp k 0) kd code lst) := by
    rw [cm_stp (s' := (stk, cm_pu yo yn ya yc rk yp (yp k 0) kd code lst)) (by rw [sf, r2 _ hw1]; exact cm_stop htop2)]
    unfold cm_tr
    rw [if_neg (by omega), if_neg (by omega), if_neg (by omega), if_neg (by omega), if_neg (by omega), if_neg (by omega), if_neg (by omega)]
  obtain ⟨st2, q1, q2, q3⟩ := ih2 ((c, 0) :: stk) (cn_k yo yn rk yp (yp k 0) :: kd) (code ++ cn_c yo yn ya yc yp (yp k 0) code.length) (min lst (cn_b yo yn ya rk yp (yp k 0))) (by omega) (fun e r z => by
    rw [← (List.cons.inj z).1]
    show cm_str T c < cm_rq w2
    rw [sc]; exact cm_rq_lt (by omega) hw2 (by omega))
  have hop : yo k = 13 ∨ yo k = 14 ∨ yo k = 15 ∨ yo k = 16 ∨ yo k = 17 ∨ yo k = 18 := by
    have e : T c = 13 ∨ T c = 14 ∨ T c = 15 ∨ T c = 16 ∨ T c = 17 ∨ T c = 18 := by omega
    rcases e with e | e | e | e | e | e <;> rw [ho, e] <;> decide
  have la : (code ++ cn_c yo yn ya yc yp (yp k 0) code.length).length = code.length + (cn_c yo yn ya yc yp (yp k 0) code.length).length := List.length_append
  have kk : cn_k yo yn rk yp k = (if 15 ≤ T c then 1 else 2) := by
    have e : T c = 13 ∨ T c = 14 ∨ T c = 15 ∨ T c = 16 ∨ T c = 17 ∨ T c = 18 := by omega
    rcases e with e | e | e | e | e | e <;> rw [cn_k, ho, e] <;> rfl
  have ok : cn_ok yo yn rk yp k = (if T c = 13 then decide (cn_k yo yn rk yp (yp k 0) = cn_k yo yn rk yp (yp k 1) ∧ ¬ cn_k yo yn rk yp (yp k 0) = 4) else decide (cn_k yo yn rk yp (yp k 0) = 1 ∧ cn_k yo yn rk yp (yp k 1) = 1)) := by
    by_cases z : T c = 13
    · rw [if_pos z, cn_ok_13 (by rw [ho, z]; rfl)]
    · rw [if_neg z]
      refine cn_ok_ar ?_
      have e : T c = 14 ∨ T c = 15 ∨ T c = 16 ∨ T c = 17 ∨ T c = 18 := by omega
      rcases e with e | e | e | e | e <;> rw [ho, e] <;> decide
  have ap : cm_ap T c 0 (cm_pu yo yn ya yc rk yp (yp k 1) (cn_k yo yn rk yp (yp k 0) :: kd) (code ++ cn_c yo yn ya yc yp (yp k 0) code.length) (min lst (cn_b yo yn ya rk yp (yp k 0)))) = some (cm_pu yo yn ya yc rk yp k kd code lst) := by
    unfold cm_ap cm_pu
    rw [if_neg (by rw [hnp]; decide), if_neg (by omega), if_neg (by omega), cn_c_bi h0 h1 hop, cn_b_2 h0 h1 (cm_ar2 (by rcases hop with z | z | z | z | z | z <;> rw [z] <;> decide)), kk, la]
    dsimp only
    rw [cm_dem_eq (by omega), ← ok, ho, ha]
    unfold cn_seq cn_s
    rw [ha, nI_clamp (by omega)]
    refine cm_eqz rfl (by simp only [List.append_assoc]) ?_
    generalize (if cn_ok yo yn rk yp k = true then 100 else c) = A
    omega
  refine ⟨st2, ?_, fun q hq => ?_, fun z => absurd z (by omega)⟩
  · rw [cm_run_2 (m := c) hlc (by omega) r1, cm_run_1 (by omega) a1]; exact q1
  · rw [q2 q (by omega)]
    exact cm_se_ap (by show q ≤ cm_str T c; omega) ap
theorem cp_log {c w1 w2 : Nat} (hlc : l ≤ c) (hcu : c + 1 ≤ u) (hc : c < 1000) (ht : T c = 10 ∨ T c = 11) (ho : yo k = nI (T c)) (ha : ya k = nI c) (h0 : k < yp k 0 ∧ yp k 0 < 40) (h1 : k < yp k 1 ∧ yp k 1 < 40) (hw1 : ca_wt (T c) + 1 ≤ w1) (hw2 : ca_wt (T c) + 1 < w2) (ih1 : cm_P T tv yo yn ya yc rk yp (yp k 0) w1 l c) (ih2 : cm_P T tv yo yn ya yc rk yp (yp k 1) w2 (c + 1) u) : cm_P T tv yo yn ya yc rk yp k (ca_wt (T c) + 1) l u := by
  intro stk kd code lst hlst htop
  have hwt := ca_wt_op (t := T c) ⟨by omega, by omega, by omega⟩
  have hnp : cm_pre T c = false := cm_pre_n (by omega) (fun z => absurd z (by omega))
  have sc : cm_str T c = ca_wt (T c) + 1 := cm_str_op ⟨by omega, by omega, by omega⟩ hnp
  have htop2 : ∀ e r, stk = e :: r → cm_str T e.1 < ca_wt (T c) + 1 := fun e r z => by
    have := htop e r z
    rw [cm_rq_eq (by omega) (by omega)] at this
    exact this
  obtain ⟨st, r1, r2, r3⟩ := ih1 stk kd code lst hlst (fun e r z => Nat.lt_of_lt_of_le (htop e r z) (cm_rq_mono hw1))
  have sf : cm_sf T c = ca_wt (T c) + 1 := by
    unfold cm_sf
    rw [if_neg (by omega), if_neg (by omega), if_neg (by omega), sc]
  have la : (code ++ cn_c yo yn ya yc yp (yp k 0) code.length).length = code.length + (cn_c yo yn ya yc yp (yp k 0) code.length).length := List.length_append
  have a1 : cm_step T tv (fun o => rk (tv o).toNatClampNeg) c st = some ((c, code.length + (cn_c yo yn ya yc yp (yp k 0) code.length).length) :: stk, (cn_k yo yn rk yp (yp k 0) :: kd, (code ++ cn_c yo yn ya yc yp (yp k 0) code.length) ++ [(nI (T c), 0, 0, nI c)], min lst (cn_b yo yn ya rk yp (yp k 0)))) := by
    rw [cm_stp (s' := (stk, cm_pu yo yn ya yc rk yp (yp k 0) kd code lst)) (by rw [sf, r2 _ hw1]; exact cm_stop htop2)]
    unfold cm_tr
    rw [if_neg (by omega), if_neg (by omega), if_neg (by omega), if_neg (by omega), if_neg (by omega), if_neg (by omega), if_pos (by omega)]
    unfold cm_pu
    dsimp only
    rw [la]
  have lb : ((code ++ cn_c yo yn ya yc yp (yp k 0) code.length) ++ [(nI (T c), 0, 0, nI c)]).length = code.length + (cn_c yo yn ya yc yp (yp k 0) code.length).length + 1 := by
    rw [List.length_append, la]; rfl
  obtain ⟨st2, q1, q2, q3⟩ := ih2 ((c, code.length + (cn_c yo yn ya yc yp (yp k 0) code.length).length) :: stk) (cn_k yo yn rk yp (yp k 0) :: kd) ((code ++ cn_c yo yn ya yc yp (yp k 0) code.length) ++ [(nI (T c), 0, 0, nI c)]) (min lst (cn_b yo yn ya rk yp (yp k 0))) (by omega) (fun e r z => by
    rw [← (List.cons.inj z).1]
    show cm_str T c < cm_rq w2
    rw [sc]; exact cm_rq_lt (by omega) hw2 (by omega))
  have hop : yo k = 10 ∨ yo k = 11 := by
    rcases ht with e | e <;> rw [ho, e] <;> decide
  have kk : cn_k yo yn rk yp k = 2 := by
    rcases ht with e | e <;> rw [cn_k, ho, e] <;> rfl
  have ap : cm_ap T c (code.length + (cn_c yo yn ya yc yp (yp k 0) code.length).length) (cm_pu yo yn ya yc rk yp (yp k 1) (cn_k yo yn rk yp (yp k 0) :: kd) ((code ++ cn_c yo yn ya yc yp (yp k 0) code.length) ++ [(nI (T c), 0, 0, nI c)]) (min lst (cn_b yo yn ya rk yp (yp k 0)))) = some (cm_pu yo yn ya yc rk yp k kd code lst) := by
    unfold cm_ap cm_pu
    rw [if_neg (by rw [hnp]; decide), if_neg (by omega), if_pos ht, cn_c_lo h0 h1 hop, cn_b_2 h0 h1 (cm_ar2 (by rcases hop with z | z <;> rw [z] <;> decide)), kk, lb]
    dsimp only
    rw [cm_dem_eq (by omega), ho, ha]
    unfold cn_seq cn_s
    rw [cn_ok_lo hop, ha, nI_clamp (by omega)]
    have e1 : ((code ++ cn_c yo yn ya yc yp (yp k 0) code.length) ++ [(nI (T c), 0, 0, nI c)]) ++ cn_c yo yn ya yc yp (yp k 1) (code.length + (cn_c yo yn ya yc yp (yp k 0) code.length).length + 1) = (code ++ cn_c yo yn ya yc yp (yp k 0) code.length) ++ (nI (T c), 0, 0, nI c) :: cn_c yo yn ya yc yp (yp k 1) (code.length + (cn_c yo yn ya yc yp (yp k 0) code.length).length + 1) := by
      simp only [List.append_assoc, List.cons_append, List.nil_append]
    have e2 := cm_aim_app (code ++ cn_c yo yn ya yc yp (yp k 0) code.length) (nI (T c), 0, 0, nI c) (cn_c yo yn ya yc yp (yp k 1) (code.length + (cn_c yo yn ya yc yp (yp k 0) code.length).length + 1))
    rw [la] at e2
    have e3 : (((code ++ cn_c yo yn ya yc yp (yp k 0) code.length) ++ [(nI (T c), 0, 0, nI c)]) ++ cn_c yo yn ya yc yp (yp k 1) (code.length + (cn_c yo yn ya yc yp (yp k 0) code.length).length + 1)).length = code.length + (cn_c yo yn ya yc yp (yp k 0) code.length).length + 1 + (cn_c yo yn ya yc yp (yp k 1) (code.length + (cn_c yo yn ya yc yp (yp k 0) code.length).length + 1)).length := by
      rw [List.length_append, lb]
    rw [e3, e1, e2]
    refine cm_eqz rfl (by simp only [List.append_assoc]) ?_
    generalize (if decide (cn_k yo yn rk yp (yp k 0) = 2 ∧ cn_k yo yn rk yp (yp k 1) = 2) = true then 100 else c) = A
    omega
  refine ⟨st2, ?_, fun q hq => ?_, fun z => absurd z (by omega)⟩
  · rw [cm_run_2 (m := c) hlc (by omega) r1, cm_run_1 (by omega) a1]; exact q1
  · rw [q2 q (by omega)]
    exact cm_se_ap (by show q ≤ cm_str T c; omega) ap
theorem cp_if {c m w1 w2 w3 : Nat} (hlc : l ≤ c) (hcm : c + 1 ≤ m) (hmu : m + 1 ≤ u) (hc : c < 1000) (ht : T c = 8) (htm : T m = 9) (hom : ca_o T m = c) (ho : yo k = 8) (ha : ya k = nI c) (hyc : yc k = nI m) (h0 : k < yp k 0 ∧ yp k 0 < 40) (h1 : k < yp k 1 ∧ yp k 1 < 40) (h2 : k < yp k 2 ∧ yp k 2 < 40) (hw1 : 2 ≤ w1) (hw2 : 1 ≤ w2) (hw3 : 1 ≤ w3) (ih1 : cm_P T tv yo yn ya yc rk yp (yp k 0) w1 l c) (ih2 : cm_P T tv yo yn ya yc rk yp (yp k 1) w2 (c + 1) m) (ih3 : cm_P T tv yo yn ya yc rk yp (yp k 2) w3 (m + 1) u) : cm_P T tv yo yn ya yc rk yp k 1 l u := by
  intro stk kd code lst hlst htop
  have s8 : cm_str T c = 0 := cm_str0 (by omega)
  have s9 : cm_str T m = 1 := cm_str9 htm
  have htop2 : ∀ e r, stk = e :: r → cm_str T e.1 < 2 := fun e r z => htop e r z
  obtain ⟨st, r1, r2, r3⟩ := ih1 stk kd code lst hlst (fun e r z => Nat.lt_of_lt_of_le (htop e r z) (cm_rq_mono (by omega)))
  have la : (code ++ cn_c yo yn ya yc yp (yp k 0) code.length).length = code.length + (cn_c yo yn ya yc yp (yp k 0) code.length).length := List.length_append
  have a1 : cm_step T tv (fun o => rk (tv o).toNatClampNeg) c st = some ((c, code.length + (cn_c yo yn ya yc yp (yp k 0) code.length).length) :: stk, (cn_k yo yn rk yp (yp k 0) :: kd, (code ++ cn_c yo yn ya yc yp (yp k 0) code.length) ++ [(8, 0, 0, nI c)], min lst (cn_b yo yn ya rk yp (yp k 0)))) := by
    rw [cm_stp (s' := (stk, cm_pu yo yn ya yc rk yp (yp k 0) kd code lst)) (by rw [cm_sf2 ht, r2 _ hw1]; exact cm_stop htop2)]
    unfold cm_tr
    rw [if_neg (by omega), if_neg (by omega), if_neg (by omega), if_neg (by omega), if_neg (by omega), if_neg (by omega), if_pos (by omega)]
    unfold cm_pu
    dsimp only
    rw [la, ht]; rfl
  have lb : ((code ++ cn_c yo yn ya yc yp (yp k 0) code.length) ++ [((8 : Int32), (0 : Int32), (0 : Int32), nI c)]).length = code.length + (cn_c yo yn ya yc yp (yp k 0) code.length).length + 1 := by
    rw [List.length_append, la]; rfl
  obtain ⟨st2, q1, q2, q3⟩ := ih2 ((c, code.length + (cn_c yo yn ya yc yp (yp k 0) code.length).length) :: stk) (cn_k yo yn rk yp (yp k 0) :: kd) ((code ++ cn_c yo yn ya yc yp (yp k 0) code.length) ++ [(8, 0, 0, nI c)]) (min lst (cn_b yo yn ya rk yp (yp k 0))) (by omega) (fun e r z => by
    rw [← (List.cons.inj z).1]
    show cm_str T c < cm_rq w2
    rw [s8]; unfold cm_rq; repeat' split
    all_goals omega)
  generalize hA : cn_c yo yn ya yc yp (yp k 0) code.length = A at *
  have eB : cm_pu yo yn ya yc rk yp (yp k 1) (cn_k yo yn rk yp (yp k 0) :: kd) ((code ++ A) ++ [(8, 0, 0, nI c)]) (min lst (cn_b yo yn ya rk yp (yp k 0))) = (cn_k yo yn rk yp (yp k 1) :: cn_k yo yn rk yp (yp k 0) :: kd, ((code ++ A) ++ [(8, 0, 0, nI c)]) ++ cn_c yo yn ya yc yp (yp k 1) (code.length + A.length + 1), min (min lst (cn_b yo yn ya rk yp (yp k 0))) (cn_b yo yn ya rk yp (yp k 1))) := by
    unfold cm_pu
    rw [lb]
  generalize hBB : cn_c yo yn ya yc yp (yp k 1) (code.length + A.length + 1) = B at *
  have lc : (((code ++ A) ++ [((8 : Int32), (0 : Int32), (0 : Int32), nI c)]) ++ B).length = code.length + A.length + 1 + B.length := by
    rw [List.length_append, lb]
  -- the code behind the colon
  have e1 : ((((code ++ A) ++ [((8 : Int32), (0 : Int32), (0 : Int32), nI c)]) ++ B) ++ [((9 : Int32), (0 : Int32), (0 : Int32), nI m)]) = (code ++ A) ++ ((8 : Int32), (0 : Int32), (0 : Int32), nI c) :: (B ++ [((9 : Int32), (0 : Int32), (0 : Int32), nI m)]) := by
    simp only [List.append_assoc, List.cons_append, List.nil_append]
  have e2 := cm_aim_app (code ++ A) ((8 : Int32), (0 : Int32), (0 : Int32), nI c) (B ++ [((9 : Int32), (0 : Int32), (0 : Int32), nI m)]) (nI (code.length + A.length + 1 + B.length + 1))
  rw [la] at e2
  have a2 : cm_step T tv (fun o => rk (tv o).toNatClampNeg) m st2 = some ((m, code.length + A.length + 1 + B.length) :: stk, (cn_k yo yn rk yp (yp k 1) :: cn_k yo yn rk yp (yp k 0) :: kd, (code ++ A) ++ (8, 0, nI (code.length + A.length + 1 + B.length + 1), nI c) :: (B ++ [(9, 0, 0, nI m)]), min (min lst (cn_b yo yn ya rk yp (yp k 0))) (cn_b yo yn ya rk yp (yp k 1)))) := by
    rw [cm_stp (s' := ((c, code.length + A.length) :: stk, (cn_k yo yn rk yp (yp k 1) :: cn_k yo yn rk yp (yp k 0) :: kd, ((code ++ A) ++ [(8, 0, 0, nI c)]) ++ B, min (min lst (cn_b yo yn ya rk yp (yp k 0))) (cn_b yo yn ya rk yp (yp k 1))))) (by
      rw [cm_sf1 (Or.inr htm), q2 1 hw2, eB]
      exact cm_stop (fun e r z => by rw [← (List.cons.inj z).1]; show cm_str T c < 1; omega))]
    unfold cm_tr
    rw [if_neg (by omega), if_neg (by omega), if_neg (by omega), if_neg (by omega), if_pos htm]
    show (if ¬ c = ca_o T m then none else _) = _
    rw [hom, if_neg (fun z => z rfl), if_neg (by omega)]
    dsimp only
    rw [lc, e1, e2]
  have ld : ((code ++ A) ++ ((8 : Int32), (0 : Int32), nI (code.length + A.length + 1 + B.length + 1), nI c) :: (B ++ [((9 : Int32), (0 : Int32), (0 : Int32), nI m)])).length = code.length + A.length + 1 + B.length + 1 := by
    rw [List.length_append, la, List.length_cons, List.length_append]
    show code.length + A.length + (B.length + 1 + 1) = _
    omega
  obtain ⟨st3, p1, p2, p3⟩ := ih3 ((m, code.length + A.length + 1 + B.length) :: stk) (cn_k yo yn rk yp (yp k 1) :: cn_k yo yn rk yp (yp k 0) :: kd) ((code ++ A) ++ (8, 0, nI (code.length + A.length + 1 + B.length + 1), nI c) :: (B ++ [(9, 0, 0, nI m)])) (min (min lst (cn_b yo yn ya rk yp (yp k 0))) (cn_b yo yn ya rk yp (yp k 1))) (by omega) (fun e r z => by
    rw [← (List.cons.inj z).1]
    show cm_str T m < cm_rq w3
    rw [s9]; unfold cm_rq; repeat' split
    all_goals omega)
  have eC : cm_pu yo yn ya yc rk yp (yp k 2) (cn_k yo yn rk yp (yp k 1) :: cn_k yo yn rk yp (yp k 0) :: kd) ((code ++ A) ++ (8, 0, nI (code.length + A.length + 1 + B.length + 1), nI c) :: (B ++ [(9, 0, 0, nI m)])) (min (min lst (cn_b yo yn ya rk yp (yp k 0))) (cn_b yo yn ya rk yp (yp k 1))) = (cn_k yo yn rk yp (yp k 2) :: cn_k yo yn rk yp (yp k 1) :: cn_k yo yn rk yp (yp k 0) :: kd, ((code ++ A) ++ (8, 0, nI (code.length + A.length + 1 + B.length + 1), nI c) :: (B ++ [(9, 0, 0, nI m)])) ++ cn_c yo yn ya yc yp (yp k 2) (code.length + A.length + 1 + B.length + 1), min (min (min lst (cn_b yo yn ya rk yp (yp k 0))) (cn_b yo yn ya rk yp (yp k 1))) (cn_b yo yn ya rk yp (yp k 2))) := by
    unfold cm_pu
    rw [ld]
  generalize hCC : cn_c yo yn ya yc yp (yp k 2) (code.length + A.length + 1 + B.length + 1) = C at *
  have hnp : cm_pre T m = false := cm_pre_n (by omega) (fun z => absurd z (by omega))
  have kk : cn_k yo yn rk yp k = cn_k yo yn rk yp (yp k 1) := by
    conv => lhs; rw [cn_k, if_pos ho, dif_pos h1]
  have e4 : ((code ++ A) ++ ((8 : Int32), (0 : Int32), nI (code.length + A.length + 1 + B.length + 1), nI c) :: (B ++ [((9 : Int32), (0 : Int32), (0 : Int32), nI m)])) ++ C = ((code ++ A) ++ ((8 : Int32), (0 : Int32), nI (code.length + A.length + 1 + B.length + 1), nI c) :: B) ++ ((9 : Int32), (0 : Int32), (0 : Int32), nI m) :: C := by
    simp only [List.append_assoc, List.cons_append, List.nil_append]
  have le : ((code ++ A) ++ ((8 : Int32), (0 : Int32), nI (code.length + A.length + 1 + B.length + 1), nI c) :: B).length = code.length + A.length + 1 + B.length := by
    rw [List.length_append, la, List.length_cons]; omega
  have e5 := cm_aim_app ((code ++ A) ++ ((8 : Int32), (0 : Int32), nI (code.length + A.length + 1 + B.length + 1), nI c) :: B) ((9 : Int32), (0 : Int32), (0 : Int32), nI m) C (nI (code.length + A.length + 1 + B.length + 1 + C.length))
  rw [le] at e5
  have lf : (((code ++ A) ++ ((8 : Int32), (0 : Int32), nI (code.length + A.length + 1 + B.length + 1), nI c) :: (B ++ [((9 : Int32), (0 : Int32), (0 : Int32), nI m)])) ++ C).length = code.length + A.length + 1 + B.length + 1 + C.length := by
    rw [List.length_append, ld]
  have ap : cm_ap T m (code.length + A.length + 1 + B.length) (cn_k yo yn rk yp (yp k 2) :: cn_k yo yn rk yp (yp k 1) :: cn_k yo yn rk yp (yp k 0) :: kd, ((code ++ A) ++ (8, 0, nI (code.length + A.length + 1 + B.length + 1), nI c) :: (B ++ [(9, 0, 0, nI m)])) ++ C, min (min (min lst (cn_b yo yn ya rk yp (yp k 0))) (cn_b yo yn ya rk yp (yp k 1))) (cn_b yo yn ya rk yp (yp k 2))) = some (cm_pu yo yn ya yc rk yp k kd code lst) := by
    unfold cm_ap cm_pu
    rw [if_neg (by rw [hnp]; decide), if_pos htm, cn_c_if h0 h1 h2 ho, cn_b_3 h0 h1 h2 (by rw [ho]; decide), kk, hom]
    dsimp only
    rw [lf, e4, e5, cm_dem_eq (L := min (min (min lst (cn_b yo yn ya rk yp (yp k 0))) (cn_b yo yn ya rk yp (yp k 1))) (cn_b yo yn ya rk yp (yp k 2))) (by omega)]
    unfold cn_seq cn_s
    rw [hA]
    dsimp only
    rw [hBB, hCC, ha, hyc, nI_clamp (by omega), cn_ok_8 ho]
    have d2 : ∀ (x y : Bool) (L : Nat), L ≤ 100 → cm_dem y c (min L (if x = true then 100 else c)) = min L (if (x && y) = true then 100 else c) := by
      intro x y L hL
      unfold cm_dem
      cases x <;> cases y
      · rw [if_neg (by decide)]; show min (min L c) c = min L c; omega
      · rw [if_pos rfl]; rfl
      · rw [if_neg (by decide)]; show min (min L 100) c = min L c; omega
      · rw [if_pos rfl]; rfl
    rw [d2 _ _ _ (by omega), ← Bool.decide_and]
    refine cm_eqz rfl (by simp only [List.append_assoc, List.cons_append]) ?_
    generalize (if decide (cn_k yo yn rk yp (yp k 0) = 2 ∧ cn_k yo yn rk yp (yp k 1) = cn_k yo yn rk yp (yp k 2)) = true then 100 else c) = X
    omega
  refine ⟨st3, ?_, fun q hq => ?_, fun z => absurd z (by omega)⟩
  · rw [cm_run_2 (m := c) hlc (by omega) r1, cm_run_1 (by omega) a1, cm_run_2 (m := m) hcm (by omega) q1, cm_run_1 (by omega) a2]; exact p1
  · rw [p2 q (by omega), eC]
    exact cm_se_ap (by show q ≤ cm_str T m; omega) ap
theorem cm_main {nn : Nat} (hP : ∀ k i, k < nn → i < gr_ar (yo k) → k < yp k i ∧ yp k i < 40) : ∀ (f : Nat) (B : Nat → Prop) (k w l u : Nat), cg_G T tv yo yn ya yc yp nn f B k w l u → u < 1000 → cm_P T tv yo yn ya yc rk yp k w l u := by
  have glt : ∀ {f : Nat} {B : Nat → Prop} {k w l u : Nat}, cg_G T tv yo yn ya yc yp nn f B k w l u → l < u := by
    intro f B k w l u h
    cases f with
    | zero => exact absurd h id
    | succ f => exact h.2.1
  intro f
  induction f with
  | zero => intro B k w l u h; exact absurd h id
  | succ f ih =>
    intro B k w l u h hu
    obtain ⟨hk, hlu, h⟩ := h
    rcases h with ⟨h1, h2, h3, h4, h5, h6⟩ | ⟨c, h1, h2, h3, h4, h5, h6, h7, h8⟩ | ⟨c, w', h1, h2, h3, h4, h5, h6, h7, h8⟩ | ⟨c, w', x, h1, h2, h3, h4, h5, h6, h7, h8, h9, h10, h11, h12, h13⟩ | ⟨c, m, w1, w2, v, h1, h2, h3, h4, h5, h6, h7, h8, h9, h10, h11, h12, h13, h14, h15, h16, h17, h18, h19⟩ | ⟨w', h1, h2, h3, h4, h5⟩ | ⟨c, w1, w2, h1, h2, h3, h4, h5, h6, h7, h8, h9, h10, h11, h12⟩ | ⟨c, m, w1, w2, w3, h1, h2, h3, h4, h5, h6, h7, h8, h9, h10, h11, h12, h13⟩
    · subst h6
      refine cp_leaf h1 (by omega) ?_ h3 h4 h5
      rcases h2 with z | z | z | z
      · exact Or.inl z
      · exact Or.inr (Or.inl z)
      · exact Or.inr (Or.inr (Or.inl z))
      · exact Or.inr (Or.inr (Or.inr z.1))
    · subst h8
      have g := glt h7
      have har : gr_ar (yo k) = 1 := cm_ar1 (by rcases h2 with z | z <;> rw [h4, z] <;> decide)
      exact cp_post h1 (by omega) (by omega) h2 h3 h4 h5 h6 (hP k 0 hk (by omega)) (ih _ _ _ _ _ h7 (by omega))
    · subst h8
      have g := glt h6
      exact cp_par h1 (by omega) h2 h3 h4 h5 h7 (ih _ _ _ _ _ h6 (by omega))
    · subst h13
      have g := glt h11
      have har : gr_ar (yo k) = 1 := cm_ar1 (by rw [h8]; decide)
      exact cp_call h1 (by omega) (by omega) h2 h3 h4 h5 h8 h9 h10 (hP k 0 hk (by omega)) h12 (ih _ _ _ _ _ h11 (by omega))
    · subst h19
      have g1 := glt h15
      have g2 := glt h17
      have har : gr_ar (yo k) = 2 := cm_ar2 (by
        have z3 : T l = 20 ∨ T l = 21 ∨ T l = 22 := by omega
        rcases z3 with z | z | z <;> rw [h12, z] <;> decide)
      exact cp_qnt h1 (by omega) (by omega) (by omega) h2 h3 h4 h5 h6 h7 h8 h12 h13 h14 (hP k 0 hk (by omega)) (hP k 1 hk (by omega)) h16 h18 (ih _ _ _ _ _ h15 (by omega)) (ih _ _ _ _ _ h17 (by omega))
    · subst h5
      have har : gr_ar (yo k) = 1 := cm_ar1 (by
        rcases h1 with ⟨_, z⟩ | ⟨_, z, _⟩ <;> rw [z] <;> decide)
      exact cp_pre hlu (by omega) h1 h2 (hP k 0 hk (by omega)) h4 (ih _ _ _ _ _ h3 hu)
    · subst h10
      have g1 := glt h8
      have g2 := glt h9
      have har : gr_ar (yo k) = 2 := cm_ar2 (by
        have z3 : T c = 10 ∨ T c = 11 ∨ T c = 13 ∨ T c = 14 ∨ T c = 15 ∨ T c = 16 ∨ T c = 17 ∨ T c = 18 := by omega
        rcases z3 with z | z | z | z | z | z | z | z <;> rw [h6, z] <;> decide)
      by_cases hl : T c = 10 ∨ T c = 11
      · exact cp_log (by omega) (by omega) (by omega) hl h6 h7 (hP k 0 hk (by omega)) (hP k 1 hk (by omega)) h11 h12 (ih _ _ _ _ _ h8 (by omega)) (ih _ _ _ _ _ h9 (by omega))
      · exact cp_bin (by omega) (by omega) (by omega) ⟨by omega, h2⟩ ⟨h4, h5⟩ h6 h7 (hP k 0 hk (by omega)) (hP k 1 hk (by omega)) h11 h12 (ih _ _ _ _ _ h8 (by omega)) (ih _ _ _ _ _ h9 (by omega))
    · subst h13
      have g1 := glt h7
      have g2 := glt h9
      have g3 := glt h11
      have har : gr_ar (yo k) = 3 := by rw [h4]; decide
      exact cp_if (by omega) (by omega) (by omega) (by omega) h1 h2 h3 h4 h5 h6 (hP k 0 hk (by omega)) (hP k 1 hk (by omega)) (hP k 2 hk (by omega)) h8 h10 h12 (ih _ _ _ _ _ h7 (by omega)) (ih _ _ _ _ _ h9 (by omega)) (ih _ _ _ _ _ h11 (by omega))
end
