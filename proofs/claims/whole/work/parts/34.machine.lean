def cm_rq (w : Nat) : Nat := if 7 ≤ w then 8 else if w ≤ 1 then 2 else w
def cm_pu (yo yn ya yc rk : Nat → Int32) (yp : Nat → Nat → Nat) (k : Nat) (kd : List Int32) (code : List cm_I) (lst : Nat) : cm_R :=
  (cn_k yo yn rk yp k :: kd, code ++ cn_c yo yn ya yc yp k code.length, min lst (cn_b yo yn ya rk yp k))
def cm_P (T : Nat → Nat) (tv yo yn ya yc rk : Nat → Int32) (yp : Nat → Nat → Nat) (k w l u : Nat) : Prop :=
  ∀ (stk : List (Nat × Nat)) (kd : List Int32) (code : List cm_I) (lst : Nat), lst ≤ 100 → (∀ e r, stk = e :: r → cm_str T e.1 < cm_rq w) →
    ∃ st', cm_run T tv (fun o => rk (tv o).toNatClampNeg) l (u - l) (stk, (kd, code, lst)) = some st' ∧ (∀ q, q ≤ w → cm_se T q st'.1 st'.2 = cm_se T q stk (cm_pu yo yn ya yc rk yp k kd code lst)) ∧ (w = 8 → st' = (stk, cm_pu yo yn ya yc rk yp k kd code lst))
section
variable {T : Nat → Nat} {tv kc : Nat → Int32} {i : Nat}
theorem cm_eq3 {stk : List (Nat × Nat)} {a a' : List Int32} {b b' : List cm_I} {c c' : Nat} (h1 : a = a') (h2 : b = b') (h3 : c = c') : some (stk, (a, b, c)) = some (stk, (a', b', c')) := by rw [h1, h2, h3]
theorem cm_se8 {stk : List (Nat × Nat)} {z : cm_R} : cm_se T 8 stk z = some (stk, z) := cm_stop (fun e _ _ => by have := cm_str7 (T := T) e.1; omega)
theorem cm_stp {s s' : List (Nat × Nat) × cm_R} (h : cm_se T (cm_sf T i) s.1 s.2 = some s') : cm_step T tv kc i s = cm_tr T tv kc i s' := by
  unfold cm_step; rw [h]
theorem cm_sf8 (h : cm_str T i = 0 ∨ cm_str T i = 7) (h7 : T i ≠ 7) (h9 : T i ≠ 9) (h8 : T i ≠ 8) : cm_sf T i = 8 := by
  unfold cm_sf
  rw [if_neg (by omega), if_neg h8, if_pos h]
theorem cm_sf1 (h : T i = 7 ∨ T i = 9) : cm_sf T i = 1 := if_pos h
theorem cm_sf2 (h : T i = 8) : cm_sf T i = 2 := by unfold cm_sf; rw [if_neg (by omega), if_pos h]
theorem cm_str0 (h : T i ≤ 8 ∨ T i = 19 ∨ 20 ≤ T i) : cm_str T i = 0 := by
  unfold cm_str
  rw [if_neg (by omega), if_neg (by omega), if_neg (by omega), if_neg (by omega), if_neg (by omega), if_neg (by omega), if_neg (by omega), if_neg (by omega)]
theorem cm_pre_n (h12 : T i ≠ 12) (h : T i = 16 → 0 < i ∧ (T (i - 1) ≤ 4 ∨ T (i - 1) = 7 ∨ T (i - 1) = 19)) : cm_pre T i = false := by
  unfold cm_pre
  rw [decide_eq_false h12]
  by_cases t : T i = 16
  · obtain ⟨h1, h2⟩ := h t
    unfold cm_end
    rw [decide_eq_true h2, decide_eq_false (by omega : ¬ i = 0), decide_eq_true t]; rfl
  · rw [decide_eq_false t]; rfl
theorem cm_pre_y (h : T i = 12 ∨ (T i = 16 ∧ (i = 0 ∨ ¬ (T (i - 1) ≤ 4 ∨ T (i - 1) = 7 ∨ T (i - 1) = 19)))) : cm_pre T i = true := by
  unfold cm_pre
  rcases h with h | ⟨h1, h2⟩
  · rw [decide_eq_true h]; rfl
  · rw [decide_eq_true h1]
    rcases h2 with h2 | h2
    · rw [decide_eq_true h2]; cases decide (T i = 12) <;> rfl
    · unfold cm_end
      rw [decide_eq_false h2]
      cases decide (T i = 12) <;> cases decide (i = 0) <;> rfl
theorem cm_str_pre (h : T i = 12 ∨ (T i = 16 ∧ cm_pre T i = true)) : cm_str T i = 7 := by
  unfold cm_str
  rcases h with h | ⟨h1, h2⟩
  · rw [if_neg (by omega), if_neg (by omega), if_neg (by omega), if_pos h]
  · rw [if_neg (by omega), if_neg (by omega), if_neg (by omega), if_neg (by omega), if_neg (by omega), if_neg (by omega), if_pos h1, if_pos h2]
theorem cm_str_op (h : 10 ≤ T i ∧ T i ≤ 18 ∧ T i ≠ 12) (hp : cm_pre T i = false) : cm_str T i = ca_wt (T i) + 1 := by
  have e : T i = 10 ∨ T i = 11 ∨ T i = 13 ∨ T i = 14 ∨ T i = 15 ∨ T i = 16 ∨ T i = 17 ∨ T i = 18 := by omega
  unfold cm_str
  rcases e with e | e | e | e | e | e | e | e <;> rw [e] <;> first | rfl | (rw [hp]; rfl)
theorem cm_str9 (h : T i = 9) : cm_str T i = 1 := if_pos h
theorem cm_dem_eq {ok : Bool} {p L : Nat} (h : L ≤ 100) : cm_dem ok p L = min L (if ok = true then 100 else p) := by
  unfold cm_dem
  by_cases z : ok = true
  · rw [if_pos z, if_pos z]; omega
  · rw [if_neg z, if_neg z]
theorem cm_ar1 {x : Int32} (h : x = 1 ∨ x = 2 ∨ x = 5 ∨ x = 12 ∨ x = 23) : gr_ar x = 1 := by
  rcases h with rfl | rfl | rfl | rfl | rfl <;> decide
theorem cm_ar2 {x : Int32} (h : x = 10 ∨ x = 11 ∨ x = 13 ∨ x = 14 ∨ x = 15 ∨ x = 16 ∨ x = 17 ∨ x = 18 ∨ x = 20 ∨ x = 21 ∨ x = 22) : gr_ar x = 2 := by
  rcases h with rfl | rfl | rfl | rfl | rfl | rfl | rfl | rfl | rfl | rfl | rfl <;> decide
end
section
variable {yo yn ya yc rk : Nat → Int32} {yp : Nat → Nat → Nat} {k : Nat}
theorem cn_ok_un (h : yo k = 1 ∨ yo k = 2 ∨ yo k = 5) : cn_ok yo yn rk yp k = decide (cn_k yo yn rk yp (yp k 0) = 3) := by
  unfold cn_ok
  rw [if_neg (by rcases h with z | z | z <;> rw [z] <;> decide), if_pos h]
theorem cn_ok_12 (h : yo k = 12) : cn_ok yo yn rk yp k = decide (cn_k yo yn rk yp (yp k 0) = 2) := by
  unfold cn_ok
  rw [if_neg (by rw [h]; decide), if_neg (by rw [h]; decide), if_neg (by rw [h]; decide), if_pos h]
theorem cn_ok_23 (h : yo k = 23) : cn_ok yo yn rk yp k = decide (cn_k yo yn rk yp (yp k 0) = 1) := by
  unfold cn_ok
  rw [if_neg (by rw [h]; decide), if_neg (by rw [h]; decide), if_pos h]
theorem cn_ok_qn (h : yo k = 20 ∨ yo k = 21 ∨ yo k = 22) : cn_ok yo yn rk yp k = decide (cn_k yo yn rk yp (yp k 0) = 4 ∧ cn_k yo yn rk yp (yp k 1) = (if yo k = 22 then 1 else 2)) := by
  unfold cn_ok
  rw [if_neg (by rcases h with z | z | z <;> rw [z] <;> decide), if_neg (by rcases h with z | z | z <;> rw [z] <;> decide), if_neg (by rcases h with z | z | z <;> rw [z] <;> decide), if_neg (by rcases h with z | z | z <;> rw [z] <;> decide), if_pos (by rcases h with z | z | z <;> rw [z] <;> decide)]
theorem cn_ok_8 (h : yo k = 8) : cn_ok yo yn rk yp k = decide (cn_k yo yn rk yp (yp k 0) = 2 ∧ cn_k yo yn rk yp (yp k 1) = cn_k yo yn rk yp (yp k 2)) := by
  unfold cn_ok
  rw [if_neg (by rw [h]; decide), if_neg (by rw [h]; decide), if_neg (by rw [h]; decide), if_neg (by rw [h]; decide), if_neg (by rw [h]; decide), if_pos h]
theorem cn_ok_13 (h : yo k = 13) : cn_ok yo yn rk yp k = decide (cn_k yo yn rk yp (yp k 0) = cn_k yo yn rk yp (yp k 1) ∧ ¬ cn_k yo yn rk yp (yp k 0) = 4) := by
  unfold cn_ok
  rw [if_neg (by rw [h]; decide), if_neg (by rw [h]; decide), if_neg (by rw [h]; decide), if_neg (by rw [h]; decide), if_neg (by rw [h]; decide), if_neg (by rw [h]; decide), if_pos h]
theorem cn_ok_lo (h : yo k = 10 ∨ yo k = 11) : cn_ok yo yn rk yp k = decide (cn_k yo yn rk yp (yp k 0) = 2 ∧ cn_k yo yn rk yp (yp k 1) = 2) := by
  unfold cn_ok
  rw [if_neg (by rcases h with z | z <;> rw [z] <;> decide), if_neg (by rcases h with z | z <;> rw [z] <;> decide), if_neg (by rcases h with z | z <;> rw [z] <;> decide), if_neg (by rcases h with z | z <;> rw [z] <;> decide), if_neg (by rcases h with z | z <;> rw [z] <;> decide), if_neg (by rcases h with z | z <;> rw [z] <;> decide), if_neg (by rcases h with z | z <;> rw [z] <;> decide), if_pos h]
theorem cn_ok_ar (h : yo k = 14 ∨ yo k = 15 ∨ yo k = 16 ∨ yo k = 17 ∨ yo k = 18) : cn_ok yo yn rk yp k = decide (cn_k yo yn rk yp (yp k 0) = 1 ∧ cn_k yo yn rk yp (yp k 1) = 1) := by
  unfold cn_ok
  rw [if_neg (by rcases h with z | z | z | z | z <;> rw [z] <;> decide), if_neg (by rcases h with z | z | z | z | z <;> rw [z] <;> decide), if_neg (by rcases h with z | z | z | z | z <;> rw [z] <;> decide), if_neg (by rcases h with z | z | z | z | z <;> rw [z] <;> decide), if_neg (by rcases h with z | z | z | z | z <;> rw [z] <;> decide), if_neg (by rcases h with z | z | z | z | z <;> rw [z] <;> decide), if_neg (by rcases h with z | z | z | z | z <;> rw [z] <;> decide), if_neg (by rcases h with z | z | z | z | z <;> rw [z] <;> decide)]
end
section
variable {T : Nat → Nat} {tv yo yn ya yc rk : Nat → Int32} {yp : Nat → Nat → Nat} {k l u : Nat}
theorem cp_leaf (hu : u = l + 1) (hl : l < 1000) (ht : T l = 0 ∨ T l = 3 ∨ T l = 19 ∨ T l = 4) (ho : yo k = nI (T l)) (hn : yn k = tv l) (ha : ya k = nI l) : cm_P T tv yo yn ya yc rk yp k 8 l u := by
  intro stk kd code lst hlst htop
  have s0 : cm_str T l = 0 := cm_str0 (by omega)
  have hlf : yo k = 0 ∨ yo k = 3 ∨ yo k = 4 ∨ yo k = 19 := by
    rcases ht with z | z | z | z <;> rw [ho, z]
    · exact Or.inl rfl
    · exact Or.inr (Or.inl rfl)
    · exact Or.inr (Or.inr (Or.inr rfl))
    · exact Or.inr (Or.inr (Or.inl rfl))
  have hb : cn_b yo yn ya rk yp k = 100 := by
    rw [cn_b_0 (if_pos hlf)]
    unfold cn_s cn_ok
    rw [if_pos hlf]; rfl
  have hpush : cm_tr T tv (fun o => rk (tv o).toNatClampNeg) l (stk, (kd, code, lst)) = some (stk, cm_pu yo yn ya yc rk yp k kd code lst) := by
    unfold cm_pu
    rw [cn_c_leaf hlf, hb, Nat.min_eq_left hlst, ho, hn, ha]
    unfold cm_tr
    rcases ht with z | z | z | z
    · rw [if_pos z, cn_k, ho, z]; rfl
    · rw [if_neg (by omega), if_pos (Or.inl z), cn_k, ho, z]; rfl
    · rw [if_neg (by omega), if_pos (Or.inr (Or.inr z)), cn_k, ho, z]; rfl
    · rw [if_neg (by omega), if_pos (Or.inr (Or.inl z)), cn_k, ho, z]; rfl
  refine ⟨_, ?_, fun q _ => rfl, fun _ => rfl⟩
  subst hu
  rw [cm_run_1 (Nat.lt_succ_self l) ((cm_stp (by rw [cm_sf8 (Or.inl s0) (by omega) (by omega) (by omega)]; exact cm_se8)).trans hpush)]
  exact cm_run_0
theorem cp_post {c : Nat} (hu : u = c + 1) (hlc : l ≤ c) (hc : c < 1000) (ht : T c = 1 ∨ T c = 2) (hx : ∃ x, x < 6 ∧ tv c = nI x) (ho : yo k = nI (T c)) (hn : yn k = tv c) (ha : ya k = nI c) (h0 : k < yp k 0 ∧ yp k 0 < 40) (ih : cm_P T tv yo yn ya yc rk yp (yp k 0) 8 l c) : cm_P T tv yo yn ya yc rk yp k 8 l u := by
  intro stk kd code lst hlst htop
  obtain ⟨st, r1, r2, r3⟩ := ih stk kd code lst hlst htop
  rw [r3 rfl] at r1
  have s0 : cm_str T c = 0 := cm_str0 (by omega)
  have hop : yo k = 1 ∨ yo k = 2 := by
    rcases ht with z | z <;> rw [ho, z]
    · exact Or.inl rfl
    · exact Or.inr rfl
  obtain ⟨x, hx6, ex⟩ := hx
  have kk : cn_k yo yn rk yp k = cm_kp (tv c) := by
    rw [cn_k, if_neg (by rcases hop with z | z <;> rw [z] <;> decide), if_neg (by rcases hop with z | z <;> rw [z] <;> decide), if_neg (by rcases hop with z | z <;> rw [z] <;> decide), if_pos hop, hn, ex]
    unfold cm_kp
    by_cases z : 3 ≤ x
    · have p1 : (2 : Int32) < nI x := nI_lt (a := 2) (by omega) (by omega)
      have p2 : (3 : Int32) ≤ nI x := nI_le (a := 3) z (by omega)
      rw [if_pos p1, if_pos p2]
    · have p1 : ¬ (2 : Int32) < nI x := nI_nlt (a := 2) (by omega) (by omega)
      have p2 : ¬ (3 : Int32) ≤ nI x := nI_ge (b := 3) (by omega) (by decide)
      rw [if_neg p1, if_neg p2]
  have hb : cn_b yo yn ya rk yp k = min (if decide (cn_k yo yn rk yp (yp k 0) = 3) = true then 100 else c) (min (cn_b yo yn ya rk yp (yp k 0)) 100) := by
    rw [cn_b_1 h0 (cm_ar1 (by rcases hop with z | z <;> rw [z] <;> decide))]
    unfold cn_s
    rw [cn_ok_un (by rcases hop with z | z <;> rw [z] <;> decide), ha, nI_clamp (by omega)]
  have hstep : cm_tr T tv (fun o => rk (tv o).toNatClampNeg) c (stk, cm_pu yo yn ya yc rk yp (yp k 0) kd code lst) = some (stk, cm_pu yo yn ya yc rk yp k kd code lst) := by
    unfold cm_pu
    rw [cn_c_un h0 (by rcases hop with z | z <;> rw [z] <;> decide), hb, kk, ho, hn, ha]
    unfold cm_tr
    rw [if_neg (by omega), if_neg (by omega), if_pos ht]
    show some (stk, (cm_kp (tv c) :: kd, (code ++ _) ++ [(nI (T c), tv c, 0, nI c)], cm_dem _ c (min lst (cn_b yo yn ya rk yp (yp k 0))))) = _
    rw [cm_dem_eq (by omega), List.append_assoc]
    refine congrArg some (congrArg (fun y => (stk, (cm_kp (tv c) :: kd, _, y))) ?_)
    generalize (if decide (cn_k yo yn rk yp (yp k 0) = 3) = true then 100 else c) = A
    omega
  refine ⟨_, ?_, fun q _ => rfl, fun _ => rfl⟩
  subst hu
  rw [cm_run_2 hlc (Nat.le_succ c) r1, cm_run_1 (Nat.lt_succ_self c) ((cm_stp (by rw [cm_sf8 (Or.inl s0) (by omega) (by omega) (by omega)]; exact cm_se8)).trans hstep)]
  exact cm_run_0
theorem cp_par {c w' : Nat} (hu : u = c + 1) (hlc : l + 1 ≤ c) (ht : T l = 6) (htc : T c = 7) (hoc : ca_o T c = l) (hprev : l = 0 ∨ ¬ (T (l - 1) = 5 ∨ 20 ≤ T (l - 1))) (hw : 1 ≤ w') (ih : cm_P T tv yo yn ya yc rk yp k w' (l + 1) c) : cm_P T tv yo yn ya yc rk yp k 8 l u := by
  intro stk kd code lst hlst htop
  have s0 : cm_str T l = 0 := cm_str0 (by omega)
  obtain ⟨st, r1, r2, r3⟩ := ih ((l, 0) :: stk) kd code lst hlst (fun e r z => by
    rw [← (List.cons.inj z).1]
    show cm_str T l < cm_rq w'
    rw [s0]; unfold cm_rq; repeat' split
    all_goals omega)
  have a1 : cm_step T tv (fun o => rk (tv o).toNatClampNeg) l (stk, (kd, code, lst)) = some ((l, 0) :: stk, (kd, code, lst)) := by
    rw [cm_stp (s' := (stk, (kd, code, lst))) (by rw [cm_sf8 (Or.inl s0) (by omega) (by omega) (by omega)]; exact cm_se8)]
    unfold cm_tr
    rw [if_neg (by omega), if_neg (by omega), if_neg (by omega), if_pos ht, if_neg (by omega)]
  have a2 : cm_step T tv (fun o => rk (tv o).toNatClampNeg) c st = some (stk, cm_pu yo yn ya yc rk yp k kd code lst) := by
    rw [cm_stp (s' := ((l, 0) :: stk, cm_pu yo yn ya yc rk yp k kd code lst)) (by
      rw [cm_sf1 (Or.inl htc), r2 1 hw]
      exact cm_stop (fun e r z => by rw [← (List.cons.inj z).1]; show cm_str T l < 1; omega))]
    unfold cm_tr
    rw [if_neg (by omega), if_neg (by omega), if_neg (by omega), if_neg (by omega), if_neg (by omega), if_pos htc]
    show (if ¬ l = ca_o T c then none else _) = _
    rw [hoc, if_neg (fun z => z rfl), if_neg (by omega), if_neg (by omega)]
  refine ⟨_, ?_, fun q _ => rfl, fun _ => rfl⟩
  subst hu
  rw [cm_run_1 (by omega) a1, cm_run_2 (m := c) hlc (by omega) r1, cm_run_1 (Nat.lt_succ_self c) a2]
  exact cm_run_0
theorem cp_call {c w' : Nat} (hu : u = c + 1) (hlc : l + 2 ≤ c) (hl : l < 1000) (ht : T l = 5) (ht1 : T (l + 1) = 6) (htc : T c = 7) (hoc : ca_o T c = l) (ho : yo k = 5) (hn : yn k = tv l) (ha : ya k = nI l) (h0 : k < yp k 0 ∧ yp k 0 < 40) (hw : 1 ≤ w') (ih : cm_P T tv yo yn ya yc rk yp (yp k 0) w' (l + 2) c) : cm_P T tv yo yn ya yc rk yp k 8 l u := by
  intro stk kd code lst hlst htop
  have s0 : cm_str T l = 0 := cm_str0 (by omega)
  have s1 : cm_str T (l + 1) = 0 := cm_str0 (by omega)
  obtain ⟨st, r1, r2, r3⟩ := ih ((l, 0) :: stk) kd code lst hlst (fun e r z => by
    rw [← (List.cons.inj z).1]
    show cm_str T l < cm_rq w'
    rw [s0]; unfold cm_rq; repeat' split
    all_goals omega)
  have a1 : cm_step T tv (fun o => rk (tv o).toNatClampNeg) l (stk, (kd, code, lst)) = some ((l, 0) :: stk, (kd, code, lst)) := by
    rw [cm_stp (s' := (stk, (kd, code, lst))) (by rw [cm_sf8 (Or.inl s0) (by omega) (by omega) (by omega)]; exact cm_se8)]
    unfold cm_tr
    rw [if_neg (by omega), if_neg (by omega), if_neg (by omega), if_neg (by omega), if_neg (by omega), if_neg (by omega), if_neg (by omega)]
  have a3 : cm_step T tv (fun o => rk (tv o).toNatClampNeg) (l + 1) ((l, 0) :: stk, (kd, code, lst)) = some ((l, 0) :: stk, (kd, code, lst)) := by
    rw [cm_stp (s' := ((l, 0) :: stk, (kd, code, lst))) (by rw [cm_sf8 (Or.inl s1) (by omega) (by omega) (by omega)]; exact cm_se8)]
    unfold cm_tr
    rw [if_neg (by omega), if_neg (by omega), if_neg (by omega), if_pos ht1, if_pos (by rw [Nat.add_sub_cancel]; omega)]
  have kk : cn_k yo yn rk yp k = rk (tv l).toNatClampNeg := by rw [cn_k, if_neg (by rw [ho]; decide), if_pos ho, hn]
  have hb : cn_b yo yn ya rk yp k = min (if decide (cn_k yo yn rk yp (yp k 0) = 3) = true then 100 else l) (min (cn_b yo yn ya rk yp (yp k 0)) 100) := by
    rw [cn_b_1 h0 (cm_ar1 (by rw [ho]; decide))]
    unfold cn_s
    rw [cn_ok_un (by rw [ho]; decide), ha, nI_clamp (by omega)]
  have a2 : cm_step T tv (fun o => rk (tv o).toNatClampNeg) c st = some (stk, cm_pu yo yn ya yc rk yp k kd code lst) := by
    rw [cm_stp (s' := ((l, 0) :: stk, cm_pu yo yn ya yc rk yp (yp k 0) kd code lst)) (by
      rw [cm_sf1 (Or.inl htc), r2 1 hw]
      exact cm_stop (fun e r z => by rw [← (List.cons.inj z).1]; show cm_str T l < 1; omega))]
    unfold cm_tr
    rw [if_neg (by omega), if_neg (by omega), if_neg (by omega), if_neg (by omega), if_neg (by omega), if_pos htc]
    show (if ¬ l = ca_o T c then none else _) = _
    rw [hoc, if_neg (fun z => z rfl), if_pos ht]
    unfold cm_pu
    rw [cn_c_un h0 (by rw [ho]; decide), hb, kk, ho, hn, ha]
    show some (stk, (rk (tv l).toNatClampNeg :: kd, (code ++ _) ++ [(5, tv l, 0, nI l)], cm_dem _ l (min lst (cn_b yo yn ya rk yp (yp k 0))))) = _
    rw [cm_dem_eq (by omega), List.append_assoc]
    refine congrArg some (congrArg (fun y => (stk, (rk (tv l).toNatClampNeg :: kd, _, y))) ?_)
    generalize (if decide (cn_k yo yn rk yp (yp k 0) = 3) = true then 100 else l) = A
    omega
  refine ⟨_, ?_, fun q _ => rfl, fun _ => rfl⟩
  subst hu
  rw [cm_run_1 (by omega) a1, cm_run_1 (by omega) a3, cm_run_2 (m := c) hlc (by omega) r1, cm_run_1 (Nat.lt_succ_self c) a2]
  exact cm_run_0
theorem cp_qnt {c m w1 w2 : Nat} (hu : u = c + 1) (hlm : l + 2 ≤ m) (hmc : m + 1 ≤ c) (hl : l < 1000) (ht : 20 ≤ T l) (ht23 : T l < 23) (ht1 : T (l + 1) = 6) (htm : T m = 9) (hom : ca_o T m = l) (htc : T c = 7) (hoc : ca_o T c = l) (ho : yo k = nI (T l)) (hn : yn k = tv l) (ha : ya k = nI l) (h0 : k < yp k 0 ∧ yp k 0 < 40) (h1 : k < yp k 1 ∧ yp k 1 < 40) (hw1 : 1 ≤ w1) (hw2 : 1 ≤ w2) (ih1 : cm_P T tv yo yn ya yc rk yp (yp k 0) w1 (l + 2) m) (ih2 : cm_P T tv yo yn ya yc rk yp (yp k 1) w2 (m + 1) c) : cm_P T tv yo yn ya yc rk yp k 8 l u := by
  intro stk kd code lst hlst htop
  have s0 : cm_str T l = 0 := cm_str0 (by omega)
  have s1 : cm_str T (l + 1) = 0 := cm_str0 (by omega)
  have rqp : ∀ w, 0 < cm_rq w := by
    intro w; unfold cm_rq; repeat' split
    all_goals omega
  have hop : yo k = 20 ∨ yo k = 21 ∨ yo k = 22 := by
    have z3 : T l = 20 ∨ T l = 21 ∨ T l = 22 := by omega
    rcases z3 with z | z | z <;> rw [ho, z]
    · exact Or.inl rfl
    · exact Or.inr (Or.inl rfl)
    · exact Or.inr (Or.inr rfl)
  have h22 : yo k = 22 ↔ T l = 22 := by
    rw [ho]; exact nI_eq (b := 22) (by omega) (by decide)
  obtain ⟨st, r1, r2, r3⟩ := ih1 ((l, 0) :: stk) kd code lst hlst (fun e r z => by
    rw [← (List.cons.inj z).1]
    show cm_str T l < cm_rq w1
    rw [s0]; exact rqp w1)
  have a1 : cm_step T tv (fun o => rk (tv o).toNatClampNeg) l (stk, (kd, code, lst)) = some ((l, 0) :: stk, (kd, code, lst)) := by
    rw [cm_stp (s' := (stk, (kd, code, lst))) (by rw [cm_sf8 (Or.inl s0) (by omega) (by omega) (by omega)]; exact cm_se8)]
    unfold cm_tr
    rw [if_neg (by omega), if_neg (by omega), if_neg (by omega), if_neg (by omega), if_neg (by omega), if_neg (by omega), if_neg (by omega)]
  have a3 : cm_step T tv (fun o => rk (tv o).toNatClampNeg) (l + 1) ((l, 0) :: stk, (kd, code, lst)) = some ((l, 0) :: stk, (kd, code, lst)) := by
    rw [cm_stp (s' := ((l, 0) :: stk, (kd, code, lst))) (by rw [cm_sf8 (Or.inl s1) (by omega) (by omega) (by omega)]; exact cm_se8)]
    unfold cm_tr
    rw [if_neg (by omega), if_neg (by omega), if_neg (by omega), if_pos ht1, if_pos (by rw [Nat.add_sub_cancel]; omega)]
  have la : (code ++ cn_c yo yn ya yc yp (yp k 0) code.length).length = code.length + (cn_c yo yn ya yc yp (yp k 0) code.length).length := List.length_append
  have a4 : cm_step T tv (fun o => rk (tv o).toNatClampNeg) m st = some ((l, code.length + (cn_c yo yn ya yc yp (yp k 0) code.length).length) :: stk, (cn_k yo yn rk yp (yp k 0) :: kd, (code ++ cn_c yo yn ya yc yp (yp k 0) code.length) ++ [(nI (T l), tv l, 0, nI l)], min lst (cn_b yo yn ya rk yp (yp k 0)))) := by
    rw [cm_stp (s' := ((l, 0) :: stk, cm_pu yo yn ya yc rk yp (yp k 0) kd code lst)) (by
      rw [cm_sf1 (Or.inr htm), r2 1 hw1]
      exact cm_stop (fun e r z => by rw [← (List.cons.inj z).1]; show cm_str T l < 1; omega))]
    unfold cm_tr
    rw [if_neg (by omega), if_neg (by omega), if_neg (by omega), if_neg (by omega), if_pos htm]
    show (if ¬ l = ca_o T m then none else _) = _
    rw [hom, if_neg (fun z => z rfl), if_pos ht]
    unfold cm_pu
    dsimp only
    rw [la]
  obtain ⟨st2, q1, q2, q3⟩ := ih2 ((l, code.length + (cn_c yo yn ya yc yp (yp k 0) code.length).length) :: stk) (cn_k yo yn rk yp (yp k 0) :: kd) ((code ++ cn_c yo yn ya yc yp (yp k 0) code.length) ++ [(nI (T l), tv l, 0, nI l)]) (min lst (cn_b yo yn ya rk yp (yp k 0))) (by omega) (fun e r z => by
    rw [← (List.cons.inj z).1]
    show cm_str T l < cm_rq w2
    rw [s0]; exact rqp w2)
  have lb : ((code ++ cn_c yo yn ya yc yp (yp k 0) code.length) ++ [(nI (T l), tv l, 0, nI l)]).length = code.length + (cn_c yo yn ya yc yp (yp k 0) code.length).length + 1 := by
    rw [List.length_append, la]; rfl
  have kk : cn_k yo yn rk yp k = (if T l = 22 then 1 else 2) := by
    rw [cn_k, if_neg (by rcases hop with z | z | z <;> rw [z] <;> decide), if_neg (by rcases hop with z | z | z <;> rw [z] <;> decide), if_neg (by rcases hop with z | z | z <;> rw [z] <;> decide), if_neg (by rcases hop with z | z | z <;> rw [z] <;> decide)]
    by_cases z : T l = 22
    · rw [if_pos z, if_neg (by rw [h22.2 z]; decide)]
    · have hop2 : yo k = 20 ∨ yo k = 21 := by
        rcases hop with y | y | y
        · exact Or.inl y
        · exact Or.inr y
        · exact absurd (h22.1 y) z
      rw [if_neg z, if_pos (Or.inr hop2)]
  have hb : cn_b yo yn ya rk yp k = min (if decide (cn_k yo yn rk yp (yp k 0) = 4 ∧ cn_k yo yn rk yp (yp k 1) = (if T l = 22 then 1 else 2)) = true then 100 else l) (min (cn_b yo yn ya rk yp (yp k 0)) (min (cn_b yo yn ya rk yp (yp k 1)) 100)) := by
    rw [cn_b_2 h0 h1 (cm_ar2 (by rcases hop with z | z | z <;> rw [z] <;> decide))]
    unfold cn_s
    rw [cn_ok_qn hop, ha, nI_clamp (by omega)]
    by_cases z : T l = 22
    · rw [if_pos (h22.2 z), if_pos z]
    · rw [if_neg (fun y => z (h22.1 y)), if_neg z]
  have a2 : cm_step T tv (fun o => rk (tv o).toNatClampNeg) c st2 = some (stk, cm_pu yo yn ya yc rk yp k kd code lst) := by
    rw [cm_stp (s' := ((l, code.length + (cn_c yo yn ya yc yp (yp k 0) code.length).length) :: stk, cm_pu yo yn ya yc rk yp (yp k 1) (cn_k yo yn rk yp (yp k 0) :: kd) ((code ++ cn_c yo yn ya yc yp (yp k 0) code.length) ++ [(nI (T l), tv l, 0, nI l)]) (min lst (cn_b yo yn ya rk yp (yp k 0))))) (by
      rw [cm_sf1 (Or.inl htc), q2 1 hw2]
      exact cm_stop (fun e r z => by rw [← (List.cons.inj z).1]; show cm_str T l < 1; omega))]
    unfold cm_tr
    rw [if_neg (by omega), if_neg (by omega), if_neg (by omega), if_neg (by omega), if_neg (by omega), if_pos htc]
    show (if ¬ l = ca_o T c then none else _) = _
    rw [hoc, if_neg (fun z => z rfl), if_neg (by omega), if_pos ht]
    unfold cm_pu
    rw [cn_c_qn h0 h1 hop, hb, kk, lb, ho, hn, ha]
    dsimp only
    rw [cm_dem_eq (by omega)]
    unfold cn_seq
    have e1 : ((code ++ cn_c yo yn ya yc yp (yp k 0) code.length) ++ [(nI (T l), tv l, 0, nI l)]) ++ cn_c yo yn ya yc yp (yp k 1) (code.length + (cn_c yo yn ya yc yp (yp k 0) code.length).length + 1) ++ [(24, nI (code.length + (cn_c yo yn ya yc yp (yp k 0) code.length).length), 0, nI l)] = (code ++ cn_c yo yn ya yc yp (yp k 0) code.length) ++ (nI (T l), tv l, 0, nI l) :: (cn_c yo yn ya yc yp (yp k 1) (code.length + (cn_c yo yn ya yc yp (yp k 0) code.length).length + 1) ++ [(24, nI (code.length + (cn_c yo yn ya yc yp (yp k 0) code.length).length), 0, nI l)]) := by
      simp only [List.append_assoc, List.cons_append, List.nil_append]
    have e2 := cm_aim_app (code ++ cn_c yo yn ya yc yp (yp k 0) code.length) (nI (T l), tv l, 0, nI l) (cn_c yo yn ya yc yp (yp k 1) (code.length + (cn_c yo yn ya yc yp (yp k 0) code.length).length + 1) ++ [(24, nI (code.length + (cn_c yo yn ya yc yp (yp k 0) code.length).length), 0, nI l)])
    rw [la] at e2
    rw [e1, e2, List.length_append, lb, List.append_assoc]
    refine cm_eq3 rfl rfl ?_
    generalize (if decide (cn_k yo yn rk yp (yp k 0) = 4 ∧ cn_k yo yn rk yp (yp k 1) = (if T l = 22 then 1 else 2)) = true then 100 else l) = A
    omega
  refine ⟨_, ?_, fun q _ => rfl, fun _ => rfl⟩
  subst hu
  rw [cm_run_1 (by omega) a1, cm_run_1 (by omega) a3, cm_run_2 (m := m) hlm (by omega) r1, cm_run_1 (by omega) a4, cm_run_2 (m := c) hmc (by omega) q1, cm_run_1 (Nat.lt_succ_self c) a2]
  exact cm_run_0
end
