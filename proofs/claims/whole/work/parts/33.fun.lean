abbrev cm_I : Type := Int32 × Int32 × Int32 × Int32
/-- the kind of a node -/
def cn_k (yo yn rk : Nat → Int32) (yp : Nat → Nat → Nat) (k : Nat) : Int32 :=
  if yo k = 8 then (if h : k < yp k 1 ∧ yp k 1 < 40 then cn_k yo yn rk yp (yp k 1) else 0)
  else if yo k = 5 then rk (yn k).toNatClampNeg
  else if yo k = 3 ∨ yo k = 4 ∨ yo k = 19 then 3
  else if yo k = 1 ∨ yo k = 2 then (if 2 < yn k then (if yn k = 3 then 3 else 4) else 1)
  else if (10 ≤ yo k ∧ yo k ≤ 14) ∨ yo k = 20 ∨ yo k = 21 then 2
  else 1
termination_by 40 - k
decreasing_by omega
/-- the demand of a node on its children -/
def cn_ok (yo yn rk : Nat → Int32) (yp : Nat → Nat → Nat) (k : Nat) : Bool :=
  if yo k = 0 ∨ yo k = 3 ∨ yo k = 4 ∨ yo k = 19 then true
  else if yo k = 1 ∨ yo k = 2 ∨ yo k = 5 then decide (cn_k yo yn rk yp (yp k 0) = 3)
  else if yo k = 23 then decide (cn_k yo yn rk yp (yp k 0) = 1)
  else if yo k = 12 then decide (cn_k yo yn rk yp (yp k 0) = 2)
  else if 20 ≤ yo k then decide (cn_k yo yn rk yp (yp k 0) = 4 ∧ cn_k yo yn rk yp (yp k 1) = (if yo k = 22 then 1 else 2))
  else if yo k = 8 then decide (cn_k yo yn rk yp (yp k 0) = 2 ∧ cn_k yo yn rk yp (yp k 1) = cn_k yo yn rk yp (yp k 2))
  else if yo k = 13 then decide (cn_k yo yn rk yp (yp k 0) = cn_k yo yn rk yp (yp k 1) ∧ ¬ cn_k yo yn rk yp (yp k 0) = 4)
  else if yo k = 10 ∨ yo k = 11 then decide (cn_k yo yn rk yp (yp k 0) = 2 ∧ cn_k yo yn rk yp (yp k 1) = 2)
  else decide (cn_k yo yn rk yp (yp k 0) = 1 ∧ cn_k yo yn rk yp (yp k 1) = 1)
def cn_s (yo yn ya rk : Nat → Int32) (yp : Nat → Nat → Nat) (k : Nat) : Nat := if cn_ok yo yn rk yp k = true then 100 else (ya k).toNatClampNeg
/-- the least place below node k whose demand isn't met -/
def cn_b (yo yn ya rk : Nat → Int32) (yp : Nat → Nat → Nat) (k : Nat) : Nat :=
  min (cn_s yo yn ya rk yp k) (min (if h : 0 < gr_ar (yo k) ∧ k < yp k 0 ∧ yp k 0 < 40 then cn_b yo yn ya rk yp (yp k 0) else 100) (min (if h : 1 < gr_ar (yo k) ∧ k < yp k 1 ∧ yp k 1 < 40 then cn_b yo yn ya rk yp (yp k 1) else 100) (if h : 2 < gr_ar (yo k) ∧ k < yp k 2 ∧ yp k 2 < 40 then cn_b yo yn ya rk yp (yp k 2) else 100)))
termination_by 40 - k
decreasing_by all_goals omega
/-- a list with a second one behind it, which knows where it begins -/
def cn_seq (A : List cm_I) (a : Nat) (B : Nat → List cm_I) : List cm_I := A ++ B (a + A.length)
/-- the instructions of node k, from a on -/
def cn_c (yo yn ya yc : Nat → Int32) (yp : Nat → Nat → Nat) (k a : Nat) : List cm_I :=
  if yo k = 0 ∨ yo k = 3 ∨ yo k = 4 ∨ yo k = 19 then [(yo k, yn k, 0, ya k)]
  else if h0 : k < yp k 0 ∧ yp k 0 < 40 then
    (if yo k = 1 ∨ yo k = 2 ∨ yo k = 5 then cn_c yo yn ya yc yp (yp k 0) a ++ [(yo k, yn k, 0, ya k)]
    else if yo k = 12 ∨ yo k = 23 then cn_c yo yn ya yc yp (yp k 0) a ++ [(yo k, 0, 0, ya k)]
    else if h1 : k < yp k 1 ∧ yp k 1 < 40 then
      (if yo k = 8 then
        (if h2 : k < yp k 2 ∧ yp k 2 < 40 then
          cn_seq (cn_c yo yn ya yc yp (yp k 0) a) a (fun m => (8, 0, nI (m + 1 + (cn_c yo yn ya yc yp (yp k 1) (m + 1)).length + 1), ya k) :: cn_seq (cn_c yo yn ya yc yp (yp k 1) (m + 1)) (m + 1) (fun m2 => (9, 0, nI (m2 + 1 + (cn_c yo yn ya yc yp (yp k 2) (m2 + 1)).length), yc k) :: cn_c yo yn ya yc yp (yp k 2) (m2 + 1)))
        else [])
      else if yo k = 10 ∨ yo k = 11 then
        cn_seq (cn_c yo yn ya yc yp (yp k 0) a) a (fun m => (yo k, 0, nI (m + 1 + (cn_c yo yn ya yc yp (yp k 1) (m + 1)).length), ya k) :: cn_c yo yn ya yc yp (yp k 1) (m + 1))
      else if 20 ≤ yo k then
        cn_seq (cn_c yo yn ya yc yp (yp k 0) a) a (fun m => (yo k, yn k, nI (m + 1 + (cn_c yo yn ya yc yp (yp k 1) (m + 1)).length + 1), ya k) :: (cn_c yo yn ya yc yp (yp k 1) (m + 1) ++ [(24, nI m, 0, ya k)]))
      else cn_seq (cn_c yo yn ya yc yp (yp k 0) a) a (fun m => cn_c yo yn ya yc yp (yp k 1) m ++ [(yo k, 0, 0, ya k)]))
    else [])
  else []
termination_by 40 - k
decreasing_by all_goals omega
section
variable {yo yn ya yc rk : Nat → Int32} {yp : Nat → Nat → Nat} {k : Nat}
theorem cn_c_leaf {a : Nat} (h : yo k = 0 ∨ yo k = 3 ∨ yo k = 4 ∨ yo k = 19) : cn_c yo yn ya yc yp k a = [(yo k, yn k, 0, ya k)] := by
  rw [cn_c, if_pos h]
theorem cn_c_un {a : Nat} (h0 : k < yp k 0 ∧ yp k 0 < 40) (h : yo k = 1 ∨ yo k = 2 ∨ yo k = 5) : cn_c yo yn ya yc yp k a = cn_c yo yn ya yc yp (yp k 0) a ++ [(yo k, yn k, 0, ya k)] := by
  rw [cn_c, if_neg (by rcases h with z | z | z <;> rw [z] <;> decide), dif_pos h0, if_pos h]
theorem cn_c_si {a : Nat} (h0 : k < yp k 0 ∧ yp k 0 < 40) (h : yo k = 12 ∨ yo k = 23) : cn_c yo yn ya yc yp k a = cn_c yo yn ya yc yp (yp k 0) a ++ [(yo k, 0, 0, ya k)] := by
  rw [cn_c, if_neg (by rcases h with z | z <;> rw [z] <;> decide), dif_pos h0, if_neg (by rcases h with z | z <;> rw [z] <;> decide), if_pos h]
theorem cn_c_if {a : Nat} (h0 : k < yp k 0 ∧ yp k 0 < 40) (h1 : k < yp k 1 ∧ yp k 1 < 40) (h2 : k < yp k 2 ∧ yp k 2 < 40) (h : yo k = 8) : cn_c yo yn ya yc yp k a = cn_seq (cn_c yo yn ya yc yp (yp k 0) a) a (fun m => (8, 0, nI (m + 1 + (cn_c yo yn ya yc yp (yp k 1) (m + 1)).length + 1), ya k) :: cn_seq (cn_c yo yn ya yc yp (yp k 1) (m + 1)) (m + 1) (fun m2 => (9, 0, nI (m2 + 1 + (cn_c yo yn ya yc yp (yp k 2) (m2 + 1)).length), yc k) :: cn_c yo yn ya yc yp (yp k 2) (m2 + 1))) := by
  rw [cn_c, if_neg (by rw [h]; decide), dif_pos h0, if_neg (by rw [h]; decide), if_neg (by rw [h]; decide), dif_pos h1, if_pos h, dif_pos h2]
theorem cn_c_lo {a : Nat} (h0 : k < yp k 0 ∧ yp k 0 < 40) (h1 : k < yp k 1 ∧ yp k 1 < 40) (h : yo k = 10 ∨ yo k = 11) : cn_c yo yn ya yc yp k a = cn_seq (cn_c yo yn ya yc yp (yp k 0) a) a (fun m => (yo k, 0, nI (m + 1 + (cn_c yo yn ya yc yp (yp k 1) (m + 1)).length), ya k) :: cn_c yo yn ya yc yp (yp k 1) (m + 1)) := by
  rw [cn_c, if_neg (by rcases h with z | z <;> rw [z] <;> decide), dif_pos h0, if_neg (by rcases h with z | z <;> rw [z] <;> decide), if_neg (by rcases h with z | z <;> rw [z] <;> decide), dif_pos h1, if_neg (by rcases h with z | z <;> rw [z] <;> decide), if_pos h]
theorem cn_c_qn {a : Nat} (h0 : k < yp k 0 ∧ yp k 0 < 40) (h1 : k < yp k 1 ∧ yp k 1 < 40) (h : yo k = 20 ∨ yo k = 21 ∨ yo k = 22) : cn_c yo yn ya yc yp k a = cn_seq (cn_c yo yn ya yc yp (yp k 0) a) a (fun m => (yo k, yn k, nI (m + 1 + (cn_c yo yn ya yc yp (yp k 1) (m + 1)).length + 1), ya k) :: (cn_c yo yn ya yc yp (yp k 1) (m + 1) ++ [(24, nI m, 0, ya k)])) := by
  rw [cn_c, if_neg (by rcases h with z | z | z <;> rw [z] <;> decide), dif_pos h0, if_neg (by rcases h with z | z | z <;> rw [z] <;> decide), if_neg (by rcases h with z | z | z <;> rw [z] <;> decide), dif_pos h1, if_neg (by rcases h with z | z | z <;> rw [z] <;> decide), if_neg (by rcases h with z | z | z <;> rw [z] <;> decide), if_pos (by rcases h with z | z | z <;> rw [z] <;> decide)]
theorem cn_c_bi {a : Nat} (h0 : k < yp k 0 ∧ yp k 0 < 40) (h1 : k < yp k 1 ∧ yp k 1 < 40) (h : yo k = 13 ∨ yo k = 14 ∨ yo k = 15 ∨ yo k = 16 ∨ yo k = 17 ∨ yo k = 18) : cn_c yo yn ya yc yp k a = cn_seq (cn_c yo yn ya yc yp (yp k 0) a) a (fun m => cn_c yo yn ya yc yp (yp k 1) m ++ [(yo k, 0, 0, ya k)]) := by
  rw [cn_c, if_neg (by rcases h with z | z | z | z | z | z <;> rw [z] <;> decide), dif_pos h0, if_neg (by rcases h with z | z | z | z | z | z <;> rw [z] <;> decide), if_neg (by rcases h with z | z | z | z | z | z <;> rw [z] <;> decide), dif_pos h1, if_neg (by rcases h with z | z | z | z | z | z <;> rw [z] <;> decide), if_neg (by rcases h with z | z | z | z | z | z <;> rw [z] <;> decide), if_neg (by rcases h with z | z | z | z | z | z <;> rw [z] <;> decide)]
theorem cn_b_0 (h : gr_ar (yo k) = 0) : cn_b yo yn ya rk yp k = min (cn_s yo yn ya rk yp k) 100 := by
  rw [cn_b, dif_neg (by omega), dif_neg (by omega), dif_neg (by omega)]; rfl
theorem cn_b_1 (h0 : k < yp k 0 ∧ yp k 0 < 40) (h : gr_ar (yo k) = 1) : cn_b yo yn ya rk yp k = min (cn_s yo yn ya rk yp k) (min (cn_b yo yn ya rk yp (yp k 0)) 100) := by
  rw [cn_b, dif_pos ⟨by omega, h0⟩, dif_neg (by omega), dif_neg (by omega)]; rfl
theorem cn_b_2 (h0 : k < yp k 0 ∧ yp k 0 < 40) (h1 : k < yp k 1 ∧ yp k 1 < 40) (h : gr_ar (yo k) = 2) : cn_b yo yn ya rk yp k = min (cn_s yo yn ya rk yp k) (min (cn_b yo yn ya rk yp (yp k 0)) (min (cn_b yo yn ya rk yp (yp k 1)) 100)) := by
  rw [cn_b, dif_pos ⟨by omega, h0⟩, dif_pos ⟨by omega, h1⟩, dif_neg (by omega)]
theorem cn_b_3 (h0 : k < yp k 0 ∧ yp k 0 < 40) (h1 : k < yp k 1 ∧ yp k 1 < 40) (h2 : k < yp k 2 ∧ yp k 2 < 40) (h : gr_ar (yo k) = 3) : cn_b yo yn ya rk yp k = min (cn_s yo yn ya rk yp k) (min (cn_b yo yn ya rk yp (yp k 0)) (min (cn_b yo yn ya rk yp (yp k 1)) (cn_b yo yn ya rk yp (yp k 2)))) := by
  rw [cn_b, dif_pos ⟨by omega, h0⟩, dif_pos ⟨by omega, h1⟩, dif_pos ⟨by omega, h2⟩]
theorem cn_b_le : cn_b yo yn ya rk yp k ≤ cn_s yo yn ya rk yp k := by
  rw [cn_b]; exact Nat.min_le_left _ _
end
/-! the machine that reads the tokens -/
def cm_end (T : Nat → Nat) (i : Nat) : Bool := decide (T i ≤ 4 ∨ T i = 7 ∨ T i = 19)
def cm_pre (T : Nat → Nat) (i : Nat) : Bool := decide (T i = 12) || (decide (T i = 16) && (decide (i = 0) || !cm_end T (i - 1)))
def cm_str (T : Nat → Nat) (i : Nat) : Nat :=
  if T i = 9 then 1 else if T i = 10 then 2 else if T i = 11 then 3 else if T i = 12 then 7 else if T i = 13 ∨ T i = 14 then 4 else if T i = 15 then 5
  else if T i = 16 then (if cm_pre T i = true then 7 else 5) else if T i = 17 ∨ T i = 18 then 6 else 0
def cm_aim : List cm_I → Nat → Int32 → List cm_I
  | [], _, _ => []
  | x :: r, 0, v => (x.1, x.2.1, v, x.2.2.2) :: r
  | x :: r, i + 1, v => x :: cm_aim r i v
def cm_dem (ok : Bool) (p lst : Nat) : Nat := if ok = true then lst else min lst p
abbrev cm_R : Type := List Int32 × List cm_I × Nat
def cm_ap (T : Nat → Nat) (i c : Nat) (z : cm_R) : Option cm_R :=
  if cm_pre T i = true then (match z.1 with
    | x :: ks => some ((if T i = 12 then 2 else 1) :: ks, z.2.1 ++ [((if T i = 12 then 12 else 23), 0, 0, nI i)], cm_dem (decide (x = (if T i = 12 then 2 else 1))) i z.2.2)
    | [] => none)
  else if T i = 9 then (match z.1 with
    | y2 :: y1 :: x :: ks => some (y1 :: ks, cm_aim z.2.1 c (nI z.2.1.length), cm_dem (decide (y1 = y2)) (ca_o T i) (cm_dem (decide (x = 2)) (ca_o T i) z.2.2))
    | _ => none)
  else if T i = 10 ∨ T i = 11 then (match z.1 with
    | y :: x :: ks => some (2 :: ks, cm_aim z.2.1 c (nI z.2.1.length), cm_dem (decide (x = 2 ∧ y = 2)) i z.2.2)
    | _ => none)
  else (match z.1 with
    | y :: x :: ks => some ((if 15 ≤ T i then 1 else 2) :: ks, z.2.1 ++ [(nI (T i), 0, 0, nI i)], cm_dem (if T i = 13 then decide (x = y ∧ ¬ x = 4) else decide (x = 1 ∧ y = 1)) i z.2.2)
    | _ => none)
def cm_se (T : Nat → Nat) (q : Nat) : List (Nat × Nat) → cm_R → Option (List (Nat × Nat) × cm_R)
  | [], z => some ([], z)
  | e :: r, z => if cm_str T e.1 < q then some (e :: r, z) else (match cm_ap T e.1 e.2 z with
    | none => none
    | some z' => cm_se T q r z')
def cm_sf (T : Nat → Nat) (i : Nat) : Nat := if T i = 7 ∨ T i = 9 then 1 else if T i = 8 then 2 else if cm_str T i = 0 ∨ cm_str T i = 7 then 8 else cm_str T i
def cm_kp (p : Int32) : Int32 := if 3 ≤ p then (if p = 3 then 3 else 4) else 1
def cm_tr (T : Nat → Nat) (tv kc : Nat → Int32) (i : Nat) (s : List (Nat × Nat) × cm_R) : Option (List (Nat × Nat) × cm_R) :=
  if T i = 0 then some (s.1, (1 :: s.2.1, s.2.2.1 ++ [(0, tv i, 0, nI i)], s.2.2.2))
  else if T i = 3 ∨ T i = 4 ∨ T i = 19 then some (s.1, (3 :: s.2.1, s.2.2.1 ++ [(nI (T i), tv i, 0, nI i)], s.2.2.2))
  else if T i = 1 ∨ T i = 2 then (match s.2.1 with
    | x :: ks => some (s.1, (cm_kp (tv i) :: ks, s.2.2.1 ++ [(nI (T i), tv i, 0, nI i)], cm_dem (decide (x = 3)) i s.2.2.2))
    | [] => none)
  else if T i = 6 then (if 0 < i ∧ (T (i - 1) = 5 ∨ 20 ≤ T (i - 1)) then some s else some ((i, 0) :: s.1, s.2))
  else if T i = 9 then (match s.1 with
    | [] => none
    | e :: r => if ¬ e.1 = ca_o T i then none
      else if 20 ≤ T (ca_o T i) then some ((e.1, s.2.2.1.length) :: r, (s.2.1, s.2.2.1 ++ [(nI (T (ca_o T i)), tv (ca_o T i), 0, nI (ca_o T i))], s.2.2.2))
      else some ((i, s.2.2.1.length) :: r, (s.2.1, cm_aim (s.2.2.1 ++ [(9, 0, 0, nI i)]) e.2 (nI (s.2.2.1.length + 1)), s.2.2.2)))
  else if T i = 7 then (match s.1 with
    | [] => none
    | e :: r => if ¬ e.1 = ca_o T i then none
      else if T (ca_o T i) = 5 then (match s.2.1 with
        | x :: ks => some (r, (kc (ca_o T i) :: ks, s.2.2.1 ++ [(5, tv (ca_o T i), 0, nI (ca_o T i))], cm_dem (decide (x = 3)) (ca_o T i) s.2.2.2))
        | [] => none)
      else if 20 ≤ T (ca_o T i) then (match s.2.1 with
        | y :: x :: ks => some (r, ((if T (ca_o T i) = 22 then 1 else 2) :: ks, cm_aim (s.2.2.1 ++ [(24, nI e.2, 0, nI (ca_o T i))]) e.2 (nI (s.2.2.1.length + 1)), cm_dem (decide (x = 4 ∧ y = (if T (ca_o T i) = 22 then 1 else 2))) (ca_o T i) s.2.2.2))
        | _ => none)
      else some (r, s.2))
  else if T i = 8 ∨ T i = 10 ∨ T i = 11 then some ((i, s.2.2.1.length) :: s.1, (s.2.1, s.2.2.1 ++ [(nI (T i), 0, 0, nI i)], s.2.2.2))
  else some ((i, 0) :: s.1, s.2)
def cm_step (T : Nat → Nat) (tv kc : Nat → Int32) (i : Nat) (s : List (Nat × Nat) × cm_R) : Option (List (Nat × Nat) × cm_R) := match cm_se T (cm_sf T i) s.1 s.2 with
  | none => none
  | some s' => cm_tr T tv kc i s'
def cm_run (T : Nat → Nat) (tv kc : Nat → Int32) : Nat → Nat → List (Nat × Nat) × cm_R → Option (List (Nat × Nat) × cm_R)
  | _, 0, s => some s
  | l, c + 1, s => match cm_step T tv kc l s with
    | none => none
    | some s' => cm_run T tv kc (l + 1) c s'
section
variable {T : Nat → Nat} {tv kc : Nat → Int32}
theorem cm_run_add : ∀ (c l d : Nat) (s : List (Nat × Nat) × cm_R), cm_run T tv kc l (c + d) s = (match cm_run T tv kc l c s with | none => none | some s' => cm_run T tv kc (l + c) d s')
  | 0, l, d, s => by rw [Nat.zero_add]; rfl
  | c + 1, l, d, s => by
    rw [show c + 1 + d = (c + d) + 1 by omega]
    show (match cm_step T tv kc l s with | none => none | some s' => cm_run T tv kc (l + 1) (c + d) s') = (match (match cm_step T tv kc l s with | none => none | some s' => cm_run T tv kc (l + 1) c s') with | none => none | some s' => cm_run T tv kc (l + (c + 1)) d s')
    cases cm_step T tv kc l s with
    | none => rfl
    | some s' =>
      dsimp only
      rw [cm_run_add c (l + 1) d s', show l + 1 + c = l + (c + 1) by omega]
theorem cm_run_2 {l m u : Nat} {s s' : List (Nat × Nat) × cm_R} (h1 : l ≤ m) (h2 : m ≤ u) (h : cm_run T tv kc l (m - l) s = some s') : cm_run T tv kc l (u - l) s = cm_run T tv kc m (u - m) s' := by
  rw [show u - l = (m - l) + (u - m) by omega, cm_run_add, h, show l + (m - l) = m by omega]
theorem cm_run_1 {l u : Nat} {s s' : List (Nat × Nat) × cm_R} (h1 : l < u) (h : cm_step T tv kc l s = some s') : cm_run T tv kc l (u - l) s = cm_run T tv kc (l + 1) (u - (l + 1)) s' := by
  rw [show u - l = (u - (l + 1)) + 1 by omega]
  show (match cm_step T tv kc l s with | none => none | some s' => cm_run T tv kc (l + 1) (u - (l + 1)) s') = _
  rw [h]
theorem cm_run_0 {l : Nat} {s : List (Nat × Nat) × cm_R} : cm_run T tv kc l (l - l) s = some s := by rw [Nat.sub_self]; rfl
theorem cm_stop {q : Nat} {stk : List (Nat × Nat)} {z : cm_R} (h : ∀ e r, stk = e :: r → cm_str T e.1 < q) : cm_se T q stk z = some (stk, z) := by
  cases stk with
  | nil => rfl
  | cons e r =>
    show (if cm_str T e.1 < q then some (e :: r, z) else _) = _
    rw [if_pos (h e r rfl)]
theorem cm_str7 (i : Nat) : cm_str T i ≤ 7 := by
  unfold cm_str
  repeat' split
  all_goals omega
theorem cm_aim_app (A : List cm_I) (x : cm_I) (B : List cm_I) (v : Int32) : cm_aim (A ++ x :: B) A.length v = A ++ (x.1, x.2.1, v, x.2.2.2) :: B := by
  induction A with
  | nil => rfl
  | cons y r ih =>
    show y :: cm_aim (r ++ x :: B) r.length v = y :: (r ++ _)
    rw [ih]
end
