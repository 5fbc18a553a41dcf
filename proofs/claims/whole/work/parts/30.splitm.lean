section
variable {ob pl sts res era usd sp lv ret out : Int32} {ycls prp lst siz dnd opd yrk rn op nm ay prt ylo yhi sN sP sX sK it vr tk tv : Nat → Int32} {n nd K : Nat} {T : Nat → Nat}
theorem cs_tkl (hn : n ≤ 40) (hK : ∀ i, i < n → tk i = nI (T i) ∧ T i < 23) {l : Nat} (hl : l < n) : tk (nI l).toNatClampNeg = nI (T l) ∧ (∀ x, T l ≠ x → x < 23 → ¬ tk (nI l).toNatClampNeg = nI x) ∧ vp_in (nI l) 40 := by
  have e : tk (nI l).toNatClampNeg = nI (T l) := by rw [nI_clamp (by omega)]; exact (hK l hl).1
  exact ⟨e, fun x z hx y => z ((nI_eq (by have := (hK l hl).2; omega) (by omega)).1 (e.symm.trans y)), vp_in_nI (by omega) (by decide)⟩
theorem cs_122 (hn : n ≤ 40) (hK : ∀ i, i < n → tk i = nI (T i) ∧ T i < 23) {post : SY → Prop} {l u c : Nat} {two : Int32} (hl : l < n) (h1 : T l = 16 ∨ T l = 12 → wY_split_122 post (nI K) (nI l) (nI u) (nI c) two 1 ob (nI n) pl (nI nd) sts res era usd sp lv ret out ycls prp lst siz dnd (tk) (tv) opd yrk rn op nm ay prt ylo yhi sN sP sX sK it vr) (h0 : ¬ (T l = 16 ∨ T l = 12) → wY_split_122 post (nI K) (nI l) (nI u) (nI c) two 0 ob (nI n) pl (nI nd) sts res era usd sp lv ret out ycls prp lst siz dnd (tk) (tv) opd yrk rn op nm ay prt ylo yhi sN sP sX sK it vr) : wY_split_93 post (nI K) (nI l) (nI u) (nI c) two ob (nI n) pl (nI nd) sts res era usd sp lv ret out ycls prp lst siz dnd (tk) (tv) opd yrk rn op nm ay prt ylo yhi sN sP sX sK it vr := by
  obtain ⟨e1, e2, e3⟩ := cs_tkl hn hK hl
  refine ⟨e3, ?_⟩
  by_cases t16 : T l = 16
  · exact br_t (by rw [e1, t16]; rfl) (h1 (Or.inl t16))
  · refine br_f (e2 16 t16 (by decide)) ⟨e3, ?_⟩
    by_cases t12 : T l = 12
    · exact br_t (by rw [e1, t12]; rfl) (h1 (Or.inr t12))
    · exact br_f (e2 12 t12 (by decide)) (h0 (by omega))
theorem cs_r2 (hn : n ≤ 40) (hK : ∀ i, i < n → tk i = nI (T i) ∧ T i < 23) {post : SY → Prop} {l u c : Nat} (hl : l < c) (hc : c < n) (h : ∀ s2, wY_split_239 post (nI K) (nI l) (nI u) (nI c) 1 s2 (nI (T c)) (nI (T c)) (nI K) ob (nI n) pl (nI nd) sts res era usd sp lv ret out ycls prp lst siz dnd (tk) (tv) opd yrk rn op nm ay prt ylo yhi sN sP sX sK it vr) : wY_split_82 post (nI K) (nI l) (nI u) (nI c) ob (nI n) pl (nI nd) sts res era usd sp lv ret out ycls prp lst siz dnd (tk) (tv) opd yrk rn op nm ay prt ylo yhi sN sP sX sK it vr := by
  obtain ⟨e1, e2, e3⟩ := cs_tkl hn hK hc
  have fin : ∀ s2, wY_split_122 post (nI K) (nI l) (nI u) (nI c) 1 s2 ob (nI n) pl (nI nd) sts res era usd sp lv ret out ycls prp lst siz dnd (tk) (tv) opd yrk rn op nm ay prt ylo yhi sN sP sX sK it vr := by
    intro s2
    have k206 : wY_split_206 post (nI K) (nI l) (nI u) (nI c) 1 s2 ob (nI n) pl (nI nd) sts res era usd sp lv ret out ycls prp lst siz dnd (tk) (tv) opd yrk rn op nm ay prt ylo yhi sN sP sX sK it vr := by
      refine ⟨e3, nm_r (e' := nI (T c)) e1 ?_⟩
      by_cases t16 : nI (T c) = 16
      · exact br_t t16 (br_f (by decide) (h s2))
      · exact br_f t16 (h s2)
    exact br_f (by decide) ⟨e3, br_f (by decide) (br_f (by decide) k206)⟩
  exact br_f (nI_ge hl (by omega)) (cs_122 hn hK (by omega) (fun _ => fin 1) (fun _ => fin 0))
theorem cs_rs (hn : n ≤ 40) (hK : ∀ i, i < n → tk i = nI (T i) ∧ T i < 23) {post : SY → Prop} {l u : Nat} (hl : l < n) (ht : T l = 16 ∨ T l = 12) (h : wY_split_239 post (nI K) (nI l) (nI u) (nI l) 0 1 (nI (T l)) (if T l = 16 then 23 else 12) (nI K) ob (nI n) pl (nI nd) sts res era usd sp lv ret out ycls prp lst siz dnd (tk) (tv) opd yrk rn op nm ay prt ylo yhi sN sP sX sK it vr) : wY_split_82 post (nI K) (nI l) (nI u) (nI l) ob (nI n) pl (nI nd) sts res era usd sp lv ret out ycls prp lst siz dnd (tk) (tv) opd yrk rn op nm ay prt ylo yhi sN sP sX sK it vr := by
  obtain ⟨e1, e2, e3⟩ := cs_tkl hn hK hl
  refine br_t (nI_le (Nat.le_refl _) (by omega)) (cs_122 hn hK hl (fun _ => ?_) (fun z => absurd ht z))
  refine br_t rfl (br_f (by decide) ⟨e3, br_t rfl (br_f (by decide) (br_t rfl (br_f (by decide) ⟨e3, nm_r (e' := nI (T l)) e1 ?_⟩)))⟩)
  by_cases t16 : T l = 16
  · rw [if_pos t16] at h
    exact br_t (by rw [t16]; rfl) (br_t rfl h)
  · rw [if_neg t16] at h
    have t12 : nI (T l) = 12 := by rw [ht.resolve_left t16]; rfl
    refine br_f (by rw [t12]; decide) ?_
    show wY_split_239 post (nI K) (nI l) (nI u) (nI l) 0 1 (nI (T l)) (nI (T l)) (nI K) ob (nI n) pl (nI nd) sts res era usd sp lv ret out ycls prp lst siz dnd (tk) (tv) opd yrk rn op nm ay prt ylo yhi sN sP sX sK it vr
    rw [t12] at h ⊢
    exact h
theorem cs_rp (hn : n ≤ 40) (hK : ∀ i, i < n → tk i = nI (T i) ∧ T i < 23) {post : SY → Prop} {l u : Nat} (hl : l < u) (hu : u ≤ n) (ht : ¬ (T l = 16 ∨ T l = 12)) (hp : T (u - 1) = 1 ∨ T (u - 1) = 2) (h : wY_split_239 post (nI K) (nI l) (nI u) (nI (u - 1)) 0 0 (nI (T (u - 1))) (nI (T (u - 1))) (nI K) ob (nI n) pl (nI nd) sts res era usd sp lv ret out ycls prp lst siz dnd (tk) (tv) opd yrk rn op nm ay prt ylo yhi sN sP sX sK it vr) : wY_split_82 post (nI K) (nI l) (nI u) (nI l) ob (nI n) pl (nI nd) sts res era usd sp lv ret out ycls prp lst siz dnd (tk) (tv) opd yrk rn op nm ay prt ylo yhi sN sP sX sK it vr := by
  obtain ⟨u', rfl⟩ : ∃ u', u = u' + 1 := ⟨u - 1, by omega⟩
  rw [Nat.add_sub_cancel] at hp h
  obtain ⟨e1, e2, e3⟩ := cs_tkl hn hK (l := u') (by omega)
  refine br_t (nI_le (Nat.le_refl _) (by omega)) (cs_122 hn hK (by omega) (fun z => absurd z ht) (fun _ => ?_))
  refine br_t rfl (br_t rfl ?_)
  rw [nI_pred, e1]
  refine ⟨e3, ?_⟩
  have k206 : wY_split_201 post (nI K) (nI l) (nI (u' + 1)) 0 0 ob (nI n) pl (nI nd) sts res era usd sp lv ret out ycls prp lst siz dnd (tk) (tv) opd yrk rn op nm ay prt ylo yhi sN sP sX sK it vr := by
    refine nm_r (nI_pred u') ⟨e3, nm_r (e' := nI (T u')) e1 (br_f ?_ h)⟩
    exact fun z => absurd ((nI_eq (b := 16) (by omega) (by decide)).1 z) (by omega)
  rcases hp with hp | hp
  · rw [hp]
    exact br_t rfl (br_t rfl (br_t rfl (br_t rfl (br_t rfl (br_t rfl k206)))))
  · rw [hp]
    exact br_t rfl (br_t rfl (br_f (by decide) (br_t rfl (br_t rfl (br_t rfl (br_f (by decide) (br_t rfl k206)))))))
theorem cs_rl (hn : n ≤ 40) (hK : ∀ i, i < n → tk i = nI (T i) ∧ T i < 23) {post : SY → Prop} {l u : Nat} (hl : l < u) (hu : u ≤ n) (ht : ¬ (T l = 16 ∨ T l = 12)) (hp : ¬ (T (u - 1) = 1 ∨ T (u - 1) = 2)) (h : wY_split_239 post (nI K) (nI l) (nI u) (nI l) 0 0 (nI (T l)) (nI (T l)) (nI K) ob (nI n) pl (nI nd) sts res era usd sp lv ret out ycls prp lst siz dnd (tk) (tv) opd yrk rn op nm ay prt ylo yhi sN sP sX sK it vr) : wY_split_82 post (nI K) (nI l) (nI u) (nI l) ob (nI n) pl (nI nd) sts res era usd sp lv ret out ycls prp lst siz dnd (tk) (tv) opd yrk rn op nm ay prt ylo yhi sN sP sX sK it vr := by
  obtain ⟨u', rfl⟩ : ∃ u', u = u' + 1 := ⟨u - 1, by omega⟩
  rw [Nat.add_sub_cancel] at hp
  obtain ⟨e1, e2, e3⟩ := cs_tkl hn hK (l := u') (by omega)
  obtain ⟨f1, f2, f3⟩ := cs_tkl hn hK (l := l) (by omega)
  refine br_t (nI_le (Nat.le_refl _) (by omega)) (cs_122 hn hK (by omega) (fun z => absurd z ht) (fun _ => ?_))
  refine br_t rfl (br_t rfl ?_)
  rw [nI_pred, e1]
  have n1 : ¬ nI (T u') = 1 := fun z => absurd ((nI_eq (b := 1) (by have := (hK u' (by omega)).2; omega) (by decide)).1 z) (by omega)
  have n2 : ¬ nI (T u') = 2 := fun z => absurd ((nI_eq (b := 2) (by have := (hK u' (by omega)).2; omega) (by decide)).1 z) (by omega)
  refine ⟨e3, br_t rfl (br_t rfl (br_f n1 (br_f n2 (br_t rfl (br_t rfl (br_f n1 (br_f n2 ⟨f3, nm_r (e' := nI (T l)) f1 (br_f ?_ h)⟩)))))))⟩
  exact fun z => absurd ((nI_eq (b := 16) (by have := (hK l (by omega)).2; omega) (by decide)).1 z) (by omega)
theorem cs_ns (hn : n ≤ 40) (hK : ∀ i, i < n → tk i = nI (T i) ∧ T i < 23) {post : SY → Prop} {l u c j m : Nat} (hl : l < u) (hu : u ≤ n) (hc : c < 40) (hj : j < 40) (hs : ¬ (c = l ∧ T l = 6 ∧ T (u - 1) = 7)) (h : wY_split_82 post (nI K) (nI l) (nI u) (nI c) ob (nI n) pl (nI nd) sts res era usd sp lv ret out ycls prp lst siz dnd (tk) (tv) opd yrk rn op nm ay prt ylo yhi sN sP sX sK it vr) : wY_split_25 post (nI K) ob (nI n) pl (nI nd) sts res era usd sp lv ret out ycls prp lst siz dnd (tk) (tv) opd yrk rn op nm ay prt ylo yhi sN sP sX sK it vr (m + 1) (nI l) (nI u) (nI c) (nI j) := by
  obtain ⟨u', rfl⟩ : ∃ u', u = u' + 1 := ⟨u - 1, by omega⟩
  rw [Nat.add_sub_cancel] at hs
  obtain ⟨e1, e2, e3⟩ := cs_tkl hn hK (l := u') (by omega)
  obtain ⟨f1, f2, f3⟩ := cs_tkl hn hK (l := l) (by omega)
  refine br_f (nI_ge (b := 40) hj (by decide)) ?_
  by_cases cl : c = l
  · refine br_t (by rw [cl]) ⟨f3, ?_⟩
    by_cases t6 : T l = 6
    · refine br_t (by rw [f1, t6]; rfl) ?_
      rw [nI_pred]
      exact ⟨e3, br_f (e2 7 (fun z => hs ⟨cl, t6, z⟩) (by decide)) h⟩
    · exact br_f (f2 6 t6 (by decide)) h
  · exact br_f (fun z => cl ((nI_eq (by omega) (by omega)).1 z)) h
theorem cs_main (hn : n ≤ 40) (hK : ∀ i, i < n → tk i = nI (T i) ∧ T i < 23) (hA : ca_S T n = some (1, [])) (hK280 : K < 280) : ∀ (f l u c j : Nat), u - l ≤ f + 1 → ca_V T n l u → ca_cut T l u c → 2 * j + (u - l) ≤ 42 → nd + (u - l) ≤ 281 → ∃ (t v : Int32) (p : Nat) (ch : List (Nat × Nat)), cs_L T tv n (f + 1) l u t v p ch ∧ ch.length + 1 ≤ u - l ∧ ∀ post : SY → Prop, post (ob, nI n, pl, nI (nd + ch.length), sts, res, era, usd, sp, lv, ret, out, ycls, prp, lst, siz, dnd, tk, tv, opd, yrk, rn, upd op K t, upd nm K v, upd ay K (nI p), cs_ups prt (K * 3) (cs_ids nd ch.length), cs_ups ylo nd (ch.map (fun c => nI c.1)), cs_ups yhi nd (ch.map (fun c => nI c.2)), sN, sP, sX, sK, it, vr) → ∃ m, wY_split_25 post (nI K) ob (nI n) pl (nI nd) sts res era usd sp lv ret out ycls prp lst siz dnd (tk) (tv) opd yrk rn op nm ay prt ylo yhi sN sP sX sK it vr m (nI l) (nI u) (nI c) (nI j) := by
  intro f
  induction f with
  | zero =>
    intro l u c j hf hV hcut hj hnd
    obtain ⟨v1, v2, v3, v4, v5, v6⟩ := id hV
    have lenne : ∀ x, ¬ ∃ E, ca_Z T u = E ++ x :: ca_Z T l := fun x ⟨E, z⟩ => ca_lenne (v5.symm.trans z)
    have hTl : T l < 23 := (hK l (by omega)).2
    rcases hcut with ⟨c1, c2, c3, c4, c5⟩ | ⟨c1, c2, c3, c4, c5⟩ | ⟨c1, c2⟩
    · -- a choice
      obtain ⟨m, m1, m2, m3, m4, m5, m6, m7, m8, m9, m10⟩ := ca_cutif hA hV c1 c2 c4 c3 c5
      refine ⟨8, tv c, c, [(l, c), (c + 1, m), (m + 1, u)], ⟨hV, Or.inr (Or.inr (Or.inr (Or.inr (Or.inr (Or.inr (Or.inr ⟨c, m, c3, m3, c1, m1, m2, c4, c5, m8, m7, m9, rfl, rfl, rfl, rfl, m4, m5, m6⟩))))))⟩, by show 3 + 1 ≤ u - l; omega, fun post hp => ⟨1, cs_ns hn hK v1 v2 (by omega) (by omega) (by omega) (cs_r2 hn hK c1 (by omega) (fun s2 => ?_))⟩⟩
      rw [c3]
      exact cs_if hK280 (by omega) hn hK hA m5.2.2.1 m7 (fun i a b => by obtain ⟨E, hE⟩ := m5.2.2.2.2.2 i a b; exact ⟨E, by rw [hE, m7]⟩) (by omega) (by omega) m8 m10 m3 rfl (by omega) hp
    · -- an operator between two sides
      obtain ⟨d1, d2, d3, d4⟩ := ca_cutop hA hV c2 c3 c4.2.1 c4.1 ⟨c4.2.2.1, c4.2.2.2.1⟩ c1
      have := d2.1
      refine ⟨nI (T c), tv c, c, [(l, c), (c + 1, u)], ⟨hV, Or.inr (Or.inr (Or.inr (Or.inr (Or.inr (Or.inr (Or.inl ⟨c, c2, c3, c1, c4, c5, rfl, rfl, rfl, rfl, d1, d2, d3⟩))))))⟩, by show 2 + 1 ≤ u - l; omega, fun post hp => ⟨1, cs_ns hn hK v1 v2 (by omega) (by omega) (by omega) (cs_r2 hn hK c2 (by omega) (fun s2 => ?_))⟩⟩
      exact cs_two hK280 (by omega) (fun z => absurd ((nI_eq (b := 8) (by have := (hK c (by omega)).2; omega) (by decide)).1 z) (by have := c4.2.2; omega)) (by omega) hp
    · -- no operator of this level
      subst c1
      have post : (¬ (T c = 16 ∨ T c = 12)) → (T (u - 1) = 1 ∨ T (u - 1) = 2) → c + 1 < u → ca_V T n c (u - 1) → ∃ (t v : Int32) (p : Nat) (ch : List (Nat × Nat)), cs_L T tv n (0 + 1) c u t v p ch ∧ ch.length + 1 ≤ u - c ∧ ∀ post : SY → Prop, post (ob, nI n, pl, nI (nd + ch.length), sts, res, era, usd, sp, lv, ret, out, ycls, prp, lst, siz, dnd, tk, tv, opd, yrk, rn, upd op K t, upd nm K v, upd ay K (nI p), cs_ups prt (K * 3) (cs_ids nd ch.length), cs_ups ylo nd (ch.map (fun c => nI c.1)), cs_ups yhi nd (ch.map (fun c => nI c.2)), sN, sP, sX, sK, it, vr) → ∃ m, wY_split_25 post (nI K) ob (nI n) pl (nI nd) sts res era usd sp lv ret out ycls prp lst siz dnd (tk) (tv) opd yrk rn op nm ay prt ylo yhi sN sP sX sK it vr m (nI c) (nI u) (nI c) (nI j) := by
        intro t1 t2 t3 t4
        refine ⟨nI (T (u - 1)), tv (u - 1), u - 1, [(c, u - 1)], ⟨hV, Or.inr (Or.inr (Or.inl ⟨t2, t3, c2, rfl, rfl, rfl, rfl, t4, by omega, by omega⟩))⟩, by show 1 + 1 ≤ u - c; omega, fun post hp => ⟨1, cs_ns hn hK v1 v2 (by omega) (by omega) (by omega) (cs_rp hn hK v1 v2 t1 t2 ?_)⟩⟩
        have tt : nI (T (u - 1)) = 1 ∨ nI (T (u - 1)) = 2 := by
          rcases t2 with z | z
          · exact Or.inl (by rw [z]; rfl)
          · exact Or.inr (by rw [z]; rfl)
        exact cs_post hK280 (by omega) tt (by omega) hp
      have rest : ∀ {i : Nat}, (¬ (T c = 16 ∨ T c = 12)) → c < i → i ≤ u → ca_W T i = 1 → ca_Z T i = ca_Z T c → (i = u → ∃ (t v : Int32) (p : Nat) (ch : List (Nat × Nat)), cs_L T tv n (0 + 1) c u t v p ch ∧ ch.length + 1 ≤ u - c ∧ ∀ post : SY → Prop, post (ob, nI n, pl, nI (nd + ch.length), sts, res, era, usd, sp, lv, ret, out, ycls, prp, lst, siz, dnd, tk, tv, opd, yrk, rn, upd op K t, upd nm K v, upd ay K (nI p), cs_ups prt (K * 3) (cs_ids nd ch.length), cs_ups ylo nd (ch.map (fun c => nI c.1)), cs_ups yhi nd (ch.map (fun c => nI c.2)), sN, sP, sX, sK, it, vr) → ∃ m, wY_split_25 post (nI K) ob (nI n) pl (nI nd) sts res era usd sp lv ret out ycls prp lst siz dnd (tk) (tv) opd yrk rn op nm ay prt ylo yhi sN sP sX sK it vr m (nI c) (nI u) (nI c) (nI j)) → ∃ (t v : Int32) (p : Nat) (ch : List (Nat × Nat)), cs_L T tv n (0 + 1) c u t v p ch ∧ ch.length + 1 ≤ u - c ∧ ∀ post : SY → Prop, post (ob, nI n, pl, nI (nd + ch.length), sts, res, era, usd, sp, lv, ret, out, ycls, prp, lst, siz, dnd, tk, tv, opd, yrk, rn, upd op K t, upd nm K v, upd ay K (nI p), cs_ups prt (K * 3) (cs_ids nd ch.length), cs_ups ylo nd (ch.map (fun c => nI c.1)), cs_ups yhi nd (ch.map (fun c => nI c.2)), sN, sP, sX, sK, it, vr) → ∃ m, wY_split_25 post (nI K) ob (nI n) pl (nI nd) sts res era usd sp lv ret out ycls prp lst siz dnd (tk) (tv) opd yrk rn op nm ay prt ylo yhi sN sP sX sK it vr m (nI c) (nI u) (nI c) (nI j) := by
        intro i t1 i1 i2 i3 i4 H
        rcases ca_prim hA hV c2 i1 i2 i3 i4 with z | ⟨z1, z2, z3⟩
        · exact H z
        · exact post t1 z1 z2 z3
      rcases ca_rule hA (i := c) (by omega) with ⟨w, _⟩ | ⟨w, t, w', z⟩ | ⟨w, t, w', z⟩ | ⟨w, t, w', z⟩ | ⟨w, t, w', z⟩ | ⟨w, _⟩ | ⟨w, _⟩ | ⟨w, _⟩ | ⟨w, _⟩ | ⟨w, _⟩ | ⟨w, _⟩
      · omega
      · -- a leaf
        refine rest (i := c + 1) (by omega) (by omega) (by omega) w' z (fun y => ?_)
        have u1 : u - 1 = c := by omega
        refine ⟨nI (T c), tv c, c, [], ⟨hV, Or.inr (Or.inl ⟨by omega, t, rfl, rfl, rfl, rfl⟩)⟩, by show 0 + 1 ≤ u - c; omega, fun post hp => ⟨1, cs_ns hn hK v1 v2 (by omega) (by omega) (by omega) (cs_rl hn hK v1 v2 (by omega) (by rw [u1]; omega) ?_)⟩⟩
        refine cs_leaf hK280 (by omega) ?_ hp
        rcases t with t | t | t | t <;> rw [t]
        · exact Or.inl rfl
        · exact Or.inr (Or.inl rfl)
        · exact Or.inr (Or.inr (Or.inl rfl))
        · exact Or.inr (Or.inr (Or.inr rfl))
      · -- one side alone
        have cu : c + 1 ≠ u := by intro y; rw [y] at w'; omega
        have hV' : ca_V T n (c + 1) u := ⟨by omega, v2, w', v4, v5.trans z.symm, fun i a b => by rw [z]; exact v6 i (by omega) b⟩
        refine ⟨if T c = 16 then 23 else 12, tv c, c, [(c + 1, u)], ⟨hV, Or.inr (Or.inr (Or.inr (Or.inr (Or.inr (Or.inl ⟨?_, c2, rfl, rfl, rfl, hV', z⟩)))))⟩, by show 1 + 1 ≤ u - c; omega, fun post hp => ⟨1, cs_ns hn hK v1 v2 (by omega) (by omega) (by omega) (cs_rs hn hK (by omega) (by omega) ?_)⟩⟩
        · rcases t with t | t
          · exact Or.inl ⟨t, if_neg (by omega)⟩
          · exact Or.inr ⟨t, if_pos t⟩
        · exact cs_side hK280 (by omega) (fun y => absurd ((nI_eq (b := 8) (by omega) (by decide)).1 y) (by omega)) (by omega) hp
      · -- a bracket
        obtain ⟨m, m1, m2, m3, m4, m5, m6⟩ := ca_life hA (a := c + 1) (H := u) v2 z (lenne _) (by omega)
        have m7 : T m = 7 ∧ ca_Z T (m + 1) = ca_Z T c ∧ ca_W T (m + 1) = 1 := by
          rcases m6 with ⟨a, b, c', d⟩ | ⟨a, b, c', d⟩ | ⟨a, b, c', d⟩
          · exact absurd b (by show ¬ T c = 8; omega)
          · exact absurd b (by show ¬ 20 ≤ T c; omega)
          · exact ⟨a, c', d⟩
        have cm : c + 1 ≠ m := by intro y; rw [y] at w'; omega
        refine rest (i := m + 1) (by omega) (by omega) (by omega) m7.2.2 m7.2.1 (fun y => ?_)
        have um : u - 1 = m := by omega
        omega
      · rcases t with t | t
        · -- a call
          obtain ⟨p1, p2, p3, p4, p5, p6⟩ := ca_head hA (q := c) (by omega) (Or.inl t)
          obtain ⟨m, m1, m2, m3, m4, m5, m6⟩ := ca_life hA (a := c + 1) (H := u) v2 z (lenne _) (by omega)
          have m7 : T m = 7 ∧ ca_Z T (m + 1) = ca_Z T c ∧ ca_W T (m + 1) = 1 := by
            rcases m6 with ⟨a, b, c', d⟩ | ⟨a, b, c', d⟩ | ⟨a, b, c', d⟩
            · exact absurd b (by show ¬ T c = 8; omega)
            · exact absurd b (by show ¬ 20 ≤ T c; omega)
            · exact ⟨a, c', d⟩
          have cm : c + 1 ≠ m := by intro y; rw [y] at w'; omega
          have cm2 : c + 2 ≠ m := by intro y; rw [y] at p5; omega
          refine rest (i := m + 1) (by omega) (by omega) (by omega) m7.2.2 m7.2.1 (fun y => ?_)
          have um : u - 1 = m := by omega
          have hV' : ca_V T n (c + 2) (u - 1) := by
            rw [um]
            exact ⟨by omega, by omega, p5, m5, m3.trans p6.symm, fun i a b => by rw [p6]; exact m4 i (by omega) b⟩
          refine ⟨5, tv c, c, [(c + 2, u - 1)], ⟨hV, Or.inr (Or.inr (Or.inr (Or.inl ⟨t, p4, by rw [um]; exact m7.1, by rw [um]; exact m3, p6, rfl, rfl, rfl, rfl, hV'⟩)))⟩, by show 1 + 1 ≤ u - c; omega, fun post hp => ⟨1, cs_ns hn hK v1 v2 (by omega) (by omega) (by omega) (cs_rl hn hK v1 v2 (by omega) (by rw [um]; omega) ?_)⟩⟩
          rw [t]
          exact cs_call hK280 (by omega) rfl (by omega) (by omega) hp
        · -- a quantifier
          obtain ⟨p1, p2, p3, p4, p5, p6⟩ := ca_head hA (q := c) (by omega) (Or.inr t)
          obtain ⟨m, m1, m2, m3, m4, m5, m6⟩ := ca_life hA (a := c + 1) (H := u) v2 z (lenne _) (by omega)
          have m7 : T m = 9 ∧ ca_Z T (m + 1) = (m, c) :: ca_Z T c ∧ ca_W T (m + 1) = 0 := by
            rcases m6 with ⟨a, b, c', d⟩ | ⟨a, b, c', d⟩ | ⟨a, b, c', d⟩
            · exact absurd b (by show ¬ T c = 8; omega)
            · exact ⟨a, c', d⟩
            · exact absurd b (by show ¬ (T c = 9 ∨ T c = 6 ∨ T c = 5); omega)
          obtain ⟨e, e1, e2, e3, e4, e5, e6⟩ := ca_life hA (a := m + 1) (H := u) v2 m7.2.1 (lenne _) (by omega)
          have e7 : T e = 7 ∧ ca_Z T (e + 1) = ca_Z T c ∧ ca_W T (e + 1) = 1 := by
            rcases e6 with ⟨a, b, c', d⟩ | ⟨a, b, c', d⟩ | ⟨a, b, c', d⟩
            · exact absurd b (by show ¬ T m = 8; omega)
            · exact absurd b (by show ¬ 20 ≤ T m; omega)
            · exact ⟨a, c', d⟩
          have cm : c + 1 ≠ m := by intro y; rw [y] at w'; omega
          have cm2 : c + 2 ≠ m := by intro y; rw [y] at p5; omega
          have em : m + 1 ≠ e := by intro y; rw [y] at m7; omega
          refine rest (i := e + 1) (by omega) (by omega) (by omega) e7.2.2 e7.2.1 (fun y => ?_)
          have um : u - 1 = e := by omega
          have hV1 : ca_V T n (c + 2) m := ⟨by omega, by omega, p5, m5, m3.trans p6.symm, fun i a b => by rw [p6]; exact m4 i (by omega) b⟩
          have hV2 : ca_V T n (m + 1) (u - 1) := by
            rw [um]
            exact ⟨by omega, by omega, m7.2.2, e5, e3.trans m7.2.1.symm, fun i a b => by rw [m7.2.1]; exact e4 i a b⟩
          refine ⟨nI (T c), tv c, c, [(c + 2, m), (m + 1, u - 1)], ⟨hV, Or.inr (Or.inr (Or.inr (Or.inr (Or.inl ⟨m, t, p4, m7.1, by rw [um]; exact e7.1, m3, p6, m7.2.1, by rw [um]; exact e3, rfl, rfl, rfl, rfl, hV1, hV2⟩))))⟩, by show 2 + 1 ≤ u - c; omega, fun post hp => ⟨1, cs_ns hn hK v1 v2 (by omega) (by omega) (by omega) (cs_rl hn hK v1 v2 (by omega) (by rw [um]; omega) ?_)⟩⟩
          refine cs_qnt hK280 (by omega) hn hK hA p5 p6 (fun i a b => m4 i (by omega) b) (by omega) (by omega) m3 m5 m7.1 ?_ (by omega) (by omega) hp
          have t3 : T c = 20 ∨ T c = 21 ∨ T c = 22 := by omega
          rcases t3 with t3 | t3 | t3 <;> rw [t3]
          · exact Or.inl rfl
          · exact Or.inr (Or.inl rfl)
          · exact Or.inr (Or.inr rfl)
      all_goals omega
  | succ f ih =>
    intro l u c j hf hV hcut hj hnd
    obtain ⟨v1, v2, v3, v4, v5, v6⟩ := id hV
    have lenne : ∀ x, ¬ ∃ E, ca_Z T u = E ++ x :: ca_Z T l := fun x ⟨E, z⟩ => ca_lenne (v5.symm.trans z)
    have hTl : T l < 23 := (hK l (by omega)).2
    rcases hcut with ⟨c1, c2, c3, c4, c5⟩ | ⟨c1, c2, c3, c4, c5⟩ | ⟨c1, c2⟩
    · -- a choice
      obtain ⟨m, m1, m2, m3, m4, m5, m6, m7, m8, m9, m10⟩ := ca_cutif hA hV c1 c2 c4 c3 c5
      refine ⟨8, tv c, c, [(l, c), (c + 1, m), (m + 1, u)], ⟨hV, Or.inr (Or.inr (Or.inr (Or.inr (Or.inr (Or.inr (Or.inr ⟨c, m, c3, m3, c1, m1, m2, c4, c5, m8, m7, m9, rfl, rfl, rfl, rfl, m4, m5, m6⟩))))))⟩, by show 3 + 1 ≤ u - l; omega, fun post hp => ⟨1, cs_ns hn hK v1 v2 (by omega) (by omega) (by omega) (cs_r2 hn hK c1 (by omega) (fun s2 => ?_))⟩⟩
      rw [c3]
      exact cs_if hK280 (by omega) hn hK hA m5.2.2.1 m7 (fun i a b => by obtain ⟨E, hE⟩ := m5.2.2.2.2.2 i a b; exact ⟨E, by rw [hE, m7]⟩) (by omega) (by omega) m8 m10 m3 rfl (by omega) hp
    · -- an operator between two sides
      obtain ⟨d1, d2, d3, d4⟩ := ca_cutop hA hV c2 c3 c4.2.1 c4.1 ⟨c4.2.2.1, c4.2.2.2.1⟩ c1
      have := d2.1
      refine ⟨nI (T c), tv c, c, [(l, c), (c + 1, u)], ⟨hV, Or.inr (Or.inr (Or.inr (Or.inr (Or.inr (Or.inr (Or.inl ⟨c, c2, c3, c1, c4, c5, rfl, rfl, rfl, rfl, d1, d2, d3⟩))))))⟩, by show 2 + 1 ≤ u - l; omega, fun post hp => ⟨1, cs_ns hn hK v1 v2 (by omega) (by omega) (by omega) (cs_r2 hn hK c2 (by omega) (fun s2 => ?_))⟩⟩
      exact cs_two hK280 (by omega) (fun z => absurd ((nI_eq (b := 8) (by have := (hK c (by omega)).2; omega) (by decide)).1 z) (by have := c4.2.2; omega)) (by omega) hp
    · -- no operator of this level
      subst c1
      have post : (¬ (T c = 16 ∨ T c = 12)) → (T (u - 1) = 1 ∨ T (u - 1) = 2) → c + 1 < u → ca_V T n c (u - 1) → ∃ (t v : Int32) (p : Nat) (ch : List (Nat × Nat)), cs_L T tv n (f + 1 + 1) c u t v p ch ∧ ch.length + 1 ≤ u - c ∧ ∀ post : SY → Prop, post (ob, nI n, pl, nI (nd + ch.length), sts, res, era, usd, sp, lv, ret, out, ycls, prp, lst, siz, dnd, tk, tv, opd, yrk, rn, upd op K t, upd nm K v, upd ay K (nI p), cs_ups prt (K * 3) (cs_ids nd ch.length), cs_ups ylo nd (ch.map (fun c => nI c.1)), cs_ups yhi nd (ch.map (fun c => nI c.2)), sN, sP, sX, sK, it, vr) → ∃ m, wY_split_25 post (nI K) ob (nI n) pl (nI nd) sts res era usd sp lv ret out ycls prp lst siz dnd (tk) (tv) opd yrk rn op nm ay prt ylo yhi sN sP sX sK it vr m (nI c) (nI u) (nI c) (nI j) := by
        intro t1 t2 t3 t4
        refine ⟨nI (T (u - 1)), tv (u - 1), u - 1, [(c, u - 1)], ⟨hV, Or.inr (Or.inr (Or.inl ⟨t2, t3, c2, rfl, rfl, rfl, rfl, t4, by omega, by omega⟩))⟩, by show 1 + 1 ≤ u - c; omega, fun post hp => ⟨1, cs_ns hn hK v1 v2 (by omega) (by omega) (by omega) (cs_rp hn hK v1 v2 t1 t2 ?_)⟩⟩
        have tt : nI (T (u - 1)) = 1 ∨ nI (T (u - 1)) = 2 := by
          rcases t2 with z | z
          · exact Or.inl (by rw [z]; rfl)
          · exact Or.inr (by rw [z]; rfl)
        exact cs_post hK280 (by omega) tt (by omega) hp
      have rest : ∀ {i : Nat}, (¬ (T c = 16 ∨ T c = 12)) → c < i → i ≤ u → ca_W T i = 1 → ca_Z T i = ca_Z T c → (i = u → ∃ (t v : Int32) (p : Nat) (ch : List (Nat × Nat)), cs_L T tv n (f + 1 + 1) c u t v p ch ∧ ch.length + 1 ≤ u - c ∧ ∀ post : SY → Prop, post (ob, nI n, pl, nI (nd + ch.length), sts, res, era, usd, sp, lv, ret, out, ycls, prp, lst, siz, dnd, tk, tv, opd, yrk, rn, upd op K t, upd nm K v, upd ay K (nI p), cs_ups prt (K * 3) (cs_ids nd ch.length), cs_ups ylo nd (ch.map (fun c => nI c.1)), cs_ups yhi nd (ch.map (fun c => nI c.2)), sN, sP, sX, sK, it, vr) → ∃ m, wY_split_25 post (nI K) ob (nI n) pl (nI nd) sts res era usd sp lv ret out ycls prp lst siz dnd (tk) (tv) opd yrk rn op nm ay prt ylo yhi sN sP sX sK it vr m (nI c) (nI u) (nI c) (nI j)) → ∃ (t v : Int32) (p : Nat) (ch : List (Nat × Nat)), cs_L T tv n (f + 1 + 1) c u t v p ch ∧ ch.length + 1 ≤ u - c ∧ ∀ post : SY → Prop, post (ob, nI n, pl, nI (nd + ch.length), sts, res, era, usd, sp, lv, ret, out, ycls, prp, lst, siz, dnd, tk, tv, opd, yrk, rn, upd op K t, upd nm K v, upd ay K (nI p), cs_ups prt (K * 3) (cs_ids nd ch.length), cs_ups ylo nd (ch.map (fun c => nI c.1)), cs_ups yhi nd (ch.map (fun c => nI c.2)), sN, sP, sX, sK, it, vr) → ∃ m, wY_split_25 post (nI K) ob (nI n) pl (nI nd) sts res era usd sp lv ret out ycls prp lst siz dnd (tk) (tv) opd yrk rn op nm ay prt ylo yhi sN sP sX sK it vr m (nI c) (nI u) (nI c) (nI j) := by
        intro i t1 i1 i2 i3 i4 H
        rcases ca_prim hA hV c2 i1 i2 i3 i4 with z | ⟨z1, z2, z3⟩
        · exact H z
        · exact post t1 z1 z2 z3
      rcases ca_rule hA (i := c) (by omega) with ⟨w, _⟩ | ⟨w, t, w', z⟩ | ⟨w, t, w', z⟩ | ⟨w, t, w', z⟩ | ⟨w, t, w', z⟩ | ⟨w, _⟩ | ⟨w, _⟩ | ⟨w, _⟩ | ⟨w, _⟩ | ⟨w, _⟩ | ⟨w, _⟩
      · omega
      · -- a leaf
        refine rest (i := c + 1) (by omega) (by omega) (by omega) w' z (fun y => ?_)
        have u1 : u - 1 = c := by omega
        refine ⟨nI (T c), tv c, c, [], ⟨hV, Or.inr (Or.inl ⟨by omega, t, rfl, rfl, rfl, rfl⟩)⟩, by show 0 + 1 ≤ u - c; omega, fun post hp => ⟨1, cs_ns hn hK v1 v2 (by omega) (by omega) (by omega) (cs_rl hn hK v1 v2 (by omega) (by rw [u1]; omega) ?_)⟩⟩
        refine cs_leaf hK280 (by omega) ?_ hp
        rcases t with t | t | t | t <;> rw [t]
        · exact Or.inl rfl
        · exact Or.inr (Or.inl rfl)
        · exact Or.inr (Or.inr (Or.inl rfl))
        · exact Or.inr (Or.inr (Or.inr rfl))
      · -- one side alone
        have cu : c + 1 ≠ u := by intro y; rw [y] at w'; omega
        have hV' : ca_V T n (c + 1) u := ⟨by omega, v2, w', v4, v5.trans z.symm, fun i a b => by rw [z]; exact v6 i (by omega) b⟩
        refine ⟨if T c = 16 then 23 else 12, tv c, c, [(c + 1, u)], ⟨hV, Or.inr (Or.inr (Or.inr (Or.inr (Or.inr (Or.inl ⟨?_, c2, rfl, rfl, rfl, hV', z⟩)))))⟩, by show 1 + 1 ≤ u - c; omega, fun post hp => ⟨1, cs_ns hn hK v1 v2 (by omega) (by omega) (by omega) (cs_rs hn hK (by omega) (by omega) ?_)⟩⟩
        · rcases t with t | t
          · exact Or.inl ⟨t, if_neg (by omega)⟩
          · exact Or.inr ⟨t, if_pos t⟩
        · exact cs_side hK280 (by omega) (fun y => absurd ((nI_eq (b := 8) (by omega) (by decide)).1 y) (by omega)) (by omega) hp
      · -- a bracket
        obtain ⟨m, m1, m2, m3, m4, m5, m6⟩ := ca_life hA (a := c + 1) (H := u) v2 z (lenne _) (by omega)
        have m7 : T m = 7 ∧ ca_Z T (m + 1) = ca_Z T c ∧ ca_W T (m + 1) = 1 := by
          rcases m6 with ⟨a, b, c', d⟩ | ⟨a, b, c', d⟩ | ⟨a, b, c', d⟩
          · exact absurd b (by show ¬ T c = 8; omega)
          · exact absurd b (by show ¬ 20 ≤ T c; omega)
          · exact ⟨a, c', d⟩
        have cm : c + 1 ≠ m := by intro y; rw [y] at w'; omega
        refine rest (i := m + 1) (by omega) (by omega) (by omega) m7.2.2 m7.2.1 (fun y => ?_)
        have um : u - 1 = m := by omega
        have hV' : ca_V T n (c + 1) (u - 1) := by
          rw [um]
          exact ⟨by omega, by omega, w', m5, m3.trans z.symm, fun i a b => by rw [z]; exact m4 i a b⟩
        obtain ⟨c', hc', HC⟩ := cy_cut hn hK hA hV'
        obtain ⟨t', v', p', ch', L1, L2, L3⟩ := ih (c + 1) (u - 1) c' (j + 1) (by omega) hV' hc' (by omega) (by omega)
        refine ⟨t', v', p', ch', ⟨hV, Or.inl ⟨t, by rw [um]; exact m7.1, by rw [um]; exact m3, z, L1⟩⟩, by omega, fun post hp => ?_⟩
        obtain ⟨mm, hmm⟩ := L3 post hp
        obtain ⟨u', rfl⟩ : ∃ u', u = u' + 1 := ⟨u - 1, by omega⟩
        rw [Nat.add_sub_cancel] at um hmm HC
        obtain ⟨q1, q2, q3⟩ := cs_tkl hn hK (l := u') (by omega)
        obtain ⟨f1, f2, f3⟩ := cs_tkl hn hK (l := c) (by omega)
        refine ⟨mm + 1, br_f (nI_ge (b := 40) (by omega) (by decide)) (br_t rfl ⟨f3, br_t (by rw [f1, t]; rfl) ?_⟩)⟩
        rw [nI_pred]
        refine ⟨q3, br_t (by rw [q1, um, m7.1]; rfl) (nm_r (nI_1 c) (nm_r (pk_m1 u') (HC _ (nm_r (nI_1 j) hmm))))⟩
      · rcases t with t | t
        · -- a call
          obtain ⟨p1, p2, p3, p4, p5, p6⟩ := ca_head hA (q := c) (by omega) (Or.inl t)
          obtain ⟨m, m1, m2, m3, m4, m5, m6⟩ := ca_life hA (a := c + 1) (H := u) v2 z (lenne _) (by omega)
          have m7 : T m = 7 ∧ ca_Z T (m + 1) = ca_Z T c ∧ ca_W T (m + 1) = 1 := by
            rcases m6 with ⟨a, b, c', d⟩ | ⟨a, b, c', d⟩ | ⟨a, b, c', d⟩
            · exact absurd b (by show ¬ T c = 8; omega)
            · exact absurd b (by show ¬ 20 ≤ T c; omega)
            · exact ⟨a, c', d⟩
          have cm : c + 1 ≠ m := by intro y; rw [y] at w'; omega
          have cm2 : c + 2 ≠ m := by intro y; rw [y] at p5; omega
          refine rest (i := m + 1) (by omega) (by omega) (by omega) m7.2.2 m7.2.1 (fun y => ?_)
          have um : u - 1 = m := by omega
          have hV' : ca_V T n (c + 2) (u - 1) := by
            rw [um]
            exact ⟨by omega, by omega, p5, m5, m3.trans p6.symm, fun i a b => by rw [p6]; exact m4 i (by omega) b⟩
          refine ⟨5, tv c, c, [(c + 2, u - 1)], ⟨hV, Or.inr (Or.inr (Or.inr (Or.inl ⟨t, p4, by rw [um]; exact m7.1, by rw [um]; exact m3, p6, rfl, rfl, rfl, rfl, hV'⟩)))⟩, by show 1 + 1 ≤ u - c; omega, fun post hp => ⟨1, cs_ns hn hK v1 v2 (by omega) (by omega) (by omega) (cs_rl hn hK v1 v2 (by omega) (by rw [um]; omega) ?_)⟩⟩
          rw [t]
          exact cs_call hK280 (by omega) rfl (by omega) (by omega) hp
        · -- a quantifier
          obtain ⟨p1, p2, p3, p4, p5, p6⟩ := ca_head hA (q := c) (by omega) (Or.inr t)
          obtain ⟨m, m1, m2, m3, m4, m5, m6⟩ := ca_life hA (a := c + 1) (H := u) v2 z (lenne _) (by omega)
          have m7 : T m = 9 ∧ ca_Z T (m + 1) = (m, c) :: ca_Z T c ∧ ca_W T (m + 1) = 0 := by
            rcases m6 with ⟨a, b, c', d⟩ | ⟨a, b, c', d⟩ | ⟨a, b, c', d⟩
            · exact absurd b (by show ¬ T c = 8; omega)
            · exact ⟨a, c', d⟩
            · exact absurd b (by show ¬ (T c = 9 ∨ T c = 6 ∨ T c = 5); omega)
          obtain ⟨e, e1, e2, e3, e4, e5, e6⟩ := ca_life hA (a := m + 1) (H := u) v2 m7.2.1 (lenne _) (by omega)
          have e7 : T e = 7 ∧ ca_Z T (e + 1) = ca_Z T c ∧ ca_W T (e + 1) = 1 := by
            rcases e6 with ⟨a, b, c', d⟩ | ⟨a, b, c', d⟩ | ⟨a, b, c', d⟩
            · exact absurd b (by show ¬ T m = 8; omega)
            · exact absurd b (by show ¬ 20 ≤ T m; omega)
            · exact ⟨a, c', d⟩
          have cm : c + 1 ≠ m := by intro y; rw [y] at w'; omega
          have cm2 : c + 2 ≠ m := by intro y; rw [y] at p5; omega
          have em : m + 1 ≠ e := by intro y; rw [y] at m7; omega
          refine rest (i := e + 1) (by omega) (by omega) (by omega) e7.2.2 e7.2.1 (fun y => ?_)
          have um : u - 1 = e := by omega
          have hV1 : ca_V T n (c + 2) m := ⟨by omega, by omega, p5, m5, m3.trans p6.symm, fun i a b => by rw [p6]; exact m4 i (by omega) b⟩
          have hV2 : ca_V T n (m + 1) (u - 1) := by
            rw [um]
            exact ⟨by omega, by omega, m7.2.2, e5, e3.trans m7.2.1.symm, fun i a b => by rw [m7.2.1]; exact e4 i a b⟩
          refine ⟨nI (T c), tv c, c, [(c + 2, m), (m + 1, u - 1)], ⟨hV, Or.inr (Or.inr (Or.inr (Or.inr (Or.inl ⟨m, t, p4, m7.1, by rw [um]; exact e7.1, m3, p6, m7.2.1, by rw [um]; exact e3, rfl, rfl, rfl, rfl, hV1, hV2⟩))))⟩, by show 2 + 1 ≤ u - c; omega, fun post hp => ⟨1, cs_ns hn hK v1 v2 (by omega) (by omega) (by omega) (cs_rl hn hK v1 v2 (by omega) (by rw [um]; omega) ?_)⟩⟩
          refine cs_qnt hK280 (by omega) hn hK hA p5 p6 (fun i a b => m4 i (by omega) b) (by omega) (by omega) m3 m5 m7.1 ?_ (by omega) (by omega) hp
          have t3 : T c = 20 ∨ T c = 21 ∨ T c = 22 := by omega
          rcases t3 with t3 | t3 | t3 <;> rw [t3]
          · exact Or.inl rfl
          · exact Or.inr (Or.inl rfl)
          · exact Or.inr (Or.inr rfl)
      all_goals omega
theorem cs_split (hn : n ≤ 40) (hK : ∀ i, i < n → tk i = nI (T i) ∧ T i < 23) (hA : ca_S T n = some (1, [])) (hK280 : K < 280) {l u : Nat} (hV : ca_V T n l u) (hnd : nd + (u - l) ≤ 281) (el : ylo K = nI l) (eu : yhi K = nI u) : ∃ (t v : Int32) (p : Nat) (ch : List (Nat × Nat)), cs_L T tv n (u - l) l u t v p ch ∧ ch.length + 1 ≤ u - l ∧ ∀ post : SY → Prop, post (ob, nI n, pl, nI (nd + ch.length), sts, res, era, usd, sp, lv, ret, out, ycls, prp, lst, siz, dnd, tk, tv, opd, yrk, rn, upd op K t, upd nm K v, upd ay K (nI p), cs_ups prt (K * 3) (cs_ids nd ch.length), cs_ups ylo nd (ch.map (fun c => nI c.1)), cs_ups yhi nd (ch.map (fun c => nI c.2)), sN, sP, sX, sK, it, vr) → wpY_split post (ob, nI n, pl, nI nd, sts, res, era, usd, sp, lv, ret, out, ycls, prp, lst, siz, dnd, tk, tv, opd, yrk, rn, op, nm, ay, prt, ylo, yhi, sN, sP, sX, sK, it, vr) (nI K) := by
  have hlu := hV.1
  have hun := hV.2.1
  obtain ⟨c, hc, HC⟩ := cy_cut hn hK hA hV
  obtain ⟨t, v, p, ch, L1, L2, L3⟩ := cs_main (nd := nd) hn hK hA hK280 (u - l - 1) l u c 0 (by omega) hV hc (by omega) hnd
  refine ⟨t, v, p, ch, by rw [show u - l - 1 + 1 = u - l by omega] at L1; exact L1, L2, fun post hp => ?_⟩
  have cK : (nI K).toNatClampNeg = K := nI_clamp (by omega)
  have iK : vp_in (nI K) 280 := vp_in_nI hK280 (by decide)
  exact ⟨iK, nm_r (e' := nI l) (by rw [cK]; exact el) ⟨iK, nm_r (e' := nI u) (by rw [cK]; exact eu) (HC _ (L3 post hp))⟩⟩
end
