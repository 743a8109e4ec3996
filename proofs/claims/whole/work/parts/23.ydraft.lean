theorem fo_ko {k o : Nat} (h : 1 ≤ k) : nI k + (nI o - 1) = nI (o + (k - 1)) := by
  obtain ⟨q, rfl⟩ : ∃ q, k = q + 1 := ⟨k - 1, by omega⟩
  rw [Nat.add_sub_cancel, ← nI_1 q, ← nI_add o q]
  generalize nI o = a
  generalize nI q = b
  grind
section
variable {ycc ydr ynd yln yal ygl yst ybl yhw yrn ywk : Int32} {yA yDk yDw yK yW yPl yRl yRc yHd yLf yRg ySz yLi ySk ySt yAr yGv yF yEn yPc yBd yWk yWw yOw yCt yOz yOp yKn : Nat → Int32}
theorem y_ops {post : Int32 → Prop} {ar : Nat → Nat} {c t : Nat} {w : Int32} (hc : c ≤ 6) (ht : fo_tk c t) (hw : t / 8 = 2 → w = nI (t % 8))
    (h : post (nI (fo_op ar t))) : wpY_operands post (ycc, ydr, ynd, yln, yal, ygl, yst, ybl, yhw, yrn, ywk, fo_n ar, yDk, yDw, yK, yW, yPl, yRl, yRc, yHd, yLf, yRg, ySz, yLi, ySk, ySt, yAr, yGv, yF, yEn, yPc, yBd, yWk, yWw, yOw, yCt, yOz, yOp, yKn) (nI (t / 8)) w := by
  have h48 := fo_tk_le ht
  refine pk_eq (t / 8) 2 (fun k2 => ?_) (fun k2 => pk_eq (t / 8) 3 (fun k3 => ?_) (fun k3 => pk_eq (t / 8) 4 (fun k4 => ?_) (fun k4 => pk_eq (t / 8) 5 (fun k5 => ?_) (fun k5 => ?_))))
  · rw [hw k2]
    unfold fo_tk at ht
    refine ⟨vp_in_nI (by omega) (by decide), ?_⟩
    rw [nI_clamp (by omega)]
    rw [fo_op2 k2] at h; exact h
  · rw [fo_op3 k3] at h; exact h
  · rw [fo_op45 (Or.inl k4)] at h; exact h
  · rw [fo_op45 (Or.inr k5)] at h; exact h
  · unfold fo_tk at ht
    rw [fo_op01 (by omega)] at h; exact h
theorem y_eo_loop {post : Int32 → Prop} {ar T : Nat → Nat} {c n : Nat} (hc : c ≤ 6) (hn : n ≤ 40) (ha : ∀ i, ar i ≤ 2)
    (hT : ∀ i, i < n → fo_tk c (T i) ∧ yDk i = nI (T i / 8) ∧ (T i / 8 = 2 → yDw i = nI (T i % 8))) {e : Nat}
    (h0 : e = 1000 → post (-1)) (h1 : e ≠ 1000 → post (nI e)) :
    ∀ d k i, i + d = n → k ≤ i + 1 → e = fe_en (fm_o ar T) d k i → wY_endOf_4 post ycc (nI n) ynd yln yal ygl yst ybl yhw yrn ywk (fo_n ar) yDk yDw yK yW yPl yRl yRc yHd yLf yRg ySz yLi ySk ySt yAr yGv yF yEn yPc yBd yWk yWw yOw yCt yOz yOp yKn (d + 1) (nI k) (nI i) := by
  intro d
  induction d with
  | zero =>
    intro k i hi hk he
    refine pk_le k 0 (fun z => ?_) (fun z => ?_)
    · have : k = 0 := by omega
      subst this
      rw [fe_en0] at he
      rw [← he]; exact h1 (by omega)
    · refine br_t (by rw [show i = n by omega]) (h0 ?_)
      obtain ⟨q, rfl⟩ : ∃ q, k = q + 1 := ⟨k - 1, by omega⟩
      exact he
  | succ d ih =>
    intro k i hi hk he
    refine pk_le k 0 (fun z => ?_) (fun z => ?_)
    · have : k = 0 := by omega
      subst this
      rw [fe_en0] at he
      rw [← he]; exact h1 (by omega)
    · obtain ⟨ht, hx, hw⟩ := hT i (by omega)
      refine pk_eq i n (fun w => by omega) (fun w => ⟨vp_in_nI (by omega) (by decide), vp_in_nI (by omega) (by decide), ?_⟩)
      rw [nI_clamp (by omega), hx]
      refine y_ops hc ht hw (nm_r (fo_ko z) (nm_r (nI_1 i) (ih _ _ (by omega) ?_ ?_)))
      · have := fo_op_le ha (T i); omega
      · obtain ⟨q, rfl⟩ : ∃ q, k = q + 1 := ⟨k - 1, by omega⟩
        exact he
theorem y_eo {post : Int32 → Prop} {ar T : Nat → Nat} {c n i : Nat} (hc : c ≤ 6) (hn : n ≤ 40) (ha : ∀ i, ar i ≤ 2) (hi : i ≤ n)
    (hT : ∀ i, i < n → fo_tk c (T i) ∧ yDk i = nI (T i / 8) ∧ (T i / 8 = 2 → yDw i = nI (T i % 8)))
    (h0 : fe_pe (fm_o ar T) n i = 1000 → post (-1)) (h1 : fe_pe (fm_o ar T) n i ≠ 1000 → post (nI (fe_pe (fm_o ar T) n i))) :
    wpY_endOf post (ycc, nI n, ynd, yln, yal, ygl, yst, ybl, yhw, yrn, ywk, fo_n ar, yDk, yDw, yK, yW, yPl, yRl, yRc, yHd, yLf, yRg, ySz, yLi, ySk, ySt, yAr, yGv, yF, yEn, yPc, yBd, yWk, yWw, yOw, yCt, yOz, yOp, yKn) (nI i) :=
  ⟨n - i + 1, y_eo_loop hc hn ha hT h0 h1 (n - i) 1 i (by omega) (by omega) rfl⟩
theorem y_vo_in {post : Int32 → Prop} {J : Int32 → Int32 → Prop} {T : Nat → Nat} {e i : Nat} {x1 x2 : Int32} (he : e ≤ 40)
    (hT : ∀ j, j < e → T j < 48 ∧ yDk j = nI (T j / 8)) (h0 : (∃ j, i ≤ j ∧ j < e ∧ T j / 8 = 1) → post (-1))
    (h1 : (∀ j, i ≤ j → j < e → T j / 8 ≠ 1) → J x2 (nI (i + 1))) :
    ∀ d j, j + d = e → i ≤ j → (∀ q, i ≤ q → q < j → T q / 8 ≠ 1) → wY_varsOf_89 post J x1 x2 (nI i) (nI e) ycc ydr ynd yln yal ygl yst ybl yhw yrn ywk yA yDk yDw yK yW yPl yRl yRc yHd yLf yRg ySz yLi ySk ySt yAr yGv yF yEn yPc yBd yWk yWw yOw yCt yOz yOp yKn (d + 1) (nI j) := by
  intro d
  induction d with
  | zero =>
    intro j hj _ h
    have : j = e := by omega
    subst this
    exact br_t (nI_le (Nat.le_refl _) (by omega)) (nm_r (nI_1 i) (h1 h))
  | succ d ih =>
    intro j hj hij h
    obtain ⟨h48, hx⟩ := hT j (by omega)
    refine br_f (nI_ge (by omega) (by omega)) ⟨vp_in_nI (by omega) (by decide), ?_⟩
    rw [nI_clamp (by omega), hx]
    refine pk_eq (T j / 8) 1 (fun k1 => h0 ⟨j, hij, by omega, k1⟩) (fun k1 => nm_r (nI_1 j) (ih (j + 1) (by omega) (by omega) ?_))
    intro q h2 h3
    by_cases e' : q = j
    · subst e'; exact k1
    · exact h q h2 (by omega)
theorem y_vo_loop {post : Int32 → Prop} {ar T : Nat → Nat} {c n e : Nat} (hc : c ≤ 6) (hn : n ≤ 40) (ha : ∀ i, ar i ≤ 2) (he : e ≤ n)
    (hT : ∀ i, i < n → fo_tk c (T i) ∧ yDk i = nI (T i / 8) ∧ ((T i / 8 = 1 ∨ T i / 8 = 2 ∨ T i / 8 = 5) → yDw i = nI (T i % 8)))
    (hpe : ∀ i, i < e → i < fe_pe (fm_o ar T) n i ∧ fe_pe (fm_o ar T) n i ≤ e)
    (h0 : fp_bad T (fe_pe (fm_o ar T) n) e → post (-1)) (h1 : ¬ fp_bad T (fe_pe (fm_o ar T) n) e → post (nI (fp_set T e))) :
    ∀ d i, i + d = e → (∀ q, q < i → T q / 8 ≠ 5 ∧ (T q / 8 = 1 → ∀ j, j < q → T j ≠ T q) ∧
        ((T q / 8 = 3 ∨ T q / 8 = 4) → ∀ j, q ≤ j → j < fe_pe (fm_o ar T) n q → T j / 8 ≠ 1)) →
      wY_varsOf_4 post (nI e) ycc (nI n) ynd yln yal ygl yst ybl yhw yrn ywk (fo_n ar) yDk yDw yK yW yPl yRl yRc yHd yLf yRg ySz yLi ySk ySt yAr yGv yF yEn yPc yBd yWk yWw yOw yCt yOz yOp yKn (d + 1) (nI (fp_set T i)) (nI i) := by
  intro d
  induction d with
  | zero =>
    intro i hi hg
    have : i = e := by omega
    subst this
    refine br_t (nI_le (Nat.le_refl _) (by omega)) (h1 ?_)
    rintro ⟨q, hq, k5 | ⟨k1, ⟨j, hj, g⟩ | ⟨j, hj, g1, g2⟩⟩⟩
    · exact (hg q hq).1 k5
    · exact (hg q hq).2.1 k1 j hj g
    · exact (hg j (by omega)).2.2 g1 q hj g2 k1
  | succ d ih =>
    intro i hi hg
    have hie : i < e := by omega
    obtain ⟨ht, hx, hw⟩ := hT i (by omega)
    have h48 := fo_tk_le ht
    have hpi := hpe i hie
    have step : (T i / 8 ≠ 5 ∧ (T i / 8 = 1 → ∀ j, j < i → T j ≠ T i) ∧ ((T i / 8 = 3 ∨ T i / 8 = 4) → ∀ j, i ≤ j → j < fe_pe (fm_o ar T) n i → T j / 8 ≠ 1)) →
        wY_varsOf_4 post (nI e) ycc (nI n) ynd yln yal ygl yst ybl yhw yrn ywk (fo_n ar) yDk yDw yK yW yPl yRl yRc yHd yLf yRg ySz yLi ySk ySt yAr yGv yF yEn yPc yBd yWk yWw yOw yCt yOz yOp yKn (d + 1) (nI (fp_set T (i + 1))) (nI (i + 1)) := by
      intro g
      refine ih (i + 1) (by omega) ?_
      intro q hq
      by_cases e' : q = i
      · subst e'; exact g
      · exact hg q (by omega)
    refine br_f (nI_ge (by omega) (by omega)) ⟨vp_in_nI (by omega) (by decide), nm_r (e' := nI (T i / 8)) (by rw [nI_clamp (by omega), hx]) ?_⟩
    refine pk_eq (T i / 8) 5 (fun k5 => h0 ⟨i, hie, Or.inl k5⟩) (fun k5 => ?_)
    have hs16 := fp_set_lt i (fun j hj => fp_v4 (hT j (by omega)).1)
    refine pk_eq (T i / 8) 1 (fun k1 => ⟨vp_in_nI (by omega) (by decide), ?_⟩) (fun k1 => br_f (fun z => k1 ((nI_eq (b := 1) (by omega) (by decide)).mp z)) ?_)
    · have v4 := fp_v4 ht k1
      have hbit := fp_set_bit v4 i (fun j hj => fp_v4 (hT j (by omega)).1)
      have hb := fp_by _ hs16 _ v4
      have hb2 := fp_bx _ hs16 _ v4
      have hs : fp_set T (i + 1) = fp_set T i ||| 2 ^ (T i % 8) := by simp only [fp_set]; rw [if_pos k1]
      rw [nI_clamp (by omega), hw (Or.inl k1)]
      refine br_c (fun w => ?_) (fun w => br_t (congrArg nI k1) ⟨vp_in_nI (by omega) (by decide), nm_r (e' := nI (fp_set T (i + 1))) ?_ ?_⟩)
      · obtain ⟨j, hj, g⟩ := hbit.mp (hb.1.mp w)
        exact h0 ⟨i, hie, Or.inr ⟨k1, Or.inl ⟨j, hj, by omega⟩⟩⟩
      · rw [nI_clamp (by omega), hw (Or.inl k1), hb2.2, hs]
      · refine pk_eq (T i / 8) 3 (fun k3 => by omega) (fun k3 => pk_eq (T i / 8) 4 (fun k4 => by omega) (fun k4 => nm_r (nI_1 i) (step ⟨k5, fun _ j hj g => ?_, fun h => by omega⟩)))
        exact w (hb.1.mpr (hbit.mpr ⟨j, hj, by omega⟩))
    · have hs : fp_set T (i + 1) = fp_set T i := by simp only [fp_set]; rw [if_neg k1]
      rw [hs] at step
      have hor : (T i / 8 = 3 ∨ T i / 8 = 4) → wY_varsOf_79 post (wY_varsOf_4 post (nI e) ycc (nI n) ynd yln yal ygl yst ybl yhw yrn ywk (fo_n ar) yDk yDw yK yW yPl yRl yRc yHd yLf yRg ySz yLi ySk ySt yAr yGv yF yEn yPc yBd yWk yWw yOw yCt yOz yOp yKn (d + 1)) (nI e) (nI (fp_set T i)) (nI i) ycc (nI n) ynd yln yal ygl yst ybl yhw yrn ywk (fo_n ar) yDk yDw yK yW yPl yRl yRc yHd yLf yRg ySz yLi ySk ySt yAr yGv yF yEn yPc yBd yWk yWw yOw yCt yOz yOp yKn := by
        intro hk
        refine y_eo (T := T) hc hn ha (by omega) (fun j hj => ⟨(hT j hj).1, (hT j hj).2.1, fun k => (hT j hj).2.2 (Or.inr (Or.inl k))⟩) (fun z => by omega) (fun z => ?_)
        refine ⟨fe_pe (fm_o ar T) n i - i + 1, y_vo_in (T := T) (by omega) (fun j hj => ⟨fo_tk_le (hT j (by omega)).1, (hT j (by omega)).2.1⟩) (fun g => ?_) (fun g => step ⟨k5, fun h => by omega, fun _ => g⟩) _ i (by omega) (Nat.le_refl _) (fun q a b => by omega)⟩
        obtain ⟨j, g1, g2, g3⟩ := g
        exact h0 ⟨j, by omega, Or.inr ⟨g3, Or.inr ⟨i, g1, hk, g2⟩⟩⟩
      exact pk_eq (T i / 8) 3 (fun k3 => hor (Or.inl k3)) (fun k3 => pk_eq (T i / 8) 4 (fun k4 => hor (Or.inr k4)) (fun k4 => nm_r (nI_1 i) (step ⟨k5, fun h => absurd h k1, fun h => by omega⟩)))
theorem y_vo {post : Int32 → Prop} {ar T : Nat → Nat} {c n e : Nat} (hc : c ≤ 6) (hn : n ≤ 40) (ha : ∀ i, ar i ≤ 2) (he : e ≤ n)
    (hT : ∀ i, i < n → fo_tk c (T i) ∧ yDk i = nI (T i / 8) ∧ ((T i / 8 = 1 ∨ T i / 8 = 2 ∨ T i / 8 = 5) → yDw i = nI (T i % 8)))
    (hpe : ∀ i, i < e → i < fe_pe (fm_o ar T) n i ∧ fe_pe (fm_o ar T) n i ≤ e)
    (h0 : fp_bad T (fe_pe (fm_o ar T) n) e → post (-1)) (h1 : ¬ fp_bad T (fe_pe (fm_o ar T) n) e → post (nI (fp_set T e))) :
    wpY_varsOf post (ycc, nI n, ynd, yln, yal, ygl, yst, ybl, yhw, yrn, ywk, fo_n ar, yDk, yDw, yK, yW, yPl, yRl, yRc, yHd, yLf, yRg, ySz, yLi, ySk, ySt, yAr, yGv, yF, yEn, yPc, yBd, yWk, yWw, yOw, yCt, yOz, yOp, yKn) (nI e) :=
  ⟨e + 1, y_vo_loop hc hn ha he hT hpe h0 h1 e 0 (by omega) (fun q hq => by omega)⟩
theorem y_ir_loop {post : Int32 → Prop} {T : Nat → Nat} {c n s fr : Nat} (hn : n ≤ 40) (hs : s < 16)
    (hT : ∀ i, i < n → fo_tk c (T i) ∧ yDk i = nI (T i / 8) ∧ ((T i / 8 = 1 ∨ T i / 8 = 2 ∨ T i / 8 = 5) → yDw i = nI (T i % 8)))
    (h0 : ¬ fp_res T s fr n → post 0) (h1 : fp_res T s fr n → post 1) :
    ∀ d i, i + d = n → fr ≤ i → fp_res T s fr i → wY_isResult_2 post (nI s) ycc (nI n) ynd yln yal ygl yst ybl yhw yrn ywk yA yDk yDw yK yW yPl yRl yRc yHd yLf yRg ySz yLi ySk ySt yAr yGv yF yEn yPc yBd yWk yWw yOw yCt yOz yOp yKn (d + 1) (nI i) := by
  intro d
  induction d with
  | zero =>
    intro i hi _ hr
    have : i = n := by omega
    subst this
    exact br_t (nI_le (Nat.le_refl _) (by omega)) (h1 hr)
  | succ d ih =>
    intro i hi hf hr
    obtain ⟨ht, hx, hw⟩ := hT i (by omega)
    have h48 := fo_tk_le ht
    have no : ¬ ((T i / 8 = 1 ∧ s.testBit (T i % 8) = true) ∨ T i / 8 = 2 ∨ T i / 8 = 5) → post 0 :=
      fun z => h0 (fun g => z (g i hf (by omega)))
    have yes : ((T i / 8 = 1 ∧ s.testBit (T i % 8) = true) ∨ T i / 8 = 2 ∨ T i / 8 = 5) → wY_isResult_2 post (nI s) ycc (nI n) ynd yln yal ygl yst ybl yhw yrn ywk yA yDk yDw yK yW yPl yRl yRc yHd yLf yRg ySz yLi ySk ySt yAr yGv yF yEn yPc yBd yWk yWw yOw yCt yOz yOp yKn (d + 1) (nI (i + 1)) := by
      intro g
      refine ih (i + 1) (by omega) (by omega) ?_
      intro j h2 h3
      by_cases e : j = i
      · subst e; exact g
      · exact hr j h2 (by omega)
    refine br_f (nI_ge (by omega) (by omega)) ⟨vp_in_nI (by omega) (by decide), nm_r (e' := nI (T i / 8)) (by rw [nI_clamp (by omega), hx]) ?_⟩
    refine pk_eq (T i / 8) 0 (fun k => no (by omega)) (fun k0 => pk_eq (T i / 8) 3 (fun k => no (by omega)) (fun k3 => pk_eq (T i / 8) 4 (fun k => no (by omega)) (fun k4 =>
      pk_eq (T i / 8) 1 (fun k1 => ⟨vp_in_nI (by omega) (by decide), ?_⟩) (fun k1 => nm_r (nI_1 i) (yes (by unfold fo_tk at ht; omega))))))
    rw [nI_clamp (by omega), hw (Or.inl k1)]
    have hb := fp_by s hs _ (fp_v4 ht k1)
    refine br_c (fun w => no ?_) (fun w => nm_r (nI_1 i) (yes (Or.inl ⟨k1, ?_⟩)))
    · rw [hb.2.mp w]
      rintro (⟨_, g⟩ | g | g)
      · cases g
      · omega
      · omega
    · cases hz : s.testBit (T i % 8) with
      | true => rfl
      | false => exact absurd (hb.2.mpr hz) w
theorem y_ir {post : Int32 → Prop} {T : Nat → Nat} {c n s fr : Nat} (hn : n ≤ 40) (hs : s < 16) (hf : fr ≤ n)
    (hT : ∀ i, i < n → fo_tk c (T i) ∧ yDk i = nI (T i / 8) ∧ ((T i / 8 = 1 ∨ T i / 8 = 2 ∨ T i / 8 = 5) → yDw i = nI (T i % 8)))
    (h0 : ¬ fp_res T s fr n → post 0) (h1 : fp_res T s fr n → post 1) : wpY_isResult post (ycc, nI n, ynd, yln, yal, ygl, yst, ybl, yhw, yrn, ywk, yA, yDk, yDw, yK, yW, yPl, yRl, yRc, yHd, yLf, yRg, ySz, yLi, ySk, ySt, yAr, yGv, yF, yEn, yPc, yBd, yWk, yWw, yOw, yCt, yOz, yOp, yKn) (nI fr) (nI s) :=
  ⟨n - fr + 1, y_ir_loop hn hs hT h0 h1 (n - fr) fr (by omega) (Nat.le_refl _) (fun i a b => by omega)⟩
end
