/-- a row's pattern, as the reference holds it -/
def fy_pat (ar : Nat → Nat) (c : Nat) (yk yw : Nat → Int32) (T : Nat → Nat) (n r : Nat) : Prop :=
  n ≤ 12 ∧ fe_full (fm_o ar T) n ∧ ∀ j, j < n → fo_tk c (T j) ∧ T j / 8 < 5 ∧ yk (24 * r + j) = nI (T j / 8) ∧ ((T j / 8 = 1 ∨ T j / 8 = 2) → yw (24 * r + j) = nI (T j % 8))
theorem fy_pat_of {ar : Nat → Nat} {c : Nat} {xp xe xo xl yk yw : Nat → Int32} {T : Nat → Nat} {n : Nat} {pre pos : List Nat} {r : Nat}
    (h : fR_row ar c xp xe xo xl yk yw T n pre pos r) : fy_pat ar c yk yw T n r :=
  ⟨h.1, h.2.1, fun j hj => ⟨(h.2.2.1 j hj).1, (h.2.2.1 j hj).2.1, (h.2.2.1 j hj).2.2.2.2.1, (h.2.2.1 j hj).2.2.2.2.2⟩⟩
section
variable {ycc ydr ynd yln yal ygl yst ybl yhw yrn ywk : Int32} {yA yDk yDw yK yW yPl yRl yRc yHd yLf yRg ySz yLi ySk ySt yAr yGv yF yEn yPc yBd yWk yWw yOw yCt yOz yOp yKn : Nat → Int32}
theorem y_pe_loop {post : Int32 → Prop} {ar T : Nat → Nat} {c n r e : Nat} (hc : c ≤ 6) (ha : ∀ i, ar i ≤ 2) (hr : r < 20) (hP : fy_pat ar c yK yW T n r) (he : e ≤ n)
    (h : post (nI (24 * r + e))) : ∀ d k i, i + d = n → k ≤ i + 1 → e = fe_en (fm_o ar T) d k i → wY_partEnd_4 post ycc ydr ynd yln yal ygl yst ybl yhw yrn ywk (fo_n ar) yDk yDw yK yW yPl yRl yRc yHd yLf yRg ySz yLi ySk ySt yAr yGv yF yEn yPc yBd yWk yWw yOw yCt yOz yOp yKn (d + 1) (nI k) (nI (24 * r + i)) := by
  obtain ⟨hn, fT, hP⟩ := hP
  intro d
  induction d with
  | zero =>
    intro k i hi hk h1
    refine pk_le k 0 (fun z => ?_) (fun z => ?_)
    · have : k = 0 := by omega
      subst this
      rw [fe_en0] at h1
      rw [← h1]; exact h
    · obtain ⟨q, rfl⟩ : ∃ q, k = q + 1 := ⟨k - 1, by omega⟩
      rw [fe_enz] at h1
      omega
  | succ d ih =>
    intro k i hi hk h1
    refine pk_le k 0 (fun z => ?_) (fun z => ?_)
    · have : k = 0 := by omega
      subst this
      rw [fe_en0] at h1
      rw [← h1]; exact h
    · obtain ⟨t1, t2, t3, t4⟩ := hP i (by omega)
      refine ⟨vp_in_nI (by omega) (by decide), vp_in_nI (by omega) (by decide), ?_⟩
      rw [nI_clamp (by omega), t3]
      refine y_ops hc t1 (fun k2 => t4 (Or.inr k2)) (nm_r (fo_ko z) (nm_r (nI_1 _) (ih _ (i + 1) (by omega) ?_ ?_)))
      · have := fo_op_le ha (T i); omega
      · obtain ⟨q, rfl⟩ : ∃ q, k = q + 1 := ⟨k - 1, by omega⟩
        exact h1
theorem y_pe {post : Int32 → Prop} {ar T : Nat → Nat} {c n r i : Nat} (hc : c ≤ 6) (ha : ∀ i, ar i ≤ 2) (hr : r < 20) (hP : fy_pat ar c yK yW T n r) (hi : i < n)
    (h : post (nI (24 * r + fe_pe (fm_o ar T) n i))) : wpY_partEnd post (ycc, ydr, ynd, yln, yal, ygl, yst, ybl, yhw, yrn, ywk, fo_n ar, yDk, yDw, yK, yW, yPl, yRl, yRc, yHd, yLf, yRg, ySz, yLi, ySk, ySt, yAr, yGv, yF, yEn, yPc, yBd, yWk, yWw, yOw, yCt, yOz, yOp, yKn) (nI (24 * r + i)) :=
  ⟨n - i + 1, y_pe_loop hc ha hr hP (fe_full_e hP.2.1 hi).2 h (n - i) 1 i (by omega) (by omega) rfl⟩
theorem y_ms_in {post : SY → Prop} {ar S : Nat → Nat} {c m i : Nat} (hc : c ≤ 6) (hi : i < m) (hm : m ≤ 40) (ha : ∀ i, ar i ≤ 2) (hf : fe_full (fm_v ar S) m) (hS : S i < c ∧ yLi i = nI (S i))
    {J : Int32 → (Nat → Int32) → (Nat → Int32) → (Nat → Int32) → (Nat → Int32) → (Nat → Int32) → (Nat → Int32) → (Nat → Int32) → (Nat → Int32) → (Nat → Int32) → (Nat → Int32) → (Nat → Int32) → (Nat → Int32) → (Nat → Int32) → (Nat → Int32) → (Nat → Int32) → (Nat → Int32) → (Nat → Int32) → (Nat → Int32) → (Nat → Int32) → (Nat → Int32) → (Nat → Int32) → (Nat → Int32) → (Nat → Int32) → (Nat → Int32) → (Nat → Int32) → (Nat → Int32) → (Nat → Int32) → (Nat → Int32) → Prop} (hD : ∀ j, i < j → j < m → yEn j = nI (fe_pe (fm_v ar S) m j))
    (hJ : J (nI i + (-1)) (fo_n ar) yDk yDw yK yW yPl yRl yRc yHd yLf yRg ySz yLi ySk ySt yAr yGv yF (upd yEn i (nI (fe_pe (fm_v ar S) m i))) yPc yBd yWk yWw yOw yCt yOz yOp yKn) :
    ∀ d k e, k + d = fm_v ar S i → e = fe_en (fm_v ar S) (m - (i + 1)) k (i + 1) →
      wY_measure_17 post J (nI i) ycc ydr ynd (nI m) yal ygl yst ybl yhw yrn ywk (fo_n ar) yDk yDw yK yW yPl yRl yRc yHd yLf yRg ySz yLi ySk ySt yAr yGv yF yEn yPc yBd yWk yWw yOw yCt yOz yOp yKn (d + 1) (nI e) (nI k) := by
  have ho : fm_v ar S i ≤ 2 := ha _
  have ei := fe_full_e hf hi
  intro d
  induction d with
  | zero =>
    intro k e hk he
    refine ⟨vp_in_nI (by omega) (by decide), ?_⟩
    rw [nI_clamp (by omega), hS.2, nI_clamp (by omega)]
    refine ⟨vp_in_nI (by omega) (by decide), br_t (nI_le (a := fm_v ar S i) (by omega) (by omega)) ⟨vp_in_nI (by omega) (by decide), nm_r ?_ (nm_e hJ)⟩⟩
    rw [he, fe_pe_def _ hi, show k = fm_v ar S i by omega]
  | succ d ih =>
    intro k e hk he
    have hs := fe_pe_snoc (fm_v ar S) hi (by omega) k
    have hin := fe_pe_in (fm_v ar S) hi ei.2 hf.2.1 (k := k) (by omega)
    rw [← he] at hin hs
    rw [if_pos hin.2] at hs
    refine ⟨vp_in_nI (by omega) (by decide), ?_⟩
    rw [nI_clamp (by omega), hS.2, nI_clamp (by omega)]
    refine ⟨vp_in_nI (by omega) (by decide), br_f (nI_ge (b := fm_v ar S i) (by omega) (by omega)) ⟨vp_in_nI (by omega) (by decide), nm_r (e' := nI (fe_pe (fm_v ar S) m e)) ?_ (nm_r (nI_1 k) (ih (k + 1) _ (by omega) hs.symm))⟩⟩
    rw [nI_clamp (by omega), hD e (by omega) (by omega)]
theorem y_ms_out {post : SY → Prop} {ar S : Nat → Nat} {c m : Nat} (hc : c ≤ 6) (hm : m ≤ 40) (ha : ∀ i, ar i ≤ 2) (hf : fe_full (fm_v ar S) m)
    (hS : ∀ i, i < m → S i < c ∧ yLi i = nI (S i)) (hp : ∀ D, fx_sub ar c m S yLi D → post (ycc, ydr, ynd, nI m, yal, ygl, yst, ybl, yhw, yrn, ywk, fo_n ar, yDk, yDw, yK, yW, yPl, yRl, yRc, yHd, yLf, yRg, ySz, yLi, ySk, ySt, yAr, yGv, yF, D, yPc, yBd, yWk, yWw, yOw, yCt, yOz, yOp, yKn)) :
    ∀ i D, i ≤ m → (∀ j, i ≤ j → j < m → D j = nI (fe_pe (fm_v ar S) m j)) → wY_measure_7 post ycc ydr ynd (nI m) yal ygl yst ybl yhw yrn ywk (i + 1) (nI i + (-1)) (fo_n ar) yDk yDw yK yW yPl yRl yRc yHd yLf yRg ySz yLi ySk ySt yAr yGv yF D yPc yBd yWk yWw yOw yCt yOz yOp yKn := by
  intro i
  induction i with
  | zero => intro D _ h; exact br_t (by decide) (hp D ⟨hm, hf, fun j hj => ⟨(hS j hj).1, (hS j hj).2, h j (by omega) hj⟩⟩)
  | succ k ih =>
    intro D hk h
    rw [pk_m1]
    refine br_f (nI_pos (by omega)) (nm_r (nI_1 k) ⟨_, y_ms_in hc (by omega) hm ha hf (hS k (by omega)) (fun j h1 h2 => h j (by omega) h2) (ih _ (by omega) ?_) _ 0 (k + 1) (Nat.zero_add _) (by rw [fe_en0])⟩)
    intro j h1 h2
    by_cases e : j = k
    · subst e; exact pk_us
    · rw [pk_un e]; exact h j (by omega) h2
theorem y_ms {post : SY → Prop} {ar S : Nat → Nat} {c m : Nat} (hc : c ≤ 6) (hm : m ≤ 40) (ha : ∀ i, ar i ≤ 2) (hf : fe_full (fm_v ar S) m)
    (hS : ∀ i, i < m → S i < c ∧ yLi i = nI (S i)) (hp : ∀ D, fx_sub ar c m S yLi D → post (ycc, ydr, ynd, nI m, yal, ygl, yst, ybl, yhw, yrn, ywk, fo_n ar, yDk, yDw, yK, yW, yPl, yRl, yRc, yHd, yLf, yRg, ySz, yLi, ySk, ySt, yAr, yGv, yF, D, yPc, yBd, yWk, yWw, yOw, yCt, yOz, yOp, yKn)) :
    wpY_measure post (ycc, ydr, ynd, nI m, yal, ygl, yst, ybl, yhw, yrn, ywk, fo_n ar, yDk, yDw, yK, yW, yPl, yRl, yRc, yHd, yLf, yRg, ySz, yLi, ySk, ySt, yAr, yGv, yF, yEn, yPc, yBd, yWk, yWw, yOw, yCt, yOz, yOp, yKn) :=
  nm_r (e' := nI m + (-1)) (Int32.sub_eq_add_neg _ _) ⟨_, y_ms_out hc hm ha hf hS hp m yEn (Nat.le_refl _) (fun j h1 h2 => by omega)⟩
theorem y_c243 {post : Int32 → SY → Prop} {J14 J70 : Int32 → (Nat → Int32) → (Nat → Int32) → (Nat → Int32) → (Nat → Int32) → (Nat → Int32) → (Nat → Int32) → (Nat → Int32) → (Nat → Int32) → (Nat → Int32) → (Nat → Int32) → (Nat → Int32) → (Nat → Int32) → (Nat → Int32) → (Nat → Int32) → (Nat → Int32) → (Nat → Int32) → (Nat → Int32) → (Nat → Int32) → (Nat → Int32) → (Nat → Int32) → (Nat → Int32) → (Nat → Int32) → (Nat → Int32) → (Nat → Int32) → (Nat → Int32) → (Nat → Int32) → (Nat → Int32) → (Nat → Int32) → Prop} {x2 x4 x5 x6 : Int32} {i p : Nat} {b : Bool} (hi : i < 12) (hp : p < 40)
    (hJ : J70 (nI (p + 1)) yA yDk yDw yK yW yPl yRl yRc yHd yLf yRg ySz yLi ySk ySt yAr yGv (upd yF (40 * i + p) (fo_b b)) yEn yPc yBd yWk yWw yOw yCt yOz yOp yKn) : wY_matches_243 post J14 J70 x2 (nI i) x4 x5 x6 (nI p) (fo_b b) ycc ydr ynd yln yal ygl yst ybl yhw yrn ywk yA yDk yDw yK yW yPl yRl yRc yHd yLf yRg ySz yLi ySk ySt yAr yGv yF yEn yPc yBd yWk yWw yOw yCt yOz yOp yKn := by
  refine ⟨by rw [fo_40m, nI_add]; exact vp_in_nI (by omega) (by decide), nm_r ?_ (nm_r (nI_1 p) hJ)⟩
  rw [fo_40m, nI_add, nI_clamp (by omega), fo_bv]
/-- a part of a pattern against a part of the list -/
theorem y_cell {post : Int32 → SY → Prop} {J14 J70 : Int32 → (Nat → Int32) → (Nat → Int32) → (Nat → Int32) → (Nat → Int32) → (Nat → Int32) → (Nat → Int32) → (Nat → Int32) → (Nat → Int32) → (Nat → Int32) → (Nat → Int32) → (Nat → Int32) → (Nat → Int32) → (Nat → Int32) → (Nat → Int32) → (Nat → Int32) → (Nat → Int32) → (Nat → Int32) → (Nat → Int32) → (Nat → Int32) → (Nat → Int32) → (Nat → Int32) → (Nat → Int32) → (Nat → Int32) → (Nat → Int32) → (Nat → Int32) → (Nat → Int32) → (Nat → Int32) → (Nat → Int32) → Prop} {ar S T : Nat → Nat} {c m n r i p : Nat} {x6 : Int32} (hc : c ≤ 6) (ha : ∀ i, ar i ≤ 2) (hr : r < 20)
    (hS : fx_sub ar c m S yLi yEn) (hP : fy_pat ar c yK yW T n r) (hi : i < n) (hp : p < m) (h6 : fo_op ar (T i) = 2 → x6 = nI (fe_pe (fm_o ar T) n (i + 1)))
    (hF : ∀ i' p', i < i' → i' < n → p' < m → yF (40 * i' + p') = fo_b (fm_F ar T n S m i' p'))
    (hJ : J70 (nI (p + 1)) (fo_n ar) yDk yDw yK yW yPl yRl yRc yHd yLf yRg ySz yLi ySk ySt yAr yGv (upd yF (40 * i + p) (fo_b (fm_F ar T n S m i p))) yEn yPc yBd yWk yWw yOw yCt yOz yOp yKn) :
    ((nI (T i / 8) = 3 → (vp_in ((40 * (nI i + 1)) + nI p) 480 ∧ (((yF ((40 * (nI i + 1)) + nI p).toNatClampNeg = 0 → (vp_in ((40 * x6) + nI p) 480 ∧ (((yF ((40 * x6) + nI p).toNatClampNeg = 0 → (wY_matches_126 post J14 J70 (nI (24 * r)) (nI i) (nI (T i / 8)) (nI (fo_op ar (T i))) x6 (nI p) 0 ycc ydr ynd yln yal ygl yst ybl yhw yrn ywk (fo_n ar) yDk yDw yK yW yPl yRl yRc yHd yLf yRg ySz yLi ySk ySt yAr yGv yF yEn yPc yBd yWk yWw yOw yCt yOz yOp yKn)) ∧ (¬ yF ((40 * x6) + nI p).toNatClampNeg = 0 → (wY_matches_121 post J14 J70 (nI (24 * r)) (nI i) (nI (T i / 8)) (nI (fo_op ar (T i))) x6 (nI p) ycc ydr ynd yln yal ygl yst ybl yhw yrn ywk (fo_n ar) yDk yDw yK yW yPl yRl yRc yHd yLf yRg ySz yLi ySk ySt yAr yGv yF yEn yPc yBd yWk yWw yOw yCt yOz yOp yKn)))))) ∧ (¬ yF ((40 * (nI i + 1)) + nI p).toNatClampNeg = 0 → (wY_matches_121 post J14 J70 (nI (24 * r)) (nI i) (nI (T i / 8)) (nI (fo_op ar (T i))) x6 (nI p) ycc ydr ynd yln yal ygl yst ybl yhw yrn ywk (fo_n ar) yDk yDw yK yW yPl yRl yRc yHd yLf yRg ySz yLi ySk ySt yAr yGv yF yEn yPc yBd yWk yWw yOw yCt yOz yOp yKn)))))) ∧
     (¬ nI (T i / 8) = 3 → (wY_matches_128 post J14 J70 (nI (24 * r)) (nI i) (nI (T i / 8)) (nI (fo_op ar (T i))) x6 (nI p) 1 ycc ydr ynd yln yal ygl yst ybl yhw yrn ywk (fo_n ar) yDk yDw yK yW yPl yRl yRc yHd yLf yRg ySz yLi ySk ySt yAr yGv yF yEn yPc yBd yWk yWw yOw yCt yOz yOp yKn))) := by
  obtain ⟨hm, fS, hS⟩ := hS
  obtain ⟨hn, fT, hP⟩ := hP
  obtain ⟨t1, t2, t3, t4⟩ := hP i hi
  have h48 := fo_tk_le t1
  have hv := fm_un fT S m hi p
  have ei := fe_full_e fT hi
  have lk : ∀ (i' p' : Nat), i < i' → i' < n → p' < m → yF (nI (40 * i') + nI p').toNatClampNeg = fo_b (fm_F ar T n S m i' p') ∧ vp_in (nI (40 * i') + nI p') 480 := by
    intro i' p' h1 h2 h3
    rw [nI_add]
    exact ⟨by rw [nI_clamp (by omega)]; exact hF i' p' h1 h2 h3, vp_in_nI (by omega) (by decide)⟩
  have e1 : 40 * (nI i + 1) = nI (40 * (i + 1)) := by rw [nI_1, fo_40m]
  have put : ∀ b : Bool, fm_F ar T n S m i p = b → wY_matches_243 post J14 J70 (nI (24 * r)) (nI i) (nI (T i / 8)) (nI (fo_op ar (T i))) x6 (nI p) (fo_b b) ycc ydr ynd yln yal ygl yst ybl yhw yrn ywk (fo_n ar) yDk yDw yK yW yPl yRl yRc yHd yLf yRg ySz yLi ySk ySt yAr yGv yF yEn yPc yBd yWk yWw yOw yCt yOz yOp yKn := by
    intro b hb
    rw [hb] at hJ
    exact y_c243 (by omega) (by omega) hJ
  rw [e1]
  refine pk_eq (T i / 8) 3 (fun k3 => ?_) (fun k3 => ?_)
  · rw [if_pos k3] at hv
    have eo : fm_o ar T i = 2 := fo_op3 k3
    obtain ⟨c0, c1, c2, _, _⟩ := fe_pe_c2 _ hi ei.2 fT.2.1 eo
    obtain ⟨l1, l2⟩ := lk (i + 1) p (by omega) c0 hp
    obtain ⟨l3, l4⟩ := lk (fe_pe (fm_o ar T) n (i + 1)) p (by omega) c2 hp
    have n4 : ¬ nI (T i / 8) = 4 := fun z => by have := (nI_eq (b := 4) (by omega) (by decide)).mp z; omega
    have n2 : ¬ nI (T i / 8) = 2 := fun z => by have := (nI_eq (b := 2) (by omega) (by decide)).mp z; omega
    rw [l1, h6 eo, fo_40m, l3]
    rw [h6 eo] at put
    refine ⟨l2, fo_br (fun b => ⟨l4, fo_br (fun b2 => br_f n4 (br_f n2 (put false ?_))) (fun b2 => br_f n4 (br_f n2 (put true ?_)))⟩) (fun b => br_f n4 (br_f n2 (put true ?_)))⟩
    · rw [hv]; simp [b, b2]
    · rw [hv]; simp [b2]
    · rw [hv]; simp [b]
  · rw [if_neg k3] at hv
    refine pk_eq (T i / 8) 4 (fun k4 => ?_) (fun k4 => ?_)
    · rw [if_pos k4] at hv
      have eo : fm_o ar T i = 1 := fo_op45 (Or.inl k4)
      obtain ⟨c0, _⟩ := fe_pe_c1 _ hi ei.2 fT.2.1 eo
      obtain ⟨l1, l2⟩ := lk (i + 1) p (by omega) c0 hp
      have n2 : ¬ nI (T i / 8) = 2 := fun z => by have := (nI_eq (b := 2) (by omega) (by decide)).mp z; omega
      rw [e1, l1]
      refine ⟨l2, fo_br (fun b => br_f n2 (put true ?_)) (fun b => br_f n2 (put false ?_))⟩
      · rw [hv]; simp [b]
      · rw [hv]; simp [b]
    · rw [if_neg k4] at hv
      refine pk_eq (T i / 8) 2 (fun k2 => ?_) (fun k2 => put true (by rw [hv, if_neg k2]))
      rw [if_pos k2] at hv
      obtain ⟨s1, s2, s3⟩ := hS p hp
      have eo : fo_op ar (T i) = ar (T i % 8) := fo_op2 k2
      have h2 := ha (T i % 8)
      refine ⟨vp_in_nI (by omega) (by decide), by rw [nI_add]; exact vp_in_nI (by omega) (by decide), ?_⟩
      rw [nI_add, nI_clamp (by omega), nI_clamp (by omega), s2, t4 (Or.inr k2), eo]
      rw [eo] at put
      refine pk_eq (S p) (T i % 8) (fun z1 => ?_) (fun z1 => put false (by rw [hv]; simp [z1]))
      have ev : fm_v ar S p = ar (T i % 8) := by show ar (S p) = _; rw [z1]
      have ep := fe_full_e fS hp
      have last : (ar (T i % 8) < 1 ∨ fm_F ar T n S m (i + 1) (p + 1) = true) → wY_matches_207 post J14 J70 (nI (24 * r)) (nI i) (nI (T i / 8)) (nI (ar (T i % 8))) x6 (nI p) ycc ydr ynd yln yal ygl yst ybl yhw yrn ywk (fo_n ar) yDk yDw yK yW yPl yRl yRc yHd yLf yRg ySz yLi ySk ySt yAr yGv yF yEn yPc yBd yWk yWw yOw yCt yOz yOp yKn := by
        intro hb
        refine pk_lt (ar (T i % 8)) 2 (fun a2 => put true ?_) (fun a2 => ?_)
        · rw [hv]; simp only [z1, a2, decide_true, Bool.true_and, Bool.true_or, Bool.and_true, Bool.or_eq_true, decide_eq_true_eq]; exact hb
        · have a2' : ar (T i % 8) = 2 := by omega
          obtain ⟨_, c1, c2, _, _⟩ := fe_pe_c2 _ hi ei.2 fT.2.1 (show fm_o ar T i = 2 from eo.trans a2')
          obtain ⟨d0, d1, d2, _, _⟩ := fe_pe_c2 _ hp ep.2 fS.2.1 (ev.trans a2')
          obtain ⟨l3, l4⟩ := lk (fe_pe (fm_o ar T) n (i + 1)) (fe_pe (fm_v ar S) m (p + 1)) (by omega) c2 d2
          have e2 : yEn (nI p + 1).toNatClampNeg = nI (fe_pe (fm_v ar S) m (p + 1)) := by rw [nI_1, nI_clamp (by omega), (hS (p + 1) d0).2.2]
          refine ⟨by rw [nI_1]; exact vp_in_nI (by omega) (by decide), ?_⟩
          rw [h6 (eo.trans a2'), fo_40m, e2, l3]
          rw [h6 (eo.trans a2')] at put
          have hb' := hb.resolve_left (by omega)
          refine ⟨l4, fo_br (fun b2 => put false ?_) (fun b2 => put true ?_)⟩
          · rw [hv]; simp [b2, a2']
          · rw [hv]; simp [b2, hb', z1]
      refine pk_lt (ar (T i % 8)) 1 (fun a1 => last (Or.inl a1)) (fun a1 => ?_)
      have i1 : i + 1 < n ∧ p + 1 < m := by
        have eo' : fm_o ar T i = ar (T i % 8) := eo
        by_cases a2 : ar (T i % 8) = 1
        · exact ⟨(fe_pe_c1 _ hi ei.2 fT.2.1 (eo'.trans a2)).1, (fe_pe_c1 _ hp ep.2 fS.2.1 (ev.trans a2)).1⟩
        · exact ⟨(fe_pe_c2 _ hi ei.2 fT.2.1 (eo'.trans (by omega))).1, (fe_pe_c2 _ hp ep.2 fS.2.1 (ev.trans (by omega))).1⟩
      obtain ⟨l1, l2⟩ := lk (i + 1) (p + 1) (by omega) i1.1 i1.2
      have e3 : ((40 * (nI i + 1)) + nI p) + 1 = nI (40 * (i + 1)) + nI (p + 1) := by rw [e1, nI_add, nI_1, nI_add, Nat.add_assoc]
      rw [e3, l1]
      refine ⟨l2, fo_br (fun b => put false ?_) (fun b => last (Or.inr b))⟩
      rw [hv]
      have : ¬ ar (T i % 8) < 1 := by omega
      simp [b, this]
theorem y_mt_in {post : Int32 → SY → Prop} {ar S T : Nat → Nat} {c m n r i : Nat} {x6 : Int32} (hc : c ≤ 6) (ha : ∀ i, ar i ≤ 2) (hr : r < 20)
    (hS : fx_sub ar c m S yLi yEn) (hP : fy_pat ar c yK yW T n r) (hi : i < n) (h6 : fo_op ar (T i) = 2 → x6 = nI (fe_pe (fm_o ar T) n (i + 1)))
    {J : Int32 → (Nat → Int32) → (Nat → Int32) → (Nat → Int32) → (Nat → Int32) → (Nat → Int32) → (Nat → Int32) → (Nat → Int32) → (Nat → Int32) → (Nat → Int32) → (Nat → Int32) → (Nat → Int32) → (Nat → Int32) → (Nat → Int32) → (Nat → Int32) → (Nat → Int32) → (Nat → Int32) → (Nat → Int32) → (Nat → Int32) → (Nat → Int32) → (Nat → Int32) → (Nat → Int32) → (Nat → Int32) → (Nat → Int32) → (Nat → Int32) → (Nat → Int32) → (Nat → Int32) → (Nat → Int32) → (Nat → Int32) → Prop} (hJ : ∀ F, (∀ i' p', i ≤ i' → i' < n → p' < m → F (40 * i' + p') = fo_b (fm_F ar T n S m i' p')) → J (nI i + (-1)) (fo_n ar) yDk yDw yK yW yPl yRl yRc yHd yLf yRg ySz yLi ySk ySt yAr yGv F yEn yPc yBd yWk yWw yOw yCt yOz yOp yKn) :
    ∀ d p F, p + d = m → (∀ i' p', i < i' → i' < n → p' < m → F (40 * i' + p') = fo_b (fm_F ar T n S m i' p')) → (∀ p', p' < p → F (40 * i + p') = fo_b (fm_F ar T n S m i p')) →
      wY_matches_70 post J (nI (24 * r)) (nI i) (nI (T i / 8)) (nI (fo_op ar (T i))) x6 ycc ydr ynd (nI m) yal ygl yst ybl yhw yrn ywk (d + 1) (nI p) (fo_n ar) yDk yDw yK yW yPl yRl yRc yHd yLf yRg ySz yLi ySk ySt yAr yGv F yEn yPc yBd yWk yWw yOw yCt yOz yOp yKn := by
  have hm := hS.1
  have hn := hP.1
  intro d
  induction d with
  | zero =>
    intro p F hp h1 h2
    refine br_t (nI_le (by omega) (by omega)) (nm_e (hJ F (fun i' p' a b d => ?_)))
    by_cases e : i' = i
    · subst e; exact h2 p' (by omega)
    · exact h1 i' p' (by omega) b d
  | succ d ih =>
    intro p F hp h1 h2
    refine br_f (nI_ge (by omega) (by omega)) (y_cell hc ha hr hS hP hi (by omega) h6 h1 (ih (p + 1) _ (by omega) ?_ ?_))
    · intro i' p' a b d
      rw [pk_un (by omega)]; exact h1 i' p' a b d
    · intro p' a
      by_cases e : p' = p
      · subst e; exact pk_us
      · rw [pk_un (by omega)]; exact h2 p' (by omega)
theorem y_mt_out {post : Int32 → SY → Prop} {ar S T : Nat → Nat} {c m n r : Nat} (hc : c ≤ 6) (ha : ∀ i, ar i ≤ 2) (hr : r < 20)
    (hS : fx_sub ar c m S yLi yEn) (hP : fy_pat ar c yK yW T n r) (hp : ∀ F, post (fo_b (fm_F ar T n S m 0 0)) (ycc, ydr, ynd, nI m, yal, ygl, yst, ybl, yhw, yrn, ywk, fo_n ar, yDk, yDw, yK, yW, yPl, yRl, yRc, yHd, yLf, yRg, ySz, yLi, ySk, ySt, yAr, yGv, F, yEn, yPc, yBd, yWk, yWw, yOw, yCt, yOz, yOp, yKn)) :
    ∀ i F, i ≤ n → (∀ i' p', i ≤ i' → i' < n → p' < m → F (40 * i' + p') = fo_b (fm_F ar T n S m i' p')) →
      wY_matches_14 post (nI (24 * r)) ycc ydr ynd (nI m) yal ygl yst ybl yhw yrn ywk (i + 1) (nI i + (-1)) (fo_n ar) yDk yDw yK yW yPl yRl yRc yHd yLf yRg ySz yLi ySk ySt yAr yGv F yEn yPc yBd yWk yWw yOw yCt yOz yOp yKn := by
  have hn := hP.1
  intro i
  induction i with
  | zero =>
    intro F _ h
    have e : F 0 = fo_b (fm_F ar T n S m 0 0) := h 0 0 (by omega) hP.2.1.1 hS.2.1.1
    refine br_t (by decide) ?_
    rw [e]
    exact ⟨fo_bn _, hp F⟩
  | succ i ih =>
    intro F hi h
    rw [pk_m1]
    obtain ⟨t1, t2, t3, t4⟩ := hP.2.2 i (by omega)
    have ein : nI (24 * r) + nI i = nI (24 * r + i) := nI_add _ _
    refine br_f (nI_pos (by omega)) ⟨by rw [ein]; exact vp_in_nI (by omega) (by decide), nm_r (e' := nI (T i / 8)) (by rw [ein, nI_clamp (by omega), t3]) ⟨by rw [ein]; exact vp_in_nI (by omega) (by decide), ?_⟩⟩
    rw [ein, nI_clamp (by omega)]
    have go : ∀ x6 : Int32, (fo_op ar (T i) = 2 → x6 = nI (fe_pe (fm_o ar T) n (i + 1))) → wY_matches_70 post (wY_matches_14 post (nI (24 * r)) ycc ydr ynd (nI m) yal ygl yst ybl yhw yrn ywk (i + 1)) (nI (24 * r)) (nI i) (nI (T i / 8)) (nI (fo_op ar (T i))) x6 ycc ydr ynd (nI m) yal ygl yst ybl yhw yrn ywk (m + 1) 0 (fo_n ar) yDk yDw yK yW yPl yRl yRc yHd yLf yRg ySz yLi ySk ySt yAr yGv F yEn yPc yBd yWk yWw yOw yCt yOz yOp yKn := fun x6 h6 =>
      y_mt_in hc ha hr hS hP (by omega) h6 (fun F' h' => ih F' (by omega) h') m 0 F (by omega) (fun i' p' a => h i' p' (by omega)) (fun p' a => by omega)
    have ho := fo_op_le ha (T i)
    refine y_ops hc t1 (fun k2 => t4 (Or.inr k2)) (pk_eq (fo_op ar (T i)) 2 (fun z => ?_) (fun z => ⟨m + 1, go 0 (fun g => absurd g z)⟩))
    rw [nI_1]
    have l := (fe_pe_c2 (fm_o ar T) (by omega : i < n) (fe_full_e hP.2.1 (by omega)).2 hP.2.1.2.1 z).1
    refine y_pe (T := T) hc ha hr hP (i := i + 1) l (nm_r (e' := nI (fe_pe (fm_o ar T) n (i + 1))) ?_ ⟨m + 1, go _ (fun _ => rfl)⟩)
    rw [pk_sub (by omega)]
    exact congrArg nI (by omega)
theorem y_mt {post : Int32 → SY → Prop} {ar S T : Nat → Nat} {c m n r : Nat} (hc : c ≤ 6) (ha : ∀ i, ar i ≤ 2) (hr : r < 20) {pl : Nat → Nat} (hpl : pl r = n)
    (hS : fx_sub ar c m S yLi yEn) (hP : fy_pat ar c yK yW T n r) (hp : ∀ F, post (fo_b (fm_F ar T n S m 0 0)) (ycc, ydr, ynd, nI m, yal, ygl, yst, ybl, yhw, yrn, ywk, fo_n ar, yDk, yDw, yK, yW, fo_n pl, yRl, yRc, yHd, yLf, yRg, ySz, yLi, ySk, ySt, yAr, yGv, F, yEn, yPc, yBd, yWk, yWw, yOw, yCt, yOz, yOp, yKn)) :
    wpY_matches post (ycc, ydr, ynd, nI m, yal, ygl, yst, ybl, yhw, yrn, ywk, fo_n ar, yDk, yDw, yK, yW, fo_n pl, yRl, yRc, yHd, yLf, yRg, ySz, yLi, ySk, ySt, yAr, yGv, yF, yEn, yPc, yBd, yWk, yWw, yOw, yCt, yOz, yOp, yKn) (nI r) := by
  refine nm_r (fo_24m r) ⟨vp_in_nI hr (by decide), nm_r (e' := nI n + (-1)) ?_ ⟨n + 1, y_mt_out hc ha hr hS hP hp n yF (Nat.le_refl _) (fun i' p' a b => by omega)⟩⟩
  rw [nI_clamp (by omega)]
  show nI (pl r) - 1 = _
  rw [hpl]; exact Int32.sub_eq_add_neg _ _
theorem y_tk_loop {post : Int32 → SY → Prop} {ar S rc pl : Nat → Nat} {pat : Nat → Nat → Nat} {c m f w : Nat} (hc : c ≤ 6) (ha : ∀ i, ar i ≤ 2) (hf : f < 4) (hrc : rc f ≤ 5)
    (hS : fx_sub ar c m S yLi yEn) (hP : ∀ i, i < rc f → fy_pat ar c yK yW (pat (5 * f + i)) (pl (5 * f + i)) (5 * f + i))
    (h0 : w = 0 → ∀ F, post (-1) (ycc, ydr, ynd, nI m, yal, ygl, yst, ybl, yhw, yrn, ywk, fo_n ar, yDk, yDw, yK, yW, fo_n pl, yRl, fo_n rc, yHd, yLf, yRg, ySz, yLi, ySk, ySt, yAr, yGv, F, yEn, yPc, yBd, yWk, yWw, yOw, yCt, yOz, yOp, yKn))
    (h1 : w ≠ 0 → ∀ F, post (nI (w - 1)) (ycc, ydr, ynd, nI m, yal, ygl, yst, ybl, yhw, yrn, ywk, fo_n ar, yDk, yDw, yK, yW, fo_n pl, yRl, fo_n rc, yHd, yLf, yRg, ySz, yLi, ySk, ySt, yAr, yGv, F, yEn, yPc, yBd, yWk, yWw, yOw, yCt, yOz, yOp, yKn)) :
    ∀ d i F, i + d = rc f → w = fm_tk (fun i => fm_F ar (pat (5 * f + i)) (pl (5 * f + i)) S m 0 0) d i →
      wY_takes_6 post (nI f) (d + 1) (nI i) ycc ydr ynd (nI m) yal ygl yst ybl yhw yrn ywk (fo_n ar) yDk yDw yK yW (fo_n pl) yRl (fo_n rc) yHd yLf yRg ySz yLi ySk ySt yAr yGv F yEn yPc yBd yWk yWw yOw yCt yOz yOp yKn := by
  intro d
  induction d with
  | zero =>
    intro i F hi hw
    refine ⟨vp_in_nI hf (by decide), br_t ?_ (h0 hw F)⟩
    rw [nI_clamp (by omega)]
    exact nI_le (a := rc f) (by omega) (by omega)
  | succ d ih =>
    intro i F hi hw
    refine ⟨vp_in_nI hf (by decide), br_f ?_ ?_⟩
    · rw [nI_clamp (by omega)]
      exact nI_ge (b := rc f) (by omega) (by omega)
    rw [show 5 * nI f + nI i = nI (5 * f + i) by rw [fo_5m, nI_add]]
    refine y_mt hc ha (by omega) rfl hS (hP i (by omega)) (fun F' => fo_br (fun b => nm_r (nI_1 i) (ih (i + 1) F' (by omega) ?_)) (fun b => ?_))
    · rw [hw]; simp only [fm_tk]; rw [if_neg (by rw [b]; decide)]
    · have e : w = i + 1 := by rw [hw]; simp only [fm_tk]; rw [if_pos b]
      have := h1 (by omega) F'
      rw [show w - 1 = i by omega] at this
      exact this
theorem y_tk {post : Int32 → SY → Prop} {ar S rc pl : Nat → Nat} {pat : Nat → Nat → Nat} {c m f : Nat} (hc : c ≤ 6) (ha : ∀ i, ar i ≤ 2) (hf : f < 4) (hrc : rc f ≤ 5) (hm : m ≤ 40) (hv : fe_full (fm_v ar S) m)
    (hS : ∀ i, i < m → S i < c ∧ yLi i = nI (S i)) (hP : ∀ i, i < rc f → fy_pat ar c yK yW (pat (5 * f + i)) (pl (5 * f + i)) (5 * f + i))
    (h0 : fm_row ar pat pl rc f S m = 0 → ∀ D F, fx_sub ar c m S yLi D → post (-1) (ycc, ydr, ynd, nI m, yal, ygl, yst, ybl, yhw, yrn, ywk, fo_n ar, yDk, yDw, yK, yW, fo_n pl, yRl, fo_n rc, yHd, yLf, yRg, ySz, yLi, ySk, ySt, yAr, yGv, F, D, yPc, yBd, yWk, yWw, yOw, yCt, yOz, yOp, yKn))
    (h1 : fm_row ar pat pl rc f S m ≠ 0 → ∀ D F, fx_sub ar c m S yLi D → post (nI (fm_row ar pat pl rc f S m - 1)) (ycc, ydr, ynd, nI m, yal, ygl, yst, ybl, yhw, yrn, ywk, fo_n ar, yDk, yDw, yK, yW, fo_n pl, yRl, fo_n rc, yHd, yLf, yRg, ySz, yLi, ySk, ySt, yAr, yGv, F, D, yPc, yBd, yWk, yWw, yOw, yCt, yOz, yOp, yKn)) :
    wpY_takes post (ycc, ydr, ynd, nI m, yal, ygl, yst, ybl, yhw, yrn, ywk, fo_n ar, yDk, yDw, yK, yW, fo_n pl, yRl, fo_n rc, yHd, yLf, yRg, ySz, yLi, ySk, ySt, yAr, yGv, yF, yEn, yPc, yBd, yWk, yWw, yOw, yCt, yOz, yOp, yKn) (nI f) :=
  y_ms hc hm ha hv hS (fun D hD => ⟨rc f + 1, y_tk_loop hc ha hf hrc hD hP (fun z F => h0 z D F hD) (fun z F => h1 z D F hD) (rc f) 0 yF (by omega) rfl⟩)
/-- the argument becomes the list -/
theorem y_ta {post : SY → Prop} {W : Nat → Nat} {m : Nat} (hm : m ≤ 40) (hW : ∀ i, i < m → yAr i = nI (W i))
    (hp : ∀ s, (∀ j, j < m → s j = nI (W j)) → post (ycc, ydr, ynd, nI m, yal, ygl, yst, ybl, yhw, yrn, ywk, yA, yDk, yDw, yK, yW, yPl, yRl, yRc, yHd, yLf, yRg, ySz, s, ySk, ySt, yAr, yGv, yF, yEn, yPc, yBd, yWk, yWw, yOw, yCt, yOz, yOp, yKn)) : wpY_take__argument post (ycc, ydr, ynd, yln, yal, ygl, yst, ybl, yhw, yrn, ywk, yA, yDk, yDw, yK, yW, yPl, yRl, yRc, yHd, yLf, yRg, ySz, yLi, ySk, ySt, yAr, yGv, yF, yEn, yPc, yBd, yWk, yWw, yOw, yCt, yOz, yOp, yKn) (nI m) := by
  have loop : ∀ d i s, i + d = m → (∀ j, j < i → s j = nI (W j)) → wY_take__argument_7 post (nI m) ycc ydr ynd (nI m) yal ygl yst ybl yhw yrn ywk (d + 1) (nI i) yA yDk yDw yK yW yPl yRl yRc yHd yLf yRg ySz s ySk ySt yAr yGv yF yEn yPc yBd yWk yWw yOw yCt yOz yOp yKn := by
    intro d
    induction d with
    | zero =>
      intro i s hi h
      exact br_t (nI_le (by omega) (by omega)) (hp s (fun j hj => h j (by omega)))
    | succ d ih =>
      intro i s hi h
      refine br_f (nI_ge (by omega) (by omega)) ⟨vp_in_nI (by omega) (by decide), vp_in_nI (by omega) (by decide), nm_r (e' := upd s i (nI (W i))) ?_ (nm_r (nI_1 i) (ih (i + 1) _ (by omega) ?_))⟩
      · rw [nI_clamp (by omega), hW i (by omega)]
      · intro j hj
        by_cases e : j = i
        · subst e; exact pk_us
        · rw [pk_un e]; exact h j (by omega)
  exact ⟨m + 1, loop m 0 yLi (by omega) (fun j hj => by omega)⟩
end
theorem i_vc_taken {k : Nat} {u : SX} {v : SY} (I : i_Rel k u v) (hk : k + 4 ≤ 2048) (v1 : Int32) : wpX_taken (fun r u' => wpY_taken (fun r' v' => r' = r ∧ i_Rel (k + 4) u' v') v v1) u v1 := by
  refine i_el (P := fun u v => wpX_taken (fun r u' => wpY_taken (fun r' v' => r' = r ∧ i_Rel (k + 4) u' v') v v1) u v1) I ?_
  intro c n m g ar rc pl T pat pre pos arg giv xss xnc xdp xoc xrs xrt xrf ynd yln yhw yrn ywk xD xDe xUw xP xPe xO xOl xAr xS xSe xSn xF xNc xNf xNs xNz xCr xCn xCv xOp xRl xTa xUt yDk yDw yK yW yHd yLf yRg ySz yLi ySk ySt yF yEn yPc yBd yWk yWw yOw yCt yOz yOp yKn G
  rcases fo_f4 v1 with h | ⟨f, hf, rfl⟩
  · unfold wpX_taken
    refine x_isF0 h (br_t rfl ?_)
    unfold wpY_taken
    exact y_in0 h (br_t rfl ⟨rfl, i_mk G⟩)
  · by_cases m0 : m = 0
    · subst m0
      unfold wpX_taken
      refine x_isF1 hf (br_f fo_z1 (br_t rfl ?_))
      unfold wpY_taken
      exact y_in1 hf (br_f fo_z1 (br_t rfl ⟨rfl, i_mk G⟩))
    · obtain ⟨g1, g2, g3, g4, g5, g6, g7, g8, g9⟩ := id G
      have hv := g7.resolve_left m0
      have hne : ¬ nI m = 0 := nI_ne0 (by omega) (by have := hv.1; omega)
      unfold wpX_taken
      refine x_isF1 hf (br_f fo_z1 (br_f hne (x_sa g1 g3 hv (fun s e hs => ?_))))
      have yside : ∀ (r : Int32) (s e F : Nat → Int32), (r = if fm_row ar pat pl rc f arg m = 0 then -1 else nI (fm_row ar pat pl rc f arg m - 1)) →
          wpY_taken (fun r' v' => r' = r ∧ i_Rel (k + 4) (nI c, nI n, nI m, nI m, xnc, xdp, xoc, xrs, xrt, xrf, nI g, fo_n ar, xD, xDe, xUw, fo_n rc, xP, xPe, fo_n pl, xO, xOl, xAr, s, e, xSn, F, xNc, xNf, xNs, xNz, xCr, xCn, xCv, xOp, xRl, xTa, xUt) v') (nI c, nI n, ynd, yln, nI m, nI g, xrt, xrf, yhw, yrn, ywk, fo_n ar, yDk, yDw, yK, yW, fo_n pl, xOl, fo_n rc, yHd, yLf, yRg, ySz, yLi, ySk, ySt, xAr, xRl, yF, yEn, yPc, yBd, yWk, yWw, yOw, yCt, yOz, yOp, yKn) (nI f) := by
        intro r s e F hr
        unfold wpY_taken
        refine y_in1 hf (br_f fo_z1 (br_f hne (y_ta (W := arg) hv.1 (fun i hi => (hv.2.2 i hi).2) (fun l hl => ?_))))
        refine y_tk g1 g3 hf (g4 f) hv.1 hv.2.1 (fun i hi => ⟨(hv.2.2 i hi).1, hl i hi⟩) (fun i hi => fy_pat_of (g6 f i hf hi)) (fun z D F' _ => ⟨?_, i_mk G⟩) (fun z D F' _ => ⟨?_, i_mk G⟩)
        · rw [hr, if_pos z]
        · rw [hr, if_neg z]
      exact x_rf g1 g3 hf (g4 f) hs (fun i hi => fx_pat_of (g6 f i hf hi)) (fun z F => yside _ s e F (by rw [if_pos z])) (fun z F => yside _ s e F (by rw [if_neg z]))
