/-- what has been counted when the sizes below s are through, and the lists below j of size s -/
def fk_cc (ar : Nat → Nat) (rw' : (Nat → Nat) → Nat → Nat) (c s j s' r : Nat) : Nat :=
  if s' < s then fd_ct ar rw' c s' r else if s' = s then fd_cn (fd_P ar rw' c s r) j else 0
theorem fk_next {ar : Nat → Nat} {rw' : (Nat → Nat) → Nat → Nat} {c s s' r : Nat} : fk_cc ar rw' c s (c ^ s) s' r = fk_cc ar rw' c (s + 1) 0 s' r := by
  unfold fk_cc
  by_cases h1 : s' < s
  · rw [if_pos h1, if_pos (by omega)]
  · rw [if_neg h1]
    by_cases h2 : s' = s
    · rw [if_pos h2, if_pos (by omega), h2]; rfl
    · rw [if_neg h2, if_neg (by omega)]
      by_cases h3 : s' = s + 1
      · rw [if_pos h3]; rfl
      · rw [if_neg h3]
/-- the counts of function f -/
def fk_C (ar : Nat → Nat) (rw' : (Nat → Nat) → Nat → Nat) (c f s j : Nat) (C : Nat → Int32) : Prop :=
  ∀ s' r, 1 ≤ s' → s' ≤ 5 → r ≤ 5 → C (30 * f + 5 * r + (s' - 1)) = nI (fk_cc ar rw' c s j s' r)
/-- the first value that none takes, as far as it is known -/
def fk_O (ar : Nat → Nat) (rw' : (Nat → Nat) → Nat → Nat) (c f s j : Nat) (Z O : Nat → Int32) : Prop :=
  (Z f = 0 ∧ ∀ s', 1 ≤ s' → s' ≤ 5 → fk_cc ar rw' c s j s' 0 = 0) ∨
    ∃ z j0, 1 ≤ z ∧ z ≤ 5 ∧ z ≤ s ∧ Z f = nI z ∧ (∀ s', 1 ≤ s' → s' < z → fd_ct ar rw' c s' 0 = 0) ∧ j0 < c ^ z ∧ fd_P ar rw' c z 0 j0 = true ∧ fd_cn (fd_P ar rw' c z 0) j0 = 0 ∧
      ∀ i, i < z → O (5 * f + i) = nI (fd_S c z j0 i)
/-- nothing else has changed -/
def fk_E (f : Nat) (C0 Z0 O0 C Z O : Nat → Int32) : Prop :=
  (∀ q, (q < 30 * f ∨ 30 * f + 30 ≤ q) → C q = C0 q) ∧ (∀ q, q ≠ f → Z q = Z0 q) ∧ (∀ q, (q < 5 * f ∨ 5 * f + 5 ≤ q) → O q = O0 q)
theorem fk_know {ar : Nat → Nat} {rw' : (Nat → Nat) → Nat → Nat} {c f : Nat} {N C Z O : Nat → Int32} (hN : N f = 1) (hC : fk_C ar rw' c f 6 0 C) (hO : fk_O ar rw' c f 6 0 Z O) :
    fR_know ar rw' c f N C Z O := by
  have e : ∀ s' r, s' ≤ 5 → fk_cc ar rw' c 6 0 s' r = fd_ct ar rw' c s' r := fun s' r h => by unfold fk_cc; rw [if_pos (by omega)]
  refine Or.inr ⟨hN, fun s r a b d => by rw [hC s r a b d, e s r b], ?_⟩
  rcases hO with ⟨h1, h2⟩ | ⟨z, j0, a1, a2, a3, a4, a5⟩
  · exact Or.inl ⟨h1, fun s a b => by rw [← e s 0 b]; exact h2 s a b⟩
  · exact Or.inr ⟨z, j0, a1, a2, a4, a5⟩
theorem fk_other {ar : Nat → Nat} {rw' : (Nat → Nat) → Nat → Nat} {c f f' : Nat} {N C Z O N' C' Z' O' : Nat → Int32} (h : fR_know ar rw' c f' N C Z O) (hf : f' ≠ f) (hN : N' f' = N f') (hE : fk_E f C Z O C' Z' O') :
    fR_know ar rw' c f' N' C' Z' O' := by
  unfold fR_know
  rw [hN, hE.2.1 f' hf]
  rcases h with h | ⟨h1, h2, h3⟩
  · exact Or.inl h
  · refine Or.inr ⟨h1, fun s r a b d => ?_, ?_⟩
    · rw [hE.1 _ (by omega)]; exact h2 s r a b d
    · rcases h3 with h3 | ⟨s, j, a1, a2, a3, a4, a5, a6, a7, a8⟩
      · exact Or.inl h3
      · exact Or.inr ⟨s, j, a1, a2, a3, a4, a5, a6, a7, fun i hi => by rw [hE.2.2 _ (by omega)]; exact a8 i hi⟩
section
variable {ycc ydr ynd yln yal ygl yst ybl yhw yrn ywk : Int32} {yA yDk yDw yK yW yPl yRl yRc yHd yLf yRg ySz yLi ySk ySt yAr yGv yF yEn yPc yBd yWk yWw yOw yCt yOz yOp yKn : Nat → Int32}
theorem y_iv {post : Int32 → Prop} {ar S : Nat → Nat} {c s : Nat} (hc : c ≤ 6) (ha : ∀ i, ar i ≤ 2) (hs : s ≤ 40) (hS : ∀ i, i < s → S i < c ∧ yLi i = nI (S i))
    (h1 : fe_pe (fm_v ar S) s 0 = s → post 1) (h0 : fe_pe (fm_v ar S) s 0 ≠ s → post 0) : wpY_isValue post (ycc, ydr, ynd, nI s, yal, ygl, yst, ybl, yhw, yrn, ywk, fo_n ar, yDk, yDw, yK, yW, yPl, yRl, yRc, yHd, yLf, yRg, ySz, yLi, ySk, ySt, yAr, yGv, yF, yEn, yPc, yBd, yWk, yWw, yOw, yCt, yOz, yOp, yKn) := by
  have loop : ∀ d k i, i + d = s → k ≤ i + 1 → fe_pe (fm_v ar S) s 0 = fe_en (fm_v ar S) d k i → wY_isValue_4 post ycc ydr ynd (nI s) yal ygl yst ybl yhw yrn ywk (fo_n ar) yDk yDw yK yW yPl yRl yRc yHd yLf yRg ySz yLi ySk ySt yAr yGv yF yEn yPc yBd yWk yWw yOw yCt yOz yOp yKn (d + 1) (nI k) (nI i) := by
    intro d
    induction d with
    | zero =>
      intro k i hi hk he
      refine br_t (nI_le (by omega) (by omega)) (pk_eq k 0 (fun z => h1 ?_) (fun z => h0 ?_))
      · subst z; rw [he, fe_en0]; omega
      · obtain ⟨q, rfl⟩ : ∃ q, k = q + 1 := ⟨k - 1, by omega⟩
        rw [he, fe_enz]; omega
    | succ d ih =>
      intro k i hi hk he
      obtain ⟨s1, s2⟩ := hS i (by omega)
      refine br_f (nI_ge (by omega) (by omega)) (pk_eq k 0 (fun z => h0 ?_) (fun z => ⟨vp_in_nI (by omega) (by decide), ?_⟩))
      · subst z; rw [he, fe_en0]; omega
      · rw [nI_clamp (by omega), s2, nI_clamp (by omega)]
        obtain ⟨q, rfl⟩ : ∃ q, k = q + 1 := ⟨k - 1, by omega⟩
        have h2 := ha (S i)
        refine ⟨vp_in_nI (by omega) (by decide), nm_r (fo_ko (o := ar (S i)) (by omega)) (nm_r (nI_1 i) (ih _ (i + 1) (by omega) (by omega) ?_))⟩
        rw [he, fe_ens]; rfl
  exact ⟨s + 1, loop s 1 0 (by omega) (by omega) rfl⟩
theorem y_nt53 {post : SY → Prop} {f s : Nat} (hf : f < 4) (hs : s ≤ 5) {O0 : Nat → Int32}
    (hp : ∀ O, (∀ i, i < s → O (5 * f + i) = yLi i) → (∀ q, (q < 5 * f ∨ 5 * f + 5 ≤ q) → O q = O0 q) → post (ycc, ydr, ynd, yln, yal, ygl, yst, ybl, yhw, yrn, ywk, yA, yDk, yDw, yK, yW, yPl, yRl, yRc, yHd, yLf, yRg, ySz, yLi, ySk, ySt, yAr, yGv, yF, yEn, yPc, yBd, yWk, yWw, yOw, yCt, yOz, O, yKn)) :
    ∀ d i O, i + d = s → (∀ j, j < i → O (5 * f + j) = yLi j) → (∀ q, (q < 5 * f ∨ 5 * f + 5 ≤ q) → O q = O0 q) → wY_note_53 post (nI f) (nI s) ycc ydr ynd yln yal ygl yst ybl yhw yrn ywk (d + 1) (nI i) yA yDk yDw yK yW yPl yRl yRc yHd yLf yRg ySz yLi ySk ySt yAr yGv yF yEn yPc yBd yWk yWw yOw yCt yOz O yKn := by
  intro d
  induction d with
  | zero =>
    intro i O hi h1 h2
    exact br_t (nI_le (by omega) (by omega)) (hp O (fun j hj => h1 j (by omega)) h2)
  | succ d ih =>
    intro i O hi h1 h2
    have e : 5 * nI f + nI i = nI (5 * f + i) := by rw [fo_5m, nI_add]
    refine br_f (nI_ge (by omega) (by omega)) ⟨vp_in_nI (by omega) (by decide), by rw [e]; exact vp_in_nI (by omega) (by decide), nm_r (e' := upd O (5 * f + i) (yLi i)) (by rw [e, nI_clamp (by omega), nI_clamp (by omega)]) (nm_r (nI_1 i) (ih (i + 1) _ (by omega) ?_ ?_))⟩
    · intro j hj
      by_cases q : j = i
      · subst q; exact pk_us
      · rw [pk_un (by omega)]; exact h1 j (by omega)
    · intro q hq
      rw [pk_un (by omega)]; exact h2 q hq
/-- a value is noted -/
theorem y_nt {post : SY → Prop} {ar rc pl : Nat → Nat} {pat : Nat → Nat → Nat} {c f s j : Nat} (hc : c ≤ 6) (ha : ∀ i, ar i ≤ 2) (hf : f < 4) (hrc : rc f ≤ 5) (h1s : 1 ≤ s) (hs : s ≤ 5) (hj : j < c ^ s)
    (h0c : 0 < c) (hS : ∀ i, i < s → yLi i = nI (fd_S c s j i)) (hv : fe_pe (fm_v ar (fd_S c s j)) s 0 = s)
    (hP : ∀ i, i < rc f → fy_pat ar c yK yW (pat (5 * f + i)) (pl (5 * f + i)) (5 * f + i)) {C0 Z0 O0 : Nat → Int32}
    (hC : fk_C ar (fm_row ar pat pl rc f) c f s j yCt) (hO : fk_O ar (fm_row ar pat pl rc f) c f s j yOz yOp) (hE : fk_E f C0 Z0 O0 yCt yOz yOp)
    (hp : ∀ D F C Z O, fk_C ar (fm_row ar pat pl rc f) c f s (j + 1) C → fk_O ar (fm_row ar pat pl rc f) c f s (j + 1) Z O → fk_E f C0 Z0 O0 C Z O →
      post (ycc, ydr, ynd, nI s, yal, ygl, yst, ybl, yhw, yrn, ywk, fo_n ar, yDk, yDw, yK, yW, fo_n pl, yRl, fo_n rc, yHd, yLf, yRg, ySz, yLi, ySk, ySt, yAr, yGv, F, D, yPc, yBd, yWk, yWw, yOw, C, Z, O, yKn)) :
    wpY_note post (ycc, ydr, ynd, nI s, yal, ygl, yst, ybl, yhw, yrn, ywk, fo_n ar, yDk, yDw, yK, yW, fo_n pl, yRl, fo_n rc, yHd, yLf, yRg, ySz, yLi, ySk, ySt, yAr, yGv, yF, yEn, yPc, yBd, yWk, yWw, yOw, yCt, yOz, yOp, yKn) (nI f) (nI s) := by
  have hfull : fe_full (fm_v ar (fd_S c s j)) s := ⟨by omega, by omega, hv⟩
  have pr : ∀ r, fd_P ar (fm_row ar pat pl rc f) c s r j = decide (fm_row ar pat pl rc f (fd_S c s j) s = r) := fun r => by unfold fd_P; rw [decide_eq_true hv]; rfl
  have hwle := fm_row_le ar pat pl rc f (fd_S c s j) s
  have hpow := fd_pow hc hs
  generalize hw : fm_row ar pat pl rc f (fd_S c s j) s = w at *
  have hcn : fd_cn (fd_P ar (fm_row ar pat pl rc f) c s w) j ≤ j := fd_cn_le _ _
  have ccs : ∀ jj s' r, s' ≠ s → fk_cc ar (fm_row ar pat pl rc f) c s jj s' r = fk_cc ar (fm_row ar pat pl rc f) c s j s' r := by
    intro jj s' r h
    unfold fk_cc
    by_cases h1 : s' < s
    · rw [if_pos h1, if_pos h1]
    · rw [if_neg h1, if_neg h1, if_neg h, if_neg h]
  have cce : ∀ jj r, fk_cc ar (fm_row ar pat pl rc f) c s jj s r = fd_cn (fd_P ar (fm_row ar pat pl rc f) c s r) jj := by
    intro jj r
    unfold fk_cc
    rw [if_neg (Nat.lt_irrefl _), if_pos rfl]
  have cnS : ∀ r, fd_cn (fd_P ar (fm_row ar pat pl rc f) c s r) (j + 1) = fd_cn (fd_P ar (fm_row ar pat pl rc f) c s r) j + if w = r then 1 else 0 := by
    intro r
    simp only [fd_cn]
    rw [pr r]
    by_cases e : w = r
    · rw [decide_eq_true e, if_pos rfl, if_pos e]
    · rw [decide_eq_false e, if_neg (by decide), if_neg e]
  have hCw : yCt (30 * f + 5 * w + (s - 1)) = nI (fd_cn (fd_P ar (fm_row ar pat pl rc f) c s w) j) := by rw [hC s w h1s hs (by omega), cce]
  have hC' : fk_C ar (fm_row ar pat pl rc f) c f s (j + 1) (upd yCt (30 * f + 5 * w + (s - 1)) (nI (fd_cn (fd_P ar (fm_row ar pat pl rc f) c s w) j + 1))) := by
    intro s' r a b d
    by_cases e : s' = s
    · subst e
      rw [cce, cnS]
      by_cases e2 : r = w
      · subst e2; rw [pk_us, if_pos rfl]
      · rw [pk_un (by omega), if_neg (fun z => e2 z.symm), hC s' r a b d, cce]; rfl
    · rw [pk_un (by omega), ccs (j + 1) s' r e]
      exact hC s' r a b d
  have hE1 : ∀ x, (∀ q, (q < 30 * f ∨ 30 * f + 30 ≤ q) → upd yCt (30 * f + 5 * w + (s - 1)) x q = C0 q) := fun x q hq => by rw [pk_un (by omega)]; exact hE.1 q hq
  have ein : ∀ x : Int32, x + 1 = nI w → ((30 * nI f + 5 * (x + 1)) + nI s) - 1 = nI (30 * f + 5 * w + (s - 1)) := by
    intro x hx
    rw [hx, fo_30m, fo_5m, nI_add, nI_add, fo_s1 (by omega)]
    exact congrArg nI (by omega)
  have eup : ∀ x : Int32, x + 1 = nI w → upd yCt (((30 * nI f + 5 * (x + 1)) + nI s) - 1).toNatClampNeg (yCt (((30 * nI f + 5 * (x + 1)) + nI s) - 1).toNatClampNeg + 1) = upd yCt (30 * f + 5 * w + (s - 1)) (nI (fd_cn (fd_P ar (fm_row ar pat pl rc f) c s w) j + 1)) := by
    intro x hx
    rw [ein x hx, nI_clamp (by omega), hCw, nI_1]
  have vin : ∀ x : Int32, x + 1 = nI w → vp_in (((30 * nI f + 5 * (x + 1)) + nI s) - 1) 120 := fun x hx => by rw [ein x hx]; exact vp_in_nI (by omega) (by decide)
  -- what is kept when this one is taken, or another was found before
  have keep : (w ≠ 0 ∨ yOz f ≠ 0) → fk_O ar (fm_row ar pat pl rc f) c f s (j + 1) yOz yOp := by
    intro h
    rcases hO with ⟨o1, o2⟩ | o
    · refine Or.inl ⟨o1, fun s' a b => ?_⟩
      by_cases e : s' = s
      · subst e
        have := o2 s' a b
        rw [cce] at this
        rw [cce, cnS, this, if_neg (by
          intro z
          rcases h with h | h
          · exact h z
          · exact h o1)]
      · rw [ccs (j + 1) s' 0 e]; exact o2 s' a b
    · exact Or.inr o
  unfold wpY_note
  refine y_tk (pat := pat) hc ha hf hrc (by omega) hfull (fun i hi => ⟨fd_lt h0c _ _, hS i hi⟩) hP (fun z D F _ => ?_) (fun z D F _ => ?_)
  · rw [hw] at z
    have e0 : (-1 : Int32) + 1 = nI w := by rw [z]; decide
    refine ⟨vin _ e0, vin _ e0, nm_r (eup _ e0) (br_f (by decide) ⟨vp_in_nI hf (by decide), ?_⟩)⟩
    rw [nI_clamp (by omega)]
    by_cases oz : yOz f = 0
    · rw [oz]
      refine br_t (by decide) ⟨vp_in_nI hf (by decide), nm_r (e' := upd yOz f (nI s)) rfl ⟨s + 1, y_nt53 (O0 := O0) hf hs (fun O b1 b2 => hp D F _ _ O hC' (Or.inr ⟨s, j, h1s, hs, Nat.le_refl _, pk_us, fun s' a b => ?_, hj, ?_, ?_, fun i hi => ?_⟩) ⟨hE1 _, fun q hq => by rw [pk_un hq]; exact hE.2.1 q hq, b2⟩) s 0 yOp (by omega) (fun i hi => by omega) hE.2.2⟩⟩
      · rcases hO with ⟨o1, o2⟩ | ⟨z', j0, a1, a2, a3, a4, _⟩
        · have := o2 s' a (by omega)
          unfold fk_cc at this
          rw [if_pos b] at this
          exact this
        · rw [oz] at a4
          have := (nI_eq (a := 0) (b := z') (by omega) (by omega)).mp a4
          omega
      · rw [pr 0, z]; rfl
      · rcases hO with ⟨o1, o2⟩ | ⟨z', j0, a1, a2, a3, a4, _⟩
        · have := o2 s h1s hs
          rw [cce] at this
          exact this
        · rw [oz] at a4
          have := (nI_eq (a := 0) (b := z') (by omega) (by omega)).mp a4
          omega
      · rw [b1 i hi, hS i hi]
    · have hnz : ¬ yOz f ≤ 0 := by
        rcases hO with ⟨o1, _⟩ | ⟨z', j0, a1, a2, a3, a4, _⟩
        · exact absurd o1 oz
        · rw [a4]; exact nI_nle (by omega) (by omega)
      exact br_f hnz (hp D F _ yOz yOp hC' (keep (Or.inr oz)) ⟨hE1 _, hE.2.1, hE.2.2⟩)
  · rw [hw] at z ⊢
    have e0 : nI (w - 1) + 1 = nI w := by rw [nI_1]; exact congrArg nI (by omega)
    exact ⟨vin _ e0, vin _ e0, nm_r (eup _ e0) (br_t (nI_pos' (by omega)) (hp D F _ yOz yOp hC' (keep (Or.inl z)) ⟨hE1 _, hE.2.1, hE.2.2⟩))⟩
/-- the digits of a list's number -/
theorem y_kn86 {post : SY → Prop} {J57 : Int32 → Int32 → Int32 → Int32 → Int32 → Int32 → Int32 → Int32 → Int32 → Int32 → Int32 → Int32 → Int32 → (Nat → Int32) → (Nat → Int32) → (Nat → Int32) → (Nat → Int32) → (Nat → Int32) → (Nat → Int32) → (Nat → Int32) → (Nat → Int32) → (Nat → Int32) → (Nat → Int32) → (Nat → Int32) → (Nat → Int32) → (Nat → Int32) → (Nat → Int32) → (Nat → Int32) → (Nat → Int32) → (Nat → Int32) → (Nat → Int32) → (Nat → Int32) → (Nat → Int32) → (Nat → Int32) → (Nat → Int32) → (Nat → Int32) → (Nat → Int32) → (Nat → Int32) → (Nat → Int32) → (Nat → Int32) → (Nat → Int32) → Prop} {J66 : Int32 → Int32 → Int32 → Int32 → Int32 → Int32 → Int32 → Int32 → Int32 → Int32 → Int32 → Int32 → (Nat → Int32) → (Nat → Int32) → (Nat → Int32) → (Nat → Int32) → (Nat → Int32) → (Nat → Int32) → (Nat → Int32) → (Nat → Int32) → (Nat → Int32) → (Nat → Int32) → (Nat → Int32) → (Nat → Int32) → (Nat → Int32) → (Nat → Int32) → (Nat → Int32) → (Nat → Int32) → (Nat → Int32) → (Nat → Int32) → (Nat → Int32) → (Nat → Int32) → (Nat → Int32) → (Nat → Int32) → (Nat → Int32) → (Nat → Int32) → (Nat → Int32) → (Nat → Int32) → (Nat → Int32) → (Nat → Int32) → Prop} {ar rc pl : Nat → Nat} {pat : Nat → Nat → Nat} {c f s j : Nat} {x2 : Int32} (hc : c ≤ 6) (ha : ∀ i, ar i ≤ 2) (hf : f < 4) (hrc : rc f ≤ 5) (h1s : 1 ≤ s) (hs : s ≤ 5) (hj : j < c ^ s)
    (h0c : 0 < c) (hP : ∀ i, i < rc f → fy_pat ar c yK yW (pat (5 * f + i)) (pl (5 * f + i)) (5 * f + i)) {C0 Z0 O0 : Nat → Int32}
    (hC : fk_C ar (fm_row ar pat pl rc f) c f s j yCt) (hO : fk_O ar (fm_row ar pat pl rc f) c f s j yOz yOp) (hE : fk_E f C0 Z0 O0 yCt yOz yOp)
    (hJ : ∀ L D F C Z O, fk_C ar (fm_row ar pat pl rc f) c f s (j + 1) C → fk_O ar (fm_row ar pat pl rc f) c f s (j + 1) Z O → fk_E f C0 Z0 O0 C Z O →
      J66 (nI (j + 1)) (nI c) ydr ynd (nI s) yal ygl yst ybl yhw yrn ywk (fo_n ar) yDk yDw yK yW (fo_n pl) yRl (fo_n rc) yHd yLf yRg ySz L ySk ySt yAr yGv F D yPc yBd yWk yWw yOw C Z O yKn) :
    ∀ a L, a ≤ s → (∀ i, a ≤ i → i < s → L i = nI (fd_S c s j i)) →
      wY_know_86 post J57 J66 (nI f) x2 (nI s) (nI j) (nI c) ydr ynd (nI s) yal ygl yst ybl yhw yrn ywk (a + 1) (nI (j / c ^ (s - a))) (nI a + (-1)) (fo_n ar) yDk yDw yK yW (fo_n pl) yRl (fo_n rc) yHd yLf yRg ySz L ySk ySt yAr yGv yF yEn yPc yBd yWk yWw yOw yCt yOz yOp yKn := by
  have hpow := fd_pow hc hs
  intro a
  induction a with
  | zero =>
    intro L _ hL
    have hL' : ∀ i, i < s → L i = nI (fd_S c s j i) := fun i hi => hL i (by omega) hi
    refine br_t (by decide) (y_iv (S := fd_S c s j) hc ha (by omega) (fun i hi => ⟨fd_lt h0c _ _, hL' i hi⟩) (fun z => br_f fo_z1 ?_) (fun z => br_t rfl (nm_r (nI_1 j) (hJ L yEn yF yCt yOz yOp ?_ ?_ hE))))
    · exact y_nt (pat := pat) hc ha hf hrc h1s hs hj h0c hL' z hP hC hO hE (fun D F C Z O b1 b2 b3 => nm_r (nI_1 j) (hJ L D F C Z O b1 b2 b3))
    all_goals
      have np : ∀ r, fd_cn (fd_P ar (fm_row ar pat pl rc f) c s r) (j + 1) = fd_cn (fd_P ar (fm_row ar pat pl rc f) c s r) j := fun r => by
        simp only [fd_cn]
        rw [show fd_P ar (fm_row ar pat pl rc f) c s r j = false by unfold fd_P; rw [decide_eq_false z]; rfl]
        rfl
      have ec : ∀ s' r, fk_cc ar (fm_row ar pat pl rc f) c s (j + 1) s' r = fk_cc ar (fm_row ar pat pl rc f) c s j s' r := fun s' r => by
        unfold fk_cc; rw [np r]
    · intro s' r h1 h2 h3
      rw [ec]; exact hC s' r h1 h2 h3
    · rcases hO with ⟨o1, o2⟩ | o
      · exact Or.inl ⟨o1, fun s' h1 h2 => by rw [ec]; exact o2 s' h1 h2⟩
      · exact Or.inr o
  | succ b ih =>
    intro L hb hL
    have hd : j / c ^ (s - (b + 1)) ≤ j := Nat.div_le_self _ _
    have hne : ¬ nI c = 0 := nI_ne0 h0c (by omega)
    rw [pk_m1]
    refine br_f (nI_pos (by omega)) ⟨hne, vp_in_nI (by omega) (by decide), nm_r (e' := upd L b (nI (fd_S c s j b))) ?_ ⟨hne, nm_r (e' := nI (j / c ^ (s - b))) ?_ (nm_e (ih _ (by omega) ?_))⟩⟩
    · rw [nI_clamp (by omega), pk_rem (by omega) h0c (by omega)]
      unfold fd_S fd_dg
      rw [show s - 1 - b = s - (b + 1) by omega]
    · rw [pk_div (by omega) h0c (by omega), show s - b = s - (b + 1) + 1 by omega, fd_div]
    · intro i h1 h2
      by_cases e : i = b
      · subst e; exact pk_us
      · rw [pk_un e]; exact hL i (by omega) h2
/-- the survey of the reference -/
theorem y_kn {post : SY → Prop} {ar rc pl : Nat → Nat} {pat : Nat → Nat → Nat} {c f : Nat} (hc : c ≤ 6) (ha : ∀ i, ar i ≤ 2) (hf : f < 4) (hrc : rc f ≤ 5)
    (hP : ∀ i, i < rc f → fy_pat ar c yK yW (pat (5 * f + i)) (pl (5 * f + i)) (5 * f + i)) (hK : ∀ f', f' < 4 → fR_know ar (fm_row ar pat pl rc f') c f' yKn yCt yOz yOp)
    (hp : ∀ ln L D F C Z O N, (∀ f', f' < 4 → fR_know ar (fm_row ar pat pl rc f') c f' N C Z O) → N f = 1 →
      post (nI c, ydr, ynd, ln, yal, ygl, yst, ybl, yhw, yrn, ywk, fo_n ar, yDk, yDw, yK, yW, fo_n pl, yRl, fo_n rc, yHd, yLf, yRg, ySz, L, ySk, ySt, yAr, yGv, F, D, yPc, yBd, yWk, yWw, yOw, C, Z, O, N)) :
    wpY_know post (nI c, ydr, ynd, yln, yal, ygl, yst, ybl, yhw, yrn, ywk, fo_n ar, yDk, yDw, yK, yW, fo_n pl, yRl, fo_n rc, yHd, yLf, yRg, ySz, yLi, ySk, ySt, yAr, yGv, yF, yEn, yPc, yBd, yWk, yWw, yOw, yCt, yOz, yOp, yKn) (nI f) := by
  have ef : (nI f).toNatClampNeg = f := nI_clamp (by omega)
  have hin : vp_in (nI f) 4 := vp_in_nI hf (by decide)
  rcases hK f hf with k0 | k1
  · -- all lists of all sizes
    have numbers : ∀ s, 1 ≤ s → s ≤ 5 → ∀ (J57 : Int32 → Int32 → Int32 → Int32 → Int32 → Int32 → Int32 → Int32 → Int32 → Int32 → Int32 → Int32 → Int32 → (Nat → Int32) → (Nat → Int32) → (Nat → Int32) → (Nat → Int32) → (Nat → Int32) → (Nat → Int32) → (Nat → Int32) → (Nat → Int32) → (Nat → Int32) → (Nat → Int32) → (Nat → Int32) → (Nat → Int32) → (Nat → Int32) → (Nat → Int32) → (Nat → Int32) → (Nat → Int32) → (Nat → Int32) → (Nat → Int32) → (Nat → Int32) → (Nat → Int32) → (Nat → Int32) → (Nat → Int32) → (Nat → Int32) → (Nat → Int32) → (Nat → Int32) → (Nat → Int32) → (Nat → Int32) → (Nat → Int32) → Prop),
        (∀ ln L D F C Z O, fk_C ar (fm_row ar pat pl rc f) c f s (c ^ s) C → fk_O ar (fm_row ar pat pl rc f) c f s (c ^ s) Z O → fk_E f yCt yOz yOp C Z O →
          J57 (nI (c ^ (s + 1))) (nI (s + 1)) (nI c) ydr ynd ln yal ygl yst ybl yhw yrn ywk (fo_n ar) yDk yDw yK yW (fo_n pl) yRl (fo_n rc) yHd yLf yRg ySz L ySk ySt yAr yGv F D yPc yBd yWk yWw yOw C Z O (upd yKn f 1)) →
        ∀ d j ln L D F C Z O, j + d = c ^ s → fk_C ar (fm_row ar pat pl rc f) c f s j C → fk_O ar (fm_row ar pat pl rc f) c f s j Z O → fk_E f yCt yOz yOp C Z O →
          wY_know_66 post J57 (nI f) (nI (c ^ s)) (nI s) (d + 1) (nI j) (nI c) ydr ynd ln yal ygl yst ybl yhw yrn ywk (fo_n ar) yDk yDw yK yW (fo_n pl) yRl (fo_n rc) yHd yLf yRg ySz L ySk ySt yAr yGv F D yPc yBd yWk yWw yOw C Z O (upd yKn f 1) := by
      intro s h1s hs J57 hJ d
      have hpow := fd_pow hc hs
      induction d with
      | zero =>
        intro j ln L D F C Z O hj hC hO hE
        have e : j = c ^ s := by omega
        subst e
        refine br_t (nI_le (Nat.le_refl _) (by omega)) (nm_r (e' := nI (c ^ (s + 1))) ?_ (nm_r (nI_1 s) (hJ ln L D F C Z O hC hO hE)))
        rw [pk_mul, Nat.pow_succ]
      | succ d ih =>
        intro j ln L D F C Z O hj hC hO hE
        have h0c : 0 < c := by
          refine Classical.byContradiction fun z => ?_
          have e : c = 0 := by omega
          rw [e, Nat.zero_pow (by omega)] at hj
          omega
        refine br_f (nI_ge (by omega) (by omega)) (nm_r (e' := nI s + (-1)) (Int32.sub_eq_add_neg _ _) ⟨s + 1, ?_⟩)
        have := y_kn86 (post := post) (J57 := J57) (x2 := nI (c ^ s)) (pat := pat) (yCt := C) (yOz := Z) (yOp := O) (yEn := D) (yF := F) (yKn := upd yKn f 1) (j := j) hc ha hf hrc h1s hs (by omega) h0c hP hC hO hE (fun L' D' F' C' Z' O' b1 b2 b3 => ih (j + 1) (nI s) L' D' F' C' Z' O' (by omega) b1 b2 b3) s L (Nat.le_refl _) (fun i b1 b2 => by omega)
        rw [Nat.sub_self, Nat.pow_zero, Nat.div_one] at this
        exact this
    have sizes : ∀ d s ln L D F C Z O, s + d = 6 → 1 ≤ s → fk_C ar (fm_row ar pat pl rc f) c f s 0 C → fk_O ar (fm_row ar pat pl rc f) c f s 0 Z O → fk_E f yCt yOz yOp C Z O →
        wY_know_57 post (nI f) (d + 1) (nI (c ^ s)) (nI s) (nI c) ydr ynd ln yal ygl yst ybl yhw yrn ywk (fo_n ar) yDk yDw yK yW (fo_n pl) yRl (fo_n rc) yHd yLf yRg ySz L ySk ySt yAr yGv F D yPc yBd yWk yWw yOw C Z O (upd yKn f 1) := by
      intro d
      induction d with
      | zero =>
        intro s ln L D F C Z O hs h1s hC hO hE
        have e : s = 6 := by omega
        subst e
        refine br_t (nI_le (a := 6) (by omega) (by omega)) (hp ln L D F C Z O _ (fun f' hf' => ?_) pk_us)
        by_cases q : f' = f
        · subst q; exact fk_know pk_us hC hO
        · exact fk_other (hK f' hf') q (pk_un q) hE
      | succ d ih =>
        intro s ln L D F C Z O hs h1s hC hO hE
        refine br_f (nI_ge (b := 6) (by omega) (by decide)) ⟨c ^ s + 1, numbers s h1s (by omega) _ (fun ln' L' D' F' C' Z' O' b1 b2 b3 => ih (s + 1) ln' L' D' F' C' Z' O' (by omega) (by omega) ?_ ?_ b3) (c ^ s) 0 ln L D F C Z O (by omega) hC hO hE⟩
        · intro s' r h1 h2 h3
          rw [← fk_next]; exact b1 s' r h1 h2 h3
        · rcases b2 with ⟨o1, o2⟩ | ⟨z, j0, a1, a2, a3, a4⟩
          · exact Or.inl ⟨o1, fun s' h1 h2 => by rw [← fk_next]; exact o2 s' h1 h2⟩
          · exact Or.inr ⟨z, j0, a1, a2, by omega, a4⟩
    have zero : ∀ d i C, i + d = 30 → (∀ q, q < i → C (30 * f + q) = nI 0) → (∀ q, (q < 30 * f ∨ 30 * f + 30 ≤ q) → C q = yCt q) →
        wY_know_26 post (nI f) (nI c) ydr ynd yln yal ygl yst ybl yhw yrn ywk (d + 1) (nI i) (fo_n ar) yDk yDw yK yW (fo_n pl) yRl (fo_n rc) yHd yLf yRg ySz yLi ySk ySt yAr yGv yF yEn yPc yBd yWk yWw yOw C (upd yOz f 0) yOp (upd yKn f 1) := by
      intro d
      induction d with
      | zero =>
        intro i C hi h1 h2
        have cz : ∀ s' r, 1 ≤ s' → fk_cc ar (fm_row ar pat pl rc f) c 1 0 s' r = 0 := fun s' r h => by
          unfold fk_cc
          rw [if_neg (by omega)]
          by_cases e : s' = 1
          · rw [if_pos e]; rfl
          · rw [if_neg e]
        refine br_t (nI_le (a := 30) (by omega) (by omega)) ⟨6, ?_⟩
        have := sizes 5 1 yln yLi yEn yF C (upd yOz f 0) yOp rfl (Nat.le_refl _) (fun s' r a b d => ?_) (Or.inl ⟨pk_us, fun s' a b => cz s' 0 a⟩) ⟨h2, fun q hq => pk_un hq, fun q _ => rfl⟩
        · rw [Nat.pow_one] at this
          exact this
        · rw [cz s' r a, show 30 * f + 5 * r + (s' - 1) = 30 * f + (5 * r + (s' - 1)) by omega, h1 _ (by omega)]
      | succ d ih =>
        intro i C hi h1 h2
        have e : 30 * nI f + nI i = nI (30 * f + i) := by rw [fo_30m, nI_add]
        refine br_f (nI_ge (b := 30) (by omega) (by decide)) ⟨by rw [e]; exact vp_in_nI (by omega) (by decide), nm_r (e' := upd C (30 * f + i) (nI 0)) (by rw [e, nI_clamp (by omega)]; rfl) (nm_r (nI_1 i) (ih (i + 1) _ (by omega) ?_ ?_))⟩
        · intro q hq
          by_cases z : q = i
          · subst z; exact pk_us
          · rw [pk_un (by omega)]; exact h1 q (by omega)
        · intro q hq
          rw [pk_un (by omega)]; exact h2 q hq
    refine ⟨hin, br_t (by rw [ef]; exact k0) ⟨hin, nm_r (e' := upd yKn f 1) (by rw [ef]; rfl) ⟨hin, nm_r (e' := upd yOz f 0) (by rw [ef]) ⟨31, zero 30 0 yCt rfl (fun q hq => by omega) (fun q _ => rfl)⟩⟩⟩⟩
  · refine ⟨hin, br_f (by rw [ef, k1.1]; decide) (hp yln yLi yEn yF yCt yOz yOp yKn hK k1.1)⟩
end
