/-- the draft is a value -/
def fo_dv (ar T : Nat → Nat) (n : Nat) : Prop := (∀ i, i < n → T i / 8 = 2) ∧ 0 < n ∧ fe_pe (fm_o ar T) n 0 = n
section
variable {xcc xdr xas xss xnc xdp xoc xrs xrt xrf xrz : Int32} {xA xD xDe xUw xRc xP xPe xPl xO xOl xAr xS xSe xSn xF xNc xNf xNs xNz xCr xCn xCv xOp xRl xTa xUt : Nat → Int32}
theorem x_idv_loop {post : Int32 → SX → Prop} {ar T : Nat → Nat} {c n : Nat} (hc : c ≤ 6) (hn : n ≤ 40) (ha : ∀ i, ar i ≤ 2)
    (hT : ∀ i, i < n → fo_tk c (T i) ∧ xD i = nI (T i)) (h0 : ¬ fo_dv ar T n → ∀ D, post 0 (xcc, nI n, xas, xss, xnc, xdp, xoc, xrs, xrt, xrf, xrz, fo_n ar, xD, D, xUw, xRc, xP, xPe, xPl, xO, xOl, xAr, xS, xSe, xSn, xF, xNc, xNf, xNs, xNz, xCr, xCn, xCv, xOp, xRl, xTa, xUt))
    (h1 : fo_dv ar T n → ∀ D, post 1 (xcc, nI n, xas, xss, xnc, xdp, xoc, xrs, xrt, xrf, xrz, fo_n ar, xD, D, xUw, xRc, xP, xPe, xPl, xO, xOl, xAr, xS, xSe, xSn, xF, xNc, xNf, xNs, xNz, xCr, xCn, xCv, xOp, xRl, xTa, xUt)) :
    ∀ d i, i + d = n → (∀ j, j < i → T j / 8 = 2) → wX_isDraftValue_2 post xcc (nI n) xas xss xnc xdp xoc xrs xrt xrf xrz (fo_n ar) xD xDe xUw xRc xP xPe xPl xO xOl xAr xS xSe xSn xF xNc xNf xNs xNz xCr xCn xCv xOp xRl xTa xUt (d + 1) (nI i) := by
  intro d
  induction d with
  | zero =>
    intro i hi h
    have : i = n := by omega
    subst this
    refine br_t (nI_le (Nat.le_refl _) (by omega)) (x_md hc hn ha hT (fun D hD => ?_))
    refine pk_le i 0 (fun z => h0 (fun g => by have := g.2.1; omega) D) (fun z => ?_)
    rw [hD 0 z]
    have hr := fe_pe_rng (fm_o ar T) (n := i) (i := 0) (by omega)
    exact pk_eq (fe_pe (fm_o ar T) i 0) i (fun w => h1 ⟨h, z, w⟩ D) (fun w => h0 (fun g => w g.2.2) D)
  | succ d ih =>
    intro i hi h
    obtain ⟨ht, hx⟩ := hT i (by omega)
    have h48 := fo_tk_le ht
    refine br_f (nI_ge (by omega) (by omega)) ⟨vp_in_nI (by omega) (by decide), by decide, ?_⟩
    rw [nI_clamp (by omega), hx, fo_d8 (by omega)]
    refine pk_eq (T i / 8) 2 (fun k2 => nm_r (nI_1 i) (ih (i + 1) (by omega) ?_)) (fun k2 => h0 (fun g => k2 (g.1 i (by omega))) xDe)
    intro j hj
    by_cases e : j = i
    · subst e; exact k2
    · exact h j (by omega)
theorem x_give19 {post : Int32 → SX → Prop} {T : Nat → Nat} {n : Nat} {A : Nat → Int32} {b : Int32} (hn : n ≤ 40) (hb : ¬ b = 0)
    (hT : ∀ i, i < n → T i < 48 ∧ xD i = nI (T i)) (hp : post xas (xcc, 0, xas, xss, xnc, xdp, xoc, xrs, xrt, xrf, xrz, xA, xD, xDe, xUw, xRc, xP, xPe, xPl, xO, xOl, fo_cp A (fo_n fun q => T q % 8) n, xS, xSe, xSn, xF, xNc, xNf, xNs, xNz, xCr, xCn, xCv, xOp, xRl, xTa, xUt)) :
    ∀ d i B, i + d = n → B = fo_cp A (fo_n fun q => T q % 8) i → wX_give_19 post b xcc (nI n) xas xss xnc xdp xoc xrs xrt xrf xrz (d + 1) (nI i) xA xD xDe xUw xRc xP xPe xPl xO xOl B xS xSe xSn xF xNc xNf xNs xNz xCr xCn xCv xOp xRl xTa xUt := by
  intro d
  induction d with
  | zero =>
    intro i B hi hB
    subst hB
    have : i = n := by omega
    subst this
    exact br_t (nI_le (Nat.le_refl _) (by omega)) (br_f hb hp)
  | succ d ih =>
    intro i B hi hB
    subst hB
    obtain ⟨h48, hx⟩ := hT i (by omega)
    refine br_f (nI_ge (by omega) (by omega)) ⟨vp_in_nI (by omega) (by decide), by decide, vp_in_nI (by omega) (by decide), nm_e (nm_r (nI_1 i) (ih (i + 1) _ (by omega) ?_))⟩
    rw [nI_clamp (by omega), hx, fo_r8 (by omega), ← fo_cpS]
    rfl
theorem x_give {post : Int32 → SX → Prop} {ar T : Nat → Nat} {c n : Nat} (hc : c ≤ 6) (hn : n ≤ 40) (ha : ∀ i, ar i ≤ 2)
    (hT : ∀ i, i < n → fo_tk c (T i) ∧ xD i = nI (T i)) (h0 : ¬ fo_dv ar T n → ∀ D, post (-2) (xcc, 0, xas, xss, xnc, xdp, xoc, xrs, xrt, xrf, xrz, fo_n ar, xD, D, xUw, xRc, xP, xPe, xPl, xO, xOl, xAr, xS, xSe, xSn, xF, xNc, xNf, xNs, xNz, xCr, xCn, xCv, xOp, xRl, xTa, xUt))
    (h1 : fo_dv ar T n → ∀ D, post (nI n) (xcc, 0, nI n, xss, xnc, xdp, xoc, xrs, xrt, xrf, xrz, fo_n ar, xD, D, xUw, xRc, xP, xPe, xPl, xO, xOl, fo_cp xAr (fo_n fun q => T q % 8) n, xS, xSe, xSn, xF, xNc, xNf, xNs, xNz, xCr, xCn, xCv, xOp, xRl, xTa, xUt)) :
    wpX_give post (xcc, nI n, xas, xss, xnc, xdp, xoc, xrs, xrt, xrf, xrz, fo_n ar, xD, xDe, xUw, xRc, xP, xPe, xPl, xO, xOl, xAr, xS, xSe, xSn, xF, xNc, xNf, xNs, xNz, xCr, xCn, xCv, xOp, xRl, xTa, xUt) := by
  refine ⟨n + 1, x_idv_loop hc hn ha hT (fun g D => br_t rfl (br_t rfl (h0 g D))) (fun g D => br_f fo_z1 ⟨n + 1, ?_⟩) n 0 (by omega) (fun j hj => by omega)⟩
  exact x_give19 hn fo_z1 (fun i hi => ⟨fo_tk_le (hT i hi).1, (hT i hi).2⟩) (h1 g D) n 0 xAr (by omega) (fo_cp0 _ _).symm
end
section
variable {ycc ydr ynd yln yal ygl yst ybl yhw yrn ywk : Int32} {yA yDk yDw yK yW yPl yRl yRc yHd yLf yRg ySz yLi ySk ySt yAr yGv yF yEn yPc yBd yWk yWw yOw yCt yOz yOp yKn : Nat → Int32}
theorem y_give77 {post : Int32 → SY → Prop} {n : Nat} {A : Nat → Int32} (hn : n ≤ 40) (hp : post (nI n) (ycc, ydr, ynd, yln, yal, ygl, yst, ybl, yhw, yrn, ywk, yA, yDk, yDw, yK, yW, yPl, yRl, yRc, yHd, yLf, yRg, ySz, yLi, ySk, ySt, fo_cp A yDw n, yGv, yF, yEn, yPc, yBd, yWk, yWw, yOw, yCt, yOz, yOp, yKn)) :
    ∀ d i B, i + d = n → B = fo_cp A yDw i → wY_give_77 post (nI n) ycc ydr ynd yln yal ygl yst ybl yhw yrn ywk (d + 1) (nI i) yA yDk yDw yK yW yPl yRl yRc yHd yLf yRg ySz yLi ySk ySt B yGv yF yEn yPc yBd yWk yWw yOw yCt yOz yOp yKn := by
  intro d
  induction d with
  | zero =>
    intro i B hi hB
    subst hB
    have : i = n := by omega
    subst this
    exact br_t (nI_le (Nat.le_refl _) (by omega)) hp
  | succ d ih =>
    intro i B hi hB
    subst hB
    refine br_f (nI_ge (by omega) (by omega)) ⟨vp_in_nI (by omega) (by decide), vp_in_nI (by omega) (by decide), nm_e (nm_r (nI_1 i) (ih (i + 1) _ (by omega) ?_))⟩
    rw [nI_clamp (by omega), fo_cpS]
theorem y_give26 {post : Int32 → SY → Prop} {T : Nat → Nat} {n : Nat} {x1 : Int32} {b0 : Prop} (hn : n ≤ 40)
    (hT : ∀ i, i < n → T i < 48 ∧ yDk i = nI (T i / 8)) (hx : b0 → x1 = nI n) (h0 : ¬ (b0 ∧ ∀ i, i < n → T i / 8 = 2) → post (-2) (ycc, 0, ynd, yln, yal, ygl, yst, ybl, yhw, yrn, ywk, yA, yDk, yDw, yK, yW, yPl, yRl, yRc, yHd, yLf, yRg, ySz, yLi, ySk, ySt, yAr, yGv, yF, yEn, yPc, yBd, yWk, yWw, yOw, yCt, yOz, yOp, yKn))
    (h1 : b0 → (∀ i, i < n → T i / 8 = 2) → post (nI n) (ycc, 0, ynd, yln, nI n, ygl, yst, ybl, yhw, yrn, ywk, yA, yDk, yDw, yK, yW, yPl, yRl, yRc, yHd, yLf, yRg, ySz, yLi, ySk, ySt, fo_cp yAr yDw n, yGv, yF, yEn, yPc, yBd, yWk, yWw, yOw, yCt, yOz, yOp, yKn)) :
    ∀ d i b, i + d = n → (b = true ↔ b0 ∧ ∀ j, j < i → T j / 8 = 2) → wY_give_26 post x1 ycc (nI n) ynd yln yal ygl yst ybl yhw yrn ywk yA yDk yDw yK yW yPl yRl yRc yHd yLf yRg ySz yLi ySk ySt yAr yGv yF yEn yPc yBd yWk yWw yOw yCt yOz yOp yKn (d + 1) (fo_b b) (nI i) := by
  intro d
  induction d with
  | zero =>
    intro i b hi hb
    have : i = n := by omega
    subst this
    refine br_t (nI_le (Nat.le_refl _) (by omega)) (fo_br (fun z => h0 (fun g => ?_)) (fun z => ?_))
    · rw [hb.mpr g] at z; cases z
    · obtain ⟨g1, g2⟩ := hb.mp z
      rw [hx g1]
      exact ⟨i + 1, y_give77 hn (h1 g1 g2) i 0 yAr (by omega) (fo_cp0 _ _).symm⟩
  | succ d ih =>
    intro i b hi hb
    obtain ⟨h48, hk⟩ := hT i (by omega)
    refine br_f (nI_ge (by omega) (by omega)) ⟨vp_in_nI (by omega) (by decide), ?_⟩
    rw [nI_clamp (by omega), hk]
    refine pk_eq (T i / 8) 2 (fun k2 => nm_r (e' := fo_b b) ?_ (nm_r (nI_1 i) (ih (i + 1) b (by omega) ?_))) (fun k2 => nm_r (e' := fo_b false) ?_ (nm_r (nI_1 i) (ih (i + 1) false (by omega) ?_)))
    · cases b <;> decide
    · rw [hb]
      refine and_congr_right (fun _ => ⟨fun h j hj => ?_, fun h j hj => h j (by omega)⟩)
      by_cases e : j = i
      · subst e; exact k2
      · exact h j (by omega)
    · cases b <;> decide
    · constructor
      · intro z; cases z
      · intro g; exact absurd (g.2 i (by omega)) k2
theorem y_give {post : Int32 → SY → Prop} {ar T : Nat → Nat} {c n : Nat} (hc : c ≤ 6) (hn : n ≤ 40) (ha : ∀ i, ar i ≤ 2)
    (hT : ∀ i, i < n → fo_tk c (T i) ∧ yDk i = nI (T i / 8) ∧ (T i / 8 = 2 → yDw i = nI (T i % 8))) (h0 : ¬ fo_dv ar T n → post (-2) (ycc, 0, ynd, yln, yal, ygl, yst, ybl, yhw, yrn, ywk, fo_n ar, yDk, yDw, yK, yW, yPl, yRl, yRc, yHd, yLf, yRg, ySz, yLi, ySk, ySt, yAr, yGv, yF, yEn, yPc, yBd, yWk, yWw, yOw, yCt, yOz, yOp, yKn))
    (h1 : fo_dv ar T n → post (nI n) (ycc, 0, ynd, yln, nI n, ygl, yst, ybl, yhw, yrn, ywk, fo_n ar, yDk, yDw, yK, yW, yPl, yRl, yRc, yHd, yLf, yRg, ySz, yLi, ySk, ySt, fo_cp yAr yDw n, yGv, yF, yEn, yPc, yBd, yWk, yWw, yOw, yCt, yOz, yOp, yKn)) : wpY_give post (ycc, nI n, ynd, yln, yal, ygl, yst, ybl, yhw, yrn, ywk, fo_n ar, yDk, yDw, yK, yW, yPl, yRl, yRc, yHd, yLf, yRg, ySz, yLi, ySk, ySt, yAr, yGv, yF, yEn, yPc, yBd, yWk, yWw, yOw, yCt, yOz, yOp, yKn) := by
  have hr := fe_pe_rng (fm_o ar T) (n := n) (i := 0) (by omega)
  have hT' : ∀ i, i < n → T i < 48 ∧ yDk i = nI (T i / 8) := fun i hi => ⟨fo_tk_le (hT i hi).1, (hT i hi).2.1⟩
  have no : ∀ x1 : Int32, ¬ (0 < n ∧ fe_pe (fm_o ar T) n 0 = n) → wY_give_26 post x1 ycc (nI n) ynd yln yal ygl yst ybl yhw yrn ywk (fo_n ar) yDk yDw yK yW yPl yRl yRc yHd yLf yRg ySz yLi ySk ySt yAr yGv yF yEn yPc yBd yWk yWw yOw yCt yOz yOp yKn (n + 1) 0 0 := fun x1 h =>
    y_give26 (b0 := False) hn hT' (fun z => z.elim) (fun _ => h0 (fun g => h g.2)) (fun z => z.elim) n 0 false (by omega) ⟨fun z => (by cases z), fun z => z.1.elim⟩
  refine y_eo (T := T) (i := 0) hc hn ha (Nat.zero_le _) hT (fun z => br_t (by decide) ⟨n + 1, no _ ?_⟩) (fun z => ?_)
  · omega
  · refine pk_le (fe_pe (fm_o ar T) n 0) 0 (fun w => ⟨n + 1, no _ (by omega)⟩) (fun w => pk_eq (fe_pe (fm_o ar T) n 0) n (fun y => ⟨n + 1, ?_⟩) (fun y => ⟨n + 1, no _ (by omega)⟩))
    refine y_give26 (b0 := True) hn hT' (fun _ => by rw [y]) (fun g => h0 (fun g2 => g ⟨trivial, g2.1⟩)) (fun _ g => h1 ⟨g, by omega, y⟩) n 0 true (by omega) ⟨fun _ => ⟨trivial, fun j hj => by omega⟩, fun _ => rfl⟩
end
theorem fo_dvv {ar T : Nat → Nat} {c n : Nat} (hT : ∀ i, i < n → fo_tk c (T i)) (h : fo_dv ar T n) (hn : n ≤ 40) (A : Nat → Int32) :
    fR_val ar c n (fun q => T q % 8) (fo_cp A (fo_n fun q => T q % 8) n) := by
  refine ⟨hn, fe_full_congr (op := fm_o ar T) (fun j hj => fo_op2 (h.1 j hj)) ⟨h.2.1, by omega, h.2.2⟩, fun i hi => ⟨?_, by rw [fo_cpl hi]; rfl⟩⟩
  have h1 := hT i hi
  have h2 := h.1 i hi
  unfold fo_tk at h1
  show T i % 8 < c
  omega
theorem i_vc_give {k : Nat} {u : SX} {v : SY} (I : i_Rel k u v) (hk : k + 4 ≤ 2048) : wpX_give (fun r u' => wpY_give (fun r' v' => r' = r ∧ i_Rel (k + 4) u' v') v) u := by
  refine i_el (P := fun u v => wpX_give (fun r u' => wpY_give (fun r' v' => r' = r ∧ i_Rel (k + 4) u' v') v) u) I ?_
  intro c n m g ar rc pl T pat pre pos arg giv xss xnc xdp xoc xrs xrt xrf ynd yln yhw yrn ywk xD xDe xUw xP xPe xO xOl xAr xS xSe xSn xF xNc xNf xNs xNz xCr xCn xCv xOp xRl xTa xUt yDk yDw yK yW yHd yLf yRg ySz yLi ySk ySt yF yEn yPc yBd yWk yWw yOw yCt yOz yOp yKn G
  obtain ⟨g1, g2, g3, g4, g5, g6, g7, g8, g9⟩ := G
  have hX : ∀ i, i < n → fo_tk c (T i) ∧ xD i = nI (T i) := fun i hi => ⟨(g5 i hi).1, (g5 i hi).2.1⟩
  have hY : ∀ i, i < n → fo_tk c (T i) ∧ yDk i = nI (T i / 8) ∧ (T i / 8 = 2 → yDw i = nI (T i % 8)) := fun i hi =>
    ⟨(g5 i hi).1, (g5 i hi).2.2.1, fun z => (g5 i hi).2.2.2 (Or.inr (Or.inl z))⟩
  refine x_give g1 g2 g3 hX (fun q D => y_give g1 g2 g3 hY (fun _ => ⟨rfl, i_mk (c := c) (n := 0) (m := m) (g := g) (ar := ar) (rc := rc) (pl := pl) (T := T) (pat := pat) (pre := pre) (pos := pos) (arg := arg) (giv := giv) ?_⟩) (fun z => absurd z q)) (fun q D => y_give g1 g2 g3 hY (fun z => absurd q z) (fun _ => ⟨rfl, ?_⟩))
  · exact ⟨g1, by omega, g3, g4, fun i hi => by omega, g6, g7, g8, g9⟩
  · rw [show fo_cp xAr yDw n = fo_cp xAr (fo_n fun q => T q % 8) n from fo_cpc (fun z hz => (hY z hz).2.2 (q.1 z hz))]
    refine i_mk (c := c) (n := 0) (m := n) (g := g) (ar := ar) (rc := rc) (pl := pl) (T := T) (pat := pat) (pre := pre) (pos := pos) (arg := fun q => T q % 8) (giv := giv) ⟨g1, by omega, g3, g4, fun i hi => by omega, g6, Or.inr (fo_dvv (fun i hi => (hX i hi).1) q g2 xAr), g8, g9⟩
