/-- the first i cells copied -/
def fo_cp (A B : Nat → Int32) (i : Nat) : Nat → Int32 := fun q => if q < i then B q else A q
theorem fo_cp0 (A B : Nat → Int32) : fo_cp A B 0 = A := by
  funext q; unfold fo_cp; rw [if_neg (by omega)]
theorem fo_cpS (A B : Nat → Int32) (i : Nat) : upd (fo_cp A B i) i (B i) = fo_cp A B (i + 1) := by
  funext q
  unfold upd fo_cp
  by_cases e : q = i
  · subst e; rw [if_pos rfl, if_pos (by omega)]
  · rw [if_neg e]
    by_cases h : q < i
    · rw [if_pos h, if_pos (by omega)]
    · rw [if_neg h, if_neg (by omega)]
theorem fo_cpl {A B : Nat → Int32} {i q : Nat} (h : q < i) : fo_cp A B i q = B q := if_pos h
theorem fo_cpc {A B B' : Nat → Int32} {i : Nat} (h : ∀ q, q < i → B q = B' q) : fo_cp A B i = fo_cp A B' i := by
  funext q
  unfold fo_cp
  split
  · exact h q (by assumption)
  · rfl
theorem fR_know_n {ar : Nat → Nat} {rw1 rw2 : (Nat → Nat) → Nat → Nat} {c f : Nat} {yn yn' yc yz yo : Nat → Int32} (h : fR_know ar rw1 c f yn yc yz yo)
    (e : yn' f = yn f) (er : rw2 = rw1) : fR_know ar rw2 c f yn' yc yz yo := by
  subst er
  unfold fR_know
  rw [e]
  exact h
theorem fo_z1 : ¬ (1 : Int32) = 0 := by decide
theorem fo_vb0 : vp_nar .boolean 0 = 0 := rfl
theorem fo_vb1 : vp_nar .boolean 1 = 1 := rfl
section
variable {ycc ydr ynd yln yal ygl yst ybl yhw yrn ywk : Int32} {yA yDk yDw yK yW yPl yRl yRc yHd yLf yRg ySz yLi ySk ySt yAr yGv yF yEn yPc yBd yWk yWw yOw yCt yOz yOp yKn : Nat → Int32}
theorem y_con39 {post : Int32 → SY → Prop} (hp : ∀ K, (∀ q, q < 4 → K q = 0) → post (ycc - 1) (ycc, ydr, ynd, yln, yal, ygl, yst, ybl, yhw, yrn, ywk, yA, yDk, yDw, yK, yW, yPl, yRl, yRc, yHd, yLf, yRg, ySz, yLi, ySk, ySt, yAr, yGv, yF, yEn, yPc, yBd, yWk, yWw, yOw, yCt, yOz, yOp, K)) : ∀ d i K, i + d = 4 → (∀ q, q < i → K q = 0) →
    wY_con_39 post ycc ydr ynd yln yal ygl yst ybl yhw yrn ywk (d + 1) (nI i) yA yDk yDw yK yW yPl yRl yRc yHd yLf yRg ySz yLi ySk ySt yAr yGv yF yEn yPc yBd yWk yWw yOw yCt yOz yOp K := by
  intro d
  induction d with
  | zero =>
    intro i K hi h
    exact br_t (nI_le (a := 4) (by omega) (by omega)) (hp K (fun q hq => h q (by omega)))
  | succ d ih =>
    intro i K hi h
    refine br_f (nI_ge (b := 4) (by omega) (by omega)) ⟨vp_in_nI (by omega) (by decide), nm_r (e' := upd K i 0) (by rw [nI_clamp (by omega)]; rfl) (nm_r (nI_1 i) (ih (i + 1) _ (by omega) ?_))⟩
    intro q hq
    by_cases e : q = i
    · subst e; exact pk_us
    · rw [pk_un e]; exact h q (by omega)
end
section
variable {xcc xdr xas xss xnc xdp xoc xrs xrt xrf xrz : Int32} {xA xD xDe xUw xRc xP xPe xPl xO xOl xAr xS xSe xSn xF xNc xNf xNs xNz xCr xCn xCv xOp xRl xTa xUt : Nat → Int32}
theorem x_use19 {post : Int32 → SX → Prop} {g : Nat} {A : Nat → Int32} (hg : g ≤ 40) (hp : post xas (xcc, xdr, xas, xss, xnc, xdp, xoc, xrs, xrt, xrf, nI g, xA, xD, xDe, xUw, xRc, xP, xPe, xPl, xO, xOl, fo_cp A xRl g, xS, xSe, xSn, xF, xNc, xNf, xNs, xNz, xCr, xCn, xCv, xOp, xRl, xTa, xUt)) : ∀ d i B, i + d = g → B = fo_cp A xRl i →
    wX_use_19 post xcc xdr xas xss xnc xdp xoc xrs xrt xrf (nI g) (d + 1) (nI i) xA xD xDe xUw xRc xP xPe xPl xO xOl B xS xSe xSn xF xNc xNf xNs xNz xCr xCn xCv xOp xRl xTa xUt := by
  intro d
  induction d with
  | zero =>
    intro i B hi hB
    subst hB
    have : i = g := by omega
    subst this
    exact br_t (nI_le (Nat.le_refl _) (by omega)) hp
  | succ d ih =>
    intro i B hi hB
    subst hB
    refine br_f (nI_ge (by omega) (by omega)) ⟨vp_in_nI (by omega) (by decide), vp_in_nI (by omega) (by decide), nm_e (nm_r (nI_1 i) (ih (i + 1) _ (by omega) ?_))⟩
    rw [nI_clamp (by omega), fo_cpS]
end
section
variable {ycc ydr ynd yln yal ygl yst ybl yhw yrn ywk : Int32} {yA yDk yDw yK yW yPl yRl yRc yHd yLf yRg ySz yLi ySk ySt yAr yGv yF yEn yPc yBd yWk yWw yOw yCt yOz yOp yKn : Nat → Int32}
theorem y_use19 {post : Int32 → SY → Prop} {g : Nat} {A : Nat → Int32} (hg : g ≤ 40) (hp : post (nI g) (ycc, ydr, ynd, yln, yal, nI g, yst, ybl, yhw, yrn, ywk, yA, yDk, yDw, yK, yW, yPl, yRl, yRc, yHd, yLf, yRg, ySz, yLi, ySk, ySt, fo_cp A yGv g, yGv, yF, yEn, yPc, yBd, yWk, yWw, yOw, yCt, yOz, yOp, yKn)) : ∀ d i B, i + d = g → B = fo_cp A yGv i →
    wY_use_19 post ycc ydr ynd yln yal (nI g) yst ybl yhw yrn ywk (d + 1) (nI i) yA yDk yDw yK yW yPl yRl yRc yHd yLf yRg ySz yLi ySk ySt B yGv yF yEn yPc yBd yWk yWw yOw yCt yOz yOp yKn := by
  intro d
  induction d with
  | zero =>
    intro i B hi hB
    subst hB
    have : i = g := by omega
    subst this
    exact br_t (nI_le (Nat.le_refl _) (by omega)) hp
  | succ d ih =>
    intro i B hi hB
    subst hB
    refine br_f (nI_ge (by omega) (by omega)) ⟨vp_in_nI (by omega) (by decide), vp_in_nI (by omega) (by decide), nm_e (nm_r (nI_1 i) (ih (i + 1) _ (by omega) ?_))⟩
    rw [nI_clamp (by omega), fo_cpS]
end
