/-- the first i cells copied -/
def fo_cp (A B : Nat → Int32) (i : Nat) : Nat → Int32 := fun q => if q < i then B q else A q
theorem fo_cp0 (A B : Nat → Int32) : fo_cp A B 0 = A := by
  funext q; unfold fo_cp; rw [if_neg (by omega)]
theorem fo_cpS (A B : Nat → Int32) (i : Nat) : upd (fo_cp A B i) i (B i) = fo_cp A B (i + 1) := by
  funext q
  unfold upd fo_cp
  by_cases e : q = i
  · subst e; rw [if_pos rfl, if_pos (by omega)]
  · rw [if_neg e]
    by_cases h : q < i
    · rw [if_pos h, if_pos (by omega)]
    · rw [if_neg h, if_neg (by omega)]
theorem fo_cpl {A B : Nat → Int32} {i q : Nat} (h : q < i) : fo_cp A B i q = B q := if_pos h
theorem fo_cpc {A B B' : Nat → Int32} {i : Nat} (h : ∀ q, q < i → B q = B' q) : fo_cp A B i = fo_cp A B' i := by
  funext q
  unfold fo_cp
  split
  · exact h q (by assumption)
  · rfl
theorem fR_know_n {ar : Nat → Nat} {rw1 rw2 : (Nat → Nat) → Nat → Nat} {c f : Nat} {yn yn' yc yz yo : Nat → Int32} (h : fR_know ar rw1 c f yn yc yz yo)
    (e : yn' f = yn f) (er : rw2 = rw1) : fR_know ar rw2 c f yn' yc yz yo := by
  subst er
  unfold fR_know
  rw [e]
  exact h
theorem fo_z1 : ¬ (1 : Int32) = 0 := by decide
theorem fo_vb0 : vp_nar .boolean 0 = 0 := rfl
theorem fo_vb1 : vp_nar .boolean 1 = 1 := rfl
theorem i_vc0 : wpX_init (fun u => wpY_init (fun v => i_Rel 0 u v)) := by
  refine i_mk (c := 0) (n := 0) (m := 0) (g := 0) (ar := fun _ => 0) (rc := fun _ => 0) (pl := fun _ => 0) (T := fun _ => 0) (pat := fun _ _ => 0) (pre := fun _ => []) (pos := fun _ => []) (arg := fun _ => 0) (giv := fun _ => 0) ?_
  refine ⟨by omega, by omega, fun _ => by omega, fun _ => by omega, fun i hi => by omega, fun f i _ hi => by omega, Or.inl rfl, Or.inl ⟨rfl, rfl, rfl⟩, fun f _ => Or.inl rfl⟩
section
variable {ycc ydr ynd yln yal ygl yst ybl yhw yrn ywk : Int32} {yA yDk yDw yK yW yPl yRl yRc yHd yLf yRg ySz yLi ySk ySt yAr yGv yF yEn yPc yBd yWk yWw yOw yCt yOz yOp yKn : Nat → Int32}
theorem y_con39 {post : Int32 → SY → Prop} (hp : ∀ K, (∀ q, q < 4 → K q = 0) → post (ycc - 1) (ycc, ydr, ynd, yln, yal, ygl, yst, ybl, yhw, yrn, ywk, yA, yDk, yDw, yK, yW, yPl, yRl, yRc, yHd, yLf, yRg, ySz, yLi, ySk, ySt, yAr, yGv, yF, yEn, yPc, yBd, yWk, yWw, yOw, yCt, yOz, yOp, K)) : ∀ d i K, i + d = 4 → (∀ q, q < i → K q = 0) →
    wY_con_39 post ycc ydr ynd yln yal ygl yst ybl yhw yrn ywk (d + 1) (nI i) yA yDk yDw yK yW yPl yRl yRc yHd yLf yRg ySz yLi ySk ySt yAr yGv yF yEn yPc yBd yWk yWw yOw yCt yOz yOp K := by
  intro d
  induction d with
  | zero =>
    intro i K hi h
    exact br_t (nI_le (a := 4) (by omega) (by omega)) (hp K (fun q hq => h q (by omega)))
  | succ d ih =>
    intro i K hi h
    refine br_f (nI_ge (b := 4) (by omega) (by omega)) ⟨vp_in_nI (by omega) (by decide), nm_r (e' := upd K i 0) (by rw [nI_clamp (by omega)]; rfl) (nm_r (nI_1 i) (ih (i + 1) _ (by omega) ?_))⟩
    intro q hq
    by_cases e : q = i
    · subst e; exact pk_us
    · rw [pk_un e]; exact h q (by omega)
end
theorem i_vc_con {k : Nat} {u : SX} {v : SY} (I : i_Rel k u v) (hk : k + 4 ≤ 2048) (v1 : Int32) : wpX_con (fun r u' => wpY_con (fun r' v' => r' = r ∧ i_Rel (k + 4) u' v') v v1) u v1 := by
  obtain ⟨c, n, m, g, ar, rc, pl, T, pat, pre, pos, arg, giv, xss, xnc, xdp, xoc, xrs, xrt, xrf, ynd, yln, yhw, yrn, ywk, xD, xDe, xUw, xP, xPe, xO, xOl, xAr, xS, xSe, xSn, xF, xNc, xNf, xNs, xNz, xCr, xCn, xCv, xOp, xRl, xTa, xUt, yDk, yDw, yK, yW, yHd, yLf, yRg, ySz, yLi, ySk, ySt, yF, yEn, yPc, yBd, yWk, yWw, yOw, yCt, yOz, yOp, yKn, rfl, rfl, G⟩ := i_un I
  by_cases c6 : c = 6
  · subst c6
    exact br_t rfl (br_t rfl ⟨rfl, i_mk G⟩)
  · have hc := G.1
    have hc6 : ¬ nI c = 6 := fun z => c6 ((nI_eq (b := 6) (by omega) (by decide)).mp z)
    by_cases h0 : v1 < 0
    · exact br_f hc6 (br_t h0 (br_f hc6 (br_t h0 (br_t rfl ⟨rfl, i_mk G⟩))))
    · by_cases h2 : v1 ≤ 2
      · obtain ⟨a, ha, rfl⟩ := nI_of2 (n := 2) (M := 2) (by decide) h0 h2
        have eu : upd (fo_n ar) (nI c).toNatClampNeg (nI a) = fo_n (fo_u ar c a) := by rw [nI_clamp (by omega), fo_nu]
        refine br_f hc6 (br_f h0 (br_t h2 ⟨vp_in_nI (by omega) (by decide), nm_r eu (nm_r (nI_1 c) ?_)⟩))
        refine br_f hc6 (br_f h0 (br_f (nI_nlt (a := 2) (by omega) (by omega)) (br_f fo_z1 (nm_r (nI_1 c) ⟨vp_in_nI (by omega) (by decide), nm_r eu ⟨5, y_con39 (fun K hK => ⟨rfl, i_mk (c := c + 1) (n := n) (m := m) (g := g) (ar := fo_u ar c a) (rc := rc) (pl := pl) (T := T) (pat := pat) (pre := pre) (pos := pos) (arg := arg) (giv := giv) ?_⟩) 4 0 _ rfl (fun q hq => by omega)⟩⟩))))
        obtain ⟨g1, g2, g3, g4, g5, g6, g7, g8, g9⟩ := G
        refine ⟨by omega, g2, fun i => ?_, g4, fR_draft_up g5, fun f i hf hi => fR_row_up (g6 f i hf hi), g7.imp id fR_val_up, ?_, fun f hf => Or.inl (hK f hf)⟩
        · by_cases e : i = c
          · subst e; rw [fo_us]; exact ha
          · rw [fo_un e]; exact g3 i
        · rcases g8 with h | ⟨h1, h2, h3⟩ | h
          · exact Or.inl h
          · exact Or.inr (Or.inl ⟨h1, h2, fR_val_up h3⟩)
          · exact Or.inr (Or.inr h)
      · refine br_f hc6 (br_f h0 (br_f h2 (br_f hc6 (br_f h0 (br_t ?_ (br_t rfl ⟨rfl, i_mk G⟩))))))
        exact Int32.not_le.mp h2
theorem i_vc_drop {k : Nat} {u : SX} {v : SY} (I : i_Rel k u v) (hk : k + 4 ≤ 2048) (v1 : Int32) : wpX_drop (fun r u' => wpY_drop (fun r' v' => r' = r ∧ i_Rel (k + 4) u' v') v v1) u v1 := by
  obtain ⟨c, n, m, g, ar, rc, pl, T, pat, pre, pos, arg, giv, xss, xnc, xdp, xoc, xrs, xrt, xrf, ynd, yln, yhw, yrn, ywk, xD, xDe, xUw, xP, xPe, xO, xOl, xAr, xS, xSe, xSn, xF, xNc, xNf, xNs, xNz, xCr, xCn, xCv, xOp, xRl, xTa, xUt, yDk, yDw, yK, yW, yHd, yLf, yRg, ySz, yLi, ySk, ySt, yF, yEn, yPc, yBd, yWk, yWw, yOw, yCt, yOz, yOp, yKn, rfl, rfl, G⟩ := i_un I
  rcases fo_f4 v1 with h | ⟨f, hf, rfl⟩
  · exact x_isF0 h (br_t rfl (y_in0 h (br_t rfl ⟨rfl, i_mk G⟩)))
  · have hi : vp_in (nI f) 4 := vp_in_nI hf (by decide)
    have eu : upd (fo_n rc) (nI f).toNatClampNeg 0 = fo_n (fo_u rc f 0) := by rw [nI_clamp (by omega)]; exact fo_nu rc f 0
    have ek : upd yKn (nI f).toNatClampNeg (vp_nar .boolean 0) = upd yKn f 0 := by rw [nI_clamp (by omega)]; rfl
    refine x_isF1 hf (br_f fo_z1 ⟨hi, fun x ex => ⟨hi, nm_r eu ?_⟩⟩)
    refine y_in1 hf (br_f fo_z1 ⟨hi, fun y ey => ⟨hi, nm_r eu ⟨hi, nm_r ek ⟨ey.trans ex.symm, i_mk (c := c) (n := n) (m := m) (g := g) (ar := ar) (rc := fo_u rc f 0) (pl := pl) (T := T) (pat := pat) (pre := pre) (pos := pos) (arg := arg) (giv := giv) ?_⟩⟩⟩⟩)
    obtain ⟨g1, g2, g3, g4, g5, g6, g7, g8, g9⟩ := G
    refine ⟨g1, g2, g3, fun f' => ?_, g5, fun f' i hf' hi' => ?_, g7, g8, fun f' hf' => ?_⟩
    · by_cases e : f' = f
      · subst e; rw [fo_us]; omega
      · rw [fo_un e]; exact g4 f'
    · by_cases e : f' = f
      · subst e; rw [fo_us] at hi'; omega
      · rw [fo_un e] at hi'; exact g6 f' i hf' hi'
    · by_cases e : f' = f
      · subst e; exact Or.inl pk_us
      · refine fR_know_n (g9 f' hf') (pk_un e) ?_
        funext S m'
        exact fm_row_congr S m' (fo_un e) (fun i _ => ⟨rfl, rfl⟩)
theorem i_vc_result {k : Nat} {u : SX} {v : SY} (I : i_Rel k u v) (hk : k + 4 ≤ 2048) (v1 : Int32) : wpX_result (fun r => wpY_result (fun r' => r' = r ∧ i_Rel (k + 4) u v) v v1) u v1 := by
  obtain ⟨c, n, m, g, ar, rc, pl, T, pat, pre, pos, arg, giv, xss, xnc, xdp, xoc, xrs, xrt, xrf, ynd, yln, yhw, yrn, ywk, xD, xDe, xUw, xP, xPe, xO, xOl, xAr, xS, xSe, xSn, xF, xNc, xNf, xNs, xNz, xCr, xCn, xCv, xOp, xRl, xTa, xUt, yDk, yDw, yK, yW, yHd, yLf, yRg, ySz, yLi, ySk, ySt, yF, yEn, yPc, yBd, yWk, yWw, yOw, yCt, yOz, yOp, yKn, rfl, rfl, G⟩ := i_un I
  have I' := i_up I
  have bad : g = 0 → wpY_result (fun r' => r' = -1 ∧ i_Rel (k + 4) (nI c, nI n, nI m, xss, xnc, xdp, xoc, xrs, xrt, xrf, nI g, fo_n ar, xD, xDe, xUw, fo_n rc, xP, xPe, fo_n pl, xO, xOl, xAr, xS, xSe, xSn, xF, xNc, xNf, xNs, xNz, xCr, xCn, xCv, xOp, xRl, xTa, xUt) (nI c, nI n, ynd, yln, nI m, nI g, xrt, xrf, yhw, yrn, ywk, fo_n ar, yDk, yDw, yK, yW, fo_n pl, xOl, fo_n rc, yHd, yLf, yRg, ySz, yLi, ySk, ySt, xAr, xRl, yF, yEn, yPc, yBd, yWk, yWw, yOw, yCt, yOz, yOp, yKn)) (nI c, nI n, ynd, yln, nI m, nI g, xrt, xrf, yhw, yrn, ywk, fo_n ar, yDk, yDw, yK, yW, fo_n pl, xOl, fo_n rc, yHd, yLf, yRg, ySz, yLi, ySk, ySt, xAr, xRl, yF, yEn, yPc, yBd, yWk, yWw, yOw, yCt, yOz, yOp, yKn) v1 := fun hg => by
    subst hg
    by_cases h0 : v1 < 0
    · exact br_t h0 (br_t rfl ⟨rfl, I'⟩)
    · refine br_f h0 (br_t ?_ (br_t rfl ⟨rfl, I'⟩))
      obtain ⟨j, hj, rfl⟩ := nI_of h0
      exact Int32.lt_of_lt_of_le (by decide : nI 0 - 1 < 0) (nI_pos' hj)
  rcases G.2.2.2.2.2.2.2.1 with ⟨h1, h2, h3⟩ | ⟨h1, h2, h3⟩ | ⟨h1, h2, h3, h4⟩
  · exact br_f (by rw [h1]; decide) (bad h3)
  · obtain ⟨q1, q2, q3⟩ := h3
    refine br_t h2 ?_
    have e1 : nI g - 1 = nI (g - 1) := fo_s1 q2.1
    by_cases h0 : v1 < 0
    · exact br_t h0 (br_t h0 (br_t rfl ⟨rfl, I'⟩))
    · obtain ⟨j, hj, rfl⟩ := nI_of h0
      refine br_f h0 ?_
      by_cases hg : j < g
      · have hi : vp_in (nI j) 40 := vp_in_nI (by omega) (by decide)
        refine br_t (nI_lt hg (by omega)) ⟨hi, br_f h0 (br_f ?_ (br_f fo_z1 ⟨hi, rfl, I'⟩))⟩
        rw [e1]; exact nI_nlt (by omega) (by omega)
      · refine br_f (nI_nlt (by omega) hj) (br_f h0 (br_t ?_ (br_t rfl ⟨rfl, I'⟩)))
        rw [e1]; exact nI_lt (by omega) hj
  · exact br_f h2 (bad h4)
theorem i_vc_ran {k : Nat} {u : SX} {v : SY} (I : i_Rel k u v) (hk : k + 4 ≤ 2048) (v1 : Int32) : wpX_ran (fun r => wpY_ran (fun r' => r' = r ∧ i_Rel (k + 4) u v) v v1) u v1 := by
  obtain ⟨c, n, m, g, ar, rc, pl, T, pat, pre, pos, arg, giv, xss, xnc, xdp, xoc, xrs, xrt, xrf, ynd, yln, yhw, yrn, ywk, xD, xDe, xUw, xP, xPe, xO, xOl, xAr, xS, xSe, xSn, xF, xNc, xNf, xNs, xNz, xCr, xCn, xCv, xOp, xRl, xTa, xUt, yDk, yDw, yK, yW, yHd, yLf, yRg, ySz, yLi, ySk, ySt, yF, yEn, yPc, yBd, yWk, yWw, yOw, yCt, yOz, yOp, yKn, rfl, rfl, G⟩ := i_un I
  have I' := i_up I
  have go : yrn = 1 → xrs ≠ -2 → wpX_ran (fun r => wpY_ran (fun r' => r' = r ∧ i_Rel (k + 4) (nI c, nI n, nI m, xss, xnc, xdp, xoc, xrs, xrt, xrf, nI g, fo_n ar, xD, xDe, xUw, fo_n rc, xP, xPe, fo_n pl, xO, xOl, xAr, xS, xSe, xSn, xF, xNc, xNf, xNs, xNz, xCr, xCn, xCv, xOp, xRl, xTa, xUt) (nI c, nI n, ynd, yln, nI m, nI g, xrt, xrf, yhw, yrn, ywk, fo_n ar, yDk, yDw, yK, yW, fo_n pl, xOl, fo_n rc, yHd, yLf, yRg, ySz, yLi, ySk, ySt, xAr, xRl, yF, yEn, yPc, yBd, yWk, yWw, yOw, yCt, yOz, yOp, yKn)) (nI c, nI n, ynd, yln, nI m, nI g, xrt, xrf, yhw, yrn, ywk, fo_n ar, yDk, yDw, yK, yW, fo_n pl, xOl, fo_n rc, yHd, yLf, yRg, ySz, yLi, ySk, ySt, xAr, xRl, yF, yEn, yPc, yBd, yWk, yWw, yOw, yCt, yOz, yOp, yKn) v1) (nI c, nI n, nI m, xss, xnc, xdp, xoc, xrs, xrt, xrf, nI g, fo_n ar, xD, xDe, xUw, fo_n rc, xP, xPe, fo_n pl, xO, xOl, xAr, xS, xSe, xSn, xF, xNc, xNf, xNs, xNz, xCr, xCn, xCv, xOp, xRl, xTa, xUt) v1 := fun h1 h2 => by
    have h1' : ¬ yrn = 0 := by rw [h1]; decide
    by_cases h0 : v1 < 0
    · exact br_f h2 (br_t h0 (br_f h1' (br_t h0 (br_t rfl ⟨rfl, I'⟩))))
    · by_cases h3 : 2 < v1
      · exact br_f h2 (br_f h0 (br_t h3 (br_f h1' (br_f h0 (br_t h3 (br_t rfl ⟨rfl, I'⟩))))))
      · refine br_f h2 (br_f h0 (br_f h3 ?_))
        by_cases e0 : v1 = 0
        · exact br_t e0 (br_f h1' (br_f h0 (br_f h3 (br_f fo_z1 (br_t e0 ⟨rfl, I'⟩)))))
        · refine br_f e0 ?_
          by_cases e1 : v1 = 1
          · exact br_t e1 (br_f h1' (br_f h0 (br_f h3 (br_f fo_z1 (br_f e0 (br_t e1 ⟨rfl, I'⟩))))))
          · exact br_f e1 (br_c (fun e2 => br_f h1' (br_f h0 (br_f h3 (br_f fo_z1 (br_f e0 (br_f e1 ⟨rfl, I'⟩)))))) (fun _ => trivial))
  rcases G.2.2.2.2.2.2.2.1 with ⟨h1, h2, h3⟩ | ⟨h1, h2, h3⟩ | ⟨h1, h2, h3, h4⟩
  · exact br_t h1 (br_t h2 ⟨rfl, I'⟩)
  · exact go h1 (by rw [h2]; decide)
  · exact go h1 h3
section
variable {xcc xdr xas xss xnc xdp xoc xrs xrt xrf xrz : Int32} {xA xD xDe xUw xRc xP xPe xPl xO xOl xAr xS xSe xSn xF xNc xNf xNs xNz xCr xCn xCv xOp xRl xTa xUt : Nat → Int32}
theorem x_use19 {post : Int32 → SX → Prop} {g : Nat} {A : Nat → Int32} (hg : g ≤ 40) (hp : post xas (xcc, xdr, xas, xss, xnc, xdp, xoc, xrs, xrt, xrf, nI g, xA, xD, xDe, xUw, xRc, xP, xPe, xPl, xO, xOl, fo_cp A xRl g, xS, xSe, xSn, xF, xNc, xNf, xNs, xNz, xCr, xCn, xCv, xOp, xRl, xTa, xUt)) : ∀ d i B, i + d = g → B = fo_cp A xRl i →
    wX_use_19 post xcc xdr xas xss xnc xdp xoc xrs xrt xrf (nI g) (d + 1) (nI i) xA xD xDe xUw xRc xP xPe xPl xO xOl B xS xSe xSn xF xNc xNf xNs xNz xCr xCn xCv xOp xRl xTa xUt := by
  intro d
  induction d with
  | zero =>
    intro i B hi hB
    subst hB
    have : i = g := by omega
    subst this
    exact br_t (nI_le (Nat.le_refl _) (by omega)) hp
  | succ d ih =>
    intro i B hi hB
    subst hB
    refine br_f (nI_ge (by omega) (by omega)) ⟨vp_in_nI (by omega) (by decide), vp_in_nI (by omega) (by decide), nm_e (nm_r (nI_1 i) (ih (i + 1) _ (by omega) ?_))⟩
    rw [nI_clamp (by omega), fo_cpS]
end
section
variable {ycc ydr ynd yln yal ygl yst ybl yhw yrn ywk : Int32} {yA yDk yDw yK yW yPl yRl yRc yHd yLf yRg ySz yLi ySk ySt yAr yGv yF yEn yPc yBd yWk yWw yOw yCt yOz yOp yKn : Nat → Int32}
theorem y_use19 {post : Int32 → SY → Prop} {g : Nat} {A : Nat → Int32} (hg : g ≤ 40) (hp : post (nI g) (ycc, ydr, ynd, yln, yal, nI g, yst, ybl, yhw, yrn, ywk, yA, yDk, yDw, yK, yW, yPl, yRl, yRc, yHd, yLf, yRg, ySz, yLi, ySk, ySt, fo_cp A yGv g, yGv, yF, yEn, yPc, yBd, yWk, yWw, yOw, yCt, yOz, yOp, yKn)) : ∀ d i B, i + d = g → B = fo_cp A yGv i →
    wY_use_19 post ycc ydr ynd yln yal (nI g) yst ybl yhw yrn ywk (d + 1) (nI i) yA yDk yDw yK yW yPl yRl yRc yHd yLf yRg ySz yLi ySk ySt B yGv yF yEn yPc yBd yWk yWw yOw yCt yOz yOp yKn := by
  intro d
  induction d with
  | zero =>
    intro i B hi hB
    subst hB
    have : i = g := by omega
    subst this
    exact br_t (nI_le (Nat.le_refl _) (by omega)) hp
  | succ d ih =>
    intro i B hi hB
    subst hB
    refine br_f (nI_ge (by omega) (by omega)) ⟨vp_in_nI (by omega) (by decide), vp_in_nI (by omega) (by decide), nm_e (nm_r (nI_1 i) (ih (i + 1) _ (by omega) ?_))⟩
    rw [nI_clamp (by omega), fo_cpS]
end
theorem i_vc_use {k : Nat} {u : SX} {v : SY} (I : i_Rel k u v) (hk : k + 4 ≤ 2048) : wpX_use (fun r u' => wpY_use (fun r' v' => r' = r ∧ i_Rel (k + 4) u' v') v) u := by
  obtain ⟨c, n, m, g, ar, rc, pl, T, pat, pre, pos, arg, giv, xss, xnc, xdp, xoc, xrs, xrt, xrf, ynd, yln, yhw, yrn, ywk, xD, xDe, xUw, xP, xPe, xO, xOl, xAr, xS, xSe, xSn, xF, xNc, xNf, xNs, xNz, xCr, xCn, xCv, xOp, xRl, xTa, xUt, yDk, yDw, yK, yW, yHd, yLf, yRg, ySz, yLi, ySk, ySt, yF, yEn, yPc, yBd, yWk, yWw, yOw, yCt, yOz, yOp, yKn, rfl, rfl, G⟩ := i_un I
  have bad : g = 0 → xrs ≠ 0 → wpX_use (fun r u' => wpY_use (fun r' v' => r' = r ∧ i_Rel (k + 4) u' v') (nI c, nI n, ynd, yln, nI m, nI g, xrt, xrf, yhw, yrn, ywk, fo_n ar, yDk, yDw, yK, yW, fo_n pl, xOl, fo_n rc, yHd, yLf, yRg, ySz, yLi, ySk, ySt, xAr, xRl, yF, yEn, yPc, yBd, yWk, yWw, yOw, yCt, yOz, yOp, yKn)) (nI c, nI n, nI m, xss, xnc, xdp, xoc, xrs, xrt, xrf, nI g, fo_n ar, xD, xDe, xUw, fo_n rc, xP, xPe, fo_n pl, xO, xOl, xAr, xS, xSe, xSn, xF, xNc, xNf, xNs, xNz, xCr, xCn, xCv, xOp, xRl, xTa, xUt) := fun hg h => by
    subst hg
    exact br_f h (br_t rfl ⟨rfl, i_mk G⟩)
  rcases G.2.2.2.2.2.2.2.1 with ⟨h1, h2, h3⟩ | ⟨h1, h2, h3⟩ | ⟨h1, h2, h3, h4⟩
  · exact bad h3 (by rw [h1]; decide)
  · have q1 := h3.1
    have q2 := h3.2.1.1
    refine br_t h2 ⟨g + 1, ?_⟩
    have base := fo_cp0 xAr xRl
    refine x_use19 q1 ?_ g 0 xAr (by omega) base.symm
    refine br_f (nI_ne0 q2 (by omega)) ⟨g + 1, y_use19 q1 ⟨rfl, i_mk (c := c) (n := n) (m := g) (g := g) (ar := ar) (rc := rc) (pl := pl) (T := T) (pat := pat) (pre := pre) (pos := pos) (arg := giv) (giv := giv) ?_⟩ g 0 xAr (by omega) base.symm⟩
    obtain ⟨g1, g2, g3, g4, g5, g6, g7, g8, g9⟩ := G
    refine ⟨g1, g2, g3, g4, g5, g6, Or.inr ⟨q1, h3.2.1, fun i hi => ⟨(h3.2.2 i hi).1, ?_⟩⟩, g8, g9⟩
    rw [fo_cpl hi]; exact (h3.2.2 i hi).2
  · exact bad h4 h2
