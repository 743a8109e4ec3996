section
variable {xcc xdr xas xss xnc xdp xoc xrs xrt xrf xrz : Int32} {xA xD xDe xUw xRc xP xPe xPl xO xOl xAr xS xSe xSn xF xNc xNf xNs xNz xCr xCn xCv xOp xRl xTa xUt : Nat → Int32}
variable {yk yw : Nat → Int32}
/-- the component's run -/
theorem x_run {post : Int32 → SX → Prop} {ar rc pl W : Nat → Nat} {pat : Nat → Nat → Nat} {pre pos : Nat → List Nat} {c f m : Nat}
    (hc : c ≤ 6) (ha : ∀ i, ar i ≤ 2) (hf : f < 4) (hrc : ∀ f, rc f ≤ 5) (hR : fx_rows ar c rc pl pat pre pos xP xPe xO xOl yk yw) (hW : fR_val ar c m W xAr) {R : Nat × Nat × Nat × List Nat}
    (hgo : fg_go ar (fg_row ar pat pl rc) (fg_res ar pat pl rc pos) 1400 0 [fe_sl W 0 m] [Sum.inr (5, f, f)] = R)
    (hO : R.1 = 0 → (∀ (ss nc dp oc : Int32) (S E SN Ft NC NF NS NZ CR CN CV OP : Nat → Int32), post 0 (xcc, xdr, nI m, ss, nc, dp, oc, 0, nI R.2.1, -1, nI R.2.2.2.length, fo_n ar, xD, xDe, xUw, fo_n rc, xP, xPe, fo_n pl, xO, xOl, xAr, S, E, SN, Ft, NC, NF, NS, NZ, CR, CN, CV, OP, fo_cp xRl (fo_n (fv_g R.2.2.2)) R.2.2.2.length, xTa, xUt)))
    (hB : (1 ≤ R.1 ∧ R.1 ≤ 3) → (∀ (ss nc dp oc : Int32) (S E SN Ft NC NF NS NZ CR CN CV OP : Nat → Int32), post (nI R.1) (xcc, xdr, nI m, ss, nc, dp, oc, nI R.1, nI R.2.1, nI (R.2.2.1 - 1), 0, fo_n ar, xD, xDe, xUw, fo_n rc, xP, xPe, fo_n pl, xO, xOl, xAr, S, E, SN, Ft, NC, NF, NS, NZ, CR, CN, CV, OP, xRl, xTa, xUt))) :
    wpX_run post (xcc, xdr, nI m, xss, xnc, xdp, xoc, xrs, xrt, xrf, xrz, fo_n ar, xD, xDe, xUw, fo_n rc, xP, xPe, fo_n pl, xO, xOl, xAr, xS, xSe, xSn, xF, xNc, xNf, xNs, xNz, xCr, xCn, xCv, xOp, xRl, xTa, xUt) (nI f) := by
  have hm40 := hW.1
  have hm0 := hW.2.1.1
  unfold wpX_run
  refine x_isF1 hf (br_f fo_z1 (br_f (nI_ne0 hm0 (by omega)) (x_st hc ha hW (fun S E NC NF NS NZ H => ?_))))
  have eL : fv_sub ar W m 0 = fe_sl W 0 m := fv_sub_0 hW.2.1
  have F0 : fx_FR pos rc m 0 (fun _ => 0) (fun _ => 0) (fun _ => 0) xCr xCn xCv := fun i hi => by omega
  have O0 : ∀ k, k < 1 → (fun _ : Nat => 0) k < m ∧ upd xOp 0 0 k = nI ((fun _ : Nat => 0) k) := fun k hk => by
    have : k = 0 := by omega
    subst this
    exact ⟨hm0, pk_us⟩
  refine x_en (oc := 1) (s := 0) (d := 0) (oo := fun _ => 0) (cr := fun _ => 0) (cn := fun _ => 0) (cv := fun _ => 0) (dn := fun i => fv_sub ar W m i) hc ha hf hrc hR H F0 O0 (by omega) (by omega) (by omega) (by omega) (by omega) (fun z => absurd z (by decide)) (fun _ w ss' S' E' SN' Ft' => ?_) (fun _ w ss' S' E' SN' Ft' CR CN CV cr' cn' cv' F' e' => ?_)
  · rw [eL] at w
    rw [fg_go_stuck (by decide) w] at hgo
    refine ⟨1, br_f (by decide) (br_f (by decide) (br_f (by decide) ?_))⟩
    subst hgo
    exact hB ⟨Nat.le_refl _, show 1 ≤ 3 by decide⟩ _ _ _ _ _ _ _ _ _ _ _ _ _ _ _ _
  · rw [eL] at w e'
    rw [fg_go_call (by decide) w] at hgo
    have hwle := fm_row_le ar pat pl rc f (fv_g (fe_sl W 0 m)) (fe_sl W 0 m).length
    have hrv := hrc f
    have hwn : fm_row ar pat pl rc f (fv_g (fe_sl W 0 m)) (fe_sl W 0 m).length ≠ 0 := w
    have hrow2 := hR f (fm_row ar pat pl rc f (fv_g (fe_sl W 0 m)) (fe_sl W 0 m).length - 1) hf (by omega)
    have hll : (fg_res ar pat pl rc pos f (fe_sl W 0 m)).length ≤ 12 := by
      have e1 := (ff_len hrow2.2.2.2.2.1).1
      have e2 := hrow2.2.2.2.2.2.1
      unfold fg_res
      rw [List.length_map]
      show (pos (5 * f + (fm_row ar pat pl rc f (fv_g (fe_sl W 0 m)) (fe_sl W 0 m).length - 1))).length ≤ 12
      omega
    have elen : (fx_frs pos (fun i => fv_sub ar W m i) cr' cn' cv' 1).length ≤ 12 := by
      show (fx_frs pos (fun i => fv_sub ar W m i) cr' cn' cv' (0 + 1)).length ≤ 12
      rw [e', List.length_append]
      have : (fx_frs pos (fun i => fv_sub ar W m i) (fun _ => 0) (fun _ => 0) (fun _ => 0) 0).length = 0 := rfl
      omega
    refine ⟨3001, x_rl hc ha hrc hR hO hB 3000 1399 1 1 0 m 0 3000 (fun i => fv_sub ar W m i) cr' cn' cv' (fun _ => 0) ss' S' E' SN' Ft' NC NF NS NZ CR CN CV (upd xOp 0 0) (by omega) (Nat.le_refl _) (by omega) (by omega) (Nat.le_refl _) (Nat.le_refl _) (by omega) (by omega) (by omega) H F' (fun k hk => by omega) ?_ ?_⟩
    · show fx_bal ar 0 (fx_frs pos (fun i => fv_sub ar W m i) cr' cn' cv' (0 + 1))
      rw [e']
      exact fx_bal_app (fg_PF (fe_sl W 0 m) hf hrow2.2.2.2.2.1) 0 _ rfl
    · show fg_go ar _ _ 1399 1 [] (fx_frs pos (fun i => fv_sub ar W m i) cr' cn' cv' (0 + 1)) = R
      rw [e']
      exact hgo
end
section
variable {ycc ydr ynd yln yal ygl yst ybl yhw yrn ywk : Int32} {yA yDk yDw yK yW yPl yRl yRc yHd yLf yRg ySz yLi ySk ySt yAr yGv yF yEn yPc yBd yWk yWw yOw yCt yOz yOp yKn : Nat → Int32}
variable {xp xe xo : Nat → Int32}
/-- the reference's run -/
theorem y_run {post : Int32 → SY → Prop} {ar rc pl W : Nat → Nat} {pat : Nat → Nat → Nat} {pre pos : Nat → List Nat} {c f m : Nat}
    (hc : c ≤ 6) (ha : ∀ i, ar i ≤ 2) (hf : f < 4) (hrc : ∀ f, rc f ≤ 5) (hR : fx_rows ar c rc pl pat pre pos xp xe xo yRl yK yW) (hW : fR_val ar c m W yAr) {R : Nat × Nat × Nat × List Nat}
    (hgo : fg_go ar (fg_row ar pat pl rc) (fg_res ar pat pl rc pos) 1400 0 [fe_sl W 0 m] [Sum.inr (5, f, f)] = R)
    (hO : R.1 = 0 → R.2.2.2.length ≤ 40 → fe_full (fm_v ar (fv_g R.2.2.2)) R.2.2.2.length → (∀ i, i < R.2.2.2.length → fv_g R.2.2.2 i < c) →
      (∀ (nd ln hw wk : Int32) (HD LF RG SZ LI SK ST Ft D PC BD K WW O : Nat → Int32), post 0 (ycc, ydr, nd, ln, nI m, nI R.2.2.2.length, nI R.2.1, -1, hw, 1, wk, fo_n ar, yDk, yDw, yK, yW, fo_n pl, yRl, fo_n rc, HD, LF, RG, SZ, LI, SK, ST, yAr, fo_cp yGv (fo_n (fv_g R.2.2.2)) R.2.2.2.length, Ft, D, PC, BD, K, WW, O, yCt, yOz, yOp, yKn)))
    (hB : (1 ≤ R.1 ∧ R.1 ≤ 3) → (∀ (nd ln hw wk : Int32) (HD LF RG SZ LI SK ST Ft D PC BD K WW O : Nat → Int32), post (nI R.1) (ycc, ydr, nd, ln, nI m, 0, nI R.2.1, nI (R.2.2.1 - 1), hw, 1, wk, fo_n ar, yDk, yDw, yK, yW, fo_n pl, yRl, fo_n rc, HD, LF, RG, SZ, LI, SK, ST, yAr, yGv, Ft, D, PC, BD, K, WW, O, yCt, yOz, yOp, yKn))) :
    wpY_run post (ycc, ydr, ynd, yln, nI m, ygl, yst, ybl, yhw, yrn, ywk, fo_n ar, yDk, yDw, yK, yW, fo_n pl, yRl, fo_n rc, yHd, yLf, yRg, ySz, yLi, ySk, ySt, yAr, yGv, yF, yEn, yPc, yBd, yWk, yWw, yOw, yCt, yOz, yOp, yKn) (nI f) := by
  have hm40 := hW.1
  have hm0 := hW.2.1.1
  unfold wpY_run
  refine y_in1 hf (br_f fo_z1 (br_f (nI_ne0 hm0 (by omega)) ?_))
  refine y_ta (W := W) hm40 (fun i hi => (hW.2.2 i hi).2) (fun LI hLI => ?_)
  refine y_ms (S := W) hc hm40 ha hW.2.1 (fun i hi => ⟨(hW.2.2 i hi).1, hLI i hi⟩) (fun D hD => ?_)
  refine y_pt (a := 0) (by decide) ?_
  refine y_bu hc ha hD (fun HD LF RG SZ ST dn H hdn => ?_)
  refine y_pt (a := 1) (by decide) ?_
  have k0 : upd (upd yWk 0 5) 1 6 0 = nI 5 := rfl
  have k1 : upd (upd yWk 0 5) 1 6 1 = 6 := rfl
  have w0 : upd (upd yWw 0 (nI f)) 1 (nI (m - 1)) 0 = nI f := rfl
  have w1 : upd (upd yWw 0 (nI f)) 1 (nI (m - 1)) 1 = nI (m - 1) := rfl
  have o0 : upd (upd yOw 0 (nI f)) 1 (nI f) 0 = nI f := rfl
  have t0 : fy_tok dn (upd (upd yWk 0 5) 1 6) (upd (upd yWw 0 (nI f)) 1 (nI (m - 1))) (upd (upd yOw 0 (nI f)) 1 (nI f)) 0 = Sum.inr (5, f, f) := fy_tok_t k0 w0 o0 (by decide) (by omega) (by omega)
  have t1 : fy_tok dn (upd (upd yWk 0 5) 1 6) (upd (upd yWw 0 (nI f)) 1 (nI (m - 1))) (upd (upd yOw 0 (nI f)) 1 (nI f)) 1 = Sum.inl (fe_sl W 0 m) := by
    rw [fy_tok_v k1 w1 (by omega), hdn]
  have W2 : fy_W c m 2 (upd (upd yWk 0 5) 1 6) (upd (upd yWw 0 (nI f)) 1 (nI (m - 1))) (upd (upd yOw 0 (nI f)) 1 (nI f)) := by
    intro i hi
    by_cases e : i = 0
    · subst e; exact Or.inr ⟨5, f, f, k0, w0, o0, Or.inr ⟨rfl, hf⟩, hf⟩
    · have : i = 1 := by omega
      subst this
      exact Or.inl ⟨k1, m - 1, by omega, w1⟩
  have PF : ff_PF (fg_rt ar c) 1 (fe_sl (fy_tok dn (upd (upd yWk 0 5) 1 6) (upd (upd yWw 0 (nI f)) 1 (nI (m - 1))) (upd (upd yOw 0 (nI f)) 1 (nI f))) 0 2) ([fe_sl W 0 m].reverse.map Sum.inl ++ [Sum.inr (5, f, f)]) := by
    show ff_PF (fg_rt ar c) 1 [fy_tok dn _ _ _ 0, fy_tok dn _ _ _ 1] ([Sum.inl (fe_sl W 0 m)] ++ [Sum.inr (5, f, f)])
    rw [t0, t1]
    exact ff_one (k := 1) ⟨rfl, rfl, Or.inr ⟨rfl, hf⟩, hf⟩ (ff_leaf ⟨rfl, rfl, trivial⟩)
  refine y_rd (dn := dn) hc ha (w := 2) (by omega) (by omega) W2 (fun q hq => ⟨1401, ?_⟩) (fun hno hall => ⟨1401, ?_⟩) (fy_ex [Sum.inr (5, f, f)] [fe_sl W 0 m] PF)
  · exact y_rl hc ha hrc hR hO hB 1400 0 [fe_sl W 0 m] [Sum.inr (5, f, f)] 2 m 1400 (nI q) dn _ _ HD LF RG SZ _ _ ST _ D _ _ _ _ _ (show 12 * (100 - 0) + 1 < 1400 by decide) (Nat.le_refl _) (by omega) (by omega) (by show m + 1201 ≤ 1241; omega) PF H W2 (Or.inl ⟨q, hq, rfl⟩) hgo
  · exact y_rl hc ha hrc hR hO hB 1400 0 [fe_sl W 0 m] [Sum.inr (5, f, f)] 2 m 1400 (-1) dn _ _ HD LF RG SZ _ _ ST _ D _ _ _ _ _ (show 12 * (100 - 0) + 1 < 1400 by decide) (Nat.le_refl _) (by omega) (by omega) (by show m + 1201 ≤ 1241; omega) PF H W2 (Or.inr ⟨hall, rfl⟩) hgo
end
