theorem i_vc_result {k : Nat} {u : SX} {v : SY} (I : i_Rel k u v) (hk : k + 4 ≤ 2048) (v1 : Int32) : wpX_result (fun r => wpY_result (fun r' => r' = r ∧ i_Rel (k + 4) u v) v v1) u v1 := by
  refine i_el (P := fun u v => wpX_result (fun r => wpY_result (fun r' => r' = r ∧ i_Rel (k + 4) u v) v v1) u v1) I ?_
  intro c n m g ar rc pl T pat pre pos arg giv xss xnc xdp xoc xrs xrt xrf ynd yln yhw yrn ywk xD xDe xUw xP xPe xO xOl xAr xS xSe xSn xF xNc xNf xNs xNz xCr xCn xCv xOp xRl xTa xUt yDk yDw yK yW yHd yLf yRg ySz yLi ySk ySt yF yEn yPc yBd yWk yWw yOw yCt yOz yOp yKn G
  have I' : i_Rel (k + 4) (nI c, nI n, nI m, xss, xnc, xdp, xoc, xrs, xrt, xrf, nI g, fo_n ar, xD, xDe, xUw, fo_n rc, xP, xPe, fo_n pl, xO, xOl, xAr, xS, xSe, xSn, xF, xNc, xNf, xNs, xNz, xCr, xCn, xCv, xOp, xRl, xTa, xUt) (nI c, nI n, ynd, yln, nI m, nI g, xrt, xrf, yhw, yrn, ywk, fo_n ar, yDk, yDw, yK, yW, fo_n pl, xOl, fo_n rc, yHd, yLf, yRg, ySz, yLi, ySk, ySt, xAr, xRl, yF, yEn, yPc, yBd, yWk, yWw, yOw, yCt, yOz, yOp, yKn) := i_mk G
  have bad : g = 0 → wpY_result (fun r' => r' = -1 ∧ i_Rel (k + 4) (nI c, nI n, nI m, xss, xnc, xdp, xoc, xrs, xrt, xrf, nI g, fo_n ar, xD, xDe, xUw, fo_n rc, xP, xPe, fo_n pl, xO, xOl, xAr, xS, xSe, xSn, xF, xNc, xNf, xNs, xNz, xCr, xCn, xCv, xOp, xRl, xTa, xUt) (nI c, nI n, ynd, yln, nI m, nI g, xrt, xrf, yhw, yrn, ywk, fo_n ar, yDk, yDw, yK, yW, fo_n pl, xOl, fo_n rc, yHd, yLf, yRg, ySz, yLi, ySk, ySt, xAr, xRl, yF, yEn, yPc, yBd, yWk, yWw, yOw, yCt, yOz, yOp, yKn)) (nI c, nI n, ynd, yln, nI m, nI g, xrt, xrf, yhw, yrn, ywk, fo_n ar, yDk, yDw, yK, yW, fo_n pl, xOl, fo_n rc, yHd, yLf, yRg, ySz, yLi, ySk, ySt, xAr, xRl, yF, yEn, yPc, yBd, yWk, yWw, yOw, yCt, yOz, yOp, yKn) v1 := fun hg => by
    subst hg
    by_cases h0 : v1 < 0
    · exact br_t h0 (br_t rfl ⟨rfl, I'⟩)
    · refine br_f h0 (br_t ?_ (br_t rfl ⟨rfl, I'⟩))
      obtain ⟨j, hj, rfl⟩ := nI_of h0
      exact Int32.lt_of_lt_of_le (by decide : nI 0 - 1 < 0) (nI_pos' hj)
  rcases G.2.2.2.2.2.2.2.1 with ⟨h1, h2, h3⟩ | ⟨h1, h2, h3⟩ | ⟨h1, h2, h3, h4⟩
  · exact br_f (by rw [h1]; decide) (bad h3)
  · obtain ⟨q1, q2, q3⟩ := h3
    refine br_t h2 ?_
    have q0 := q2.1
    have e1 : nI g - 1 = nI (g - 1) := fo_s1 q2.1
    by_cases h0 : v1 < 0
    · exact br_t h0 (br_t h0 (br_t rfl ⟨rfl, I'⟩))
    · obtain ⟨j, hj, rfl⟩ := nI_of h0
      refine br_f h0 ?_
      by_cases hg : j < g
      · have hi : vp_in (nI j) 40 := vp_in_nI (by omega) (by decide)
        refine br_t (nI_lt hg (by omega)) ⟨hi, br_f h0 (br_f ?_ (br_f fo_z1 ⟨hi, rfl, I'⟩))⟩
        rw [e1]; exact nI_nlt (by omega) (by omega)
      · refine br_f (nI_nlt (by omega) hj) (br_f h0 (br_t ?_ (br_t rfl ⟨rfl, I'⟩)))
        rw [e1]; exact nI_lt (by omega) hj
  · exact br_f h2 (bad h4)
