theorem i_vc_ran {k : Nat} {u : SX} {v : SY} (I : i_Rel k u v) (hk : k + 4 ≤ 2048) (v1 : Int32) : wpX_ran (fun r => wpY_ran (fun r' => r' = r ∧ i_Rel (k + 4) u v) v v1) u v1 := by
  refine i_el (P := fun u v => wpX_ran (fun r => wpY_ran (fun r' => r' = r ∧ i_Rel (k + 4) u v) v v1) u v1) I ?_
  intro c n m g ar rc pl T pat pre pos arg giv xss xnc xdp xoc xrs xrt xrf ynd yln yhw yrn ywk xD xDe xUw xP xPe xO xOl xAr xS xSe xSn xF xNc xNf xNs xNz xCr xCn xCv xOp xRl xTa xUt yDk yDw yK yW yHd yLf yRg ySz yLi ySk ySt yF yEn yPc yBd yWk yWw yOw yCt yOz yOp yKn G
  have I' : i_Rel (k + 4) (nI c, nI n, nI m, xss, xnc, xdp, xoc, xrs, xrt, xrf, nI g, fo_n ar, xD, xDe, xUw, fo_n rc, xP, xPe, fo_n pl, xO, xOl, xAr, xS, xSe, xSn, xF, xNc, xNf, xNs, xNz, xCr, xCn, xCv, xOp, xRl, xTa, xUt) (nI c, nI n, ynd, yln, nI m, nI g, xrt, xrf, yhw, yrn, ywk, fo_n ar, yDk, yDw, yK, yW, fo_n pl, xOl, fo_n rc, yHd, yLf, yRg, ySz, yLi, ySk, ySt, xAr, xRl, yF, yEn, yPc, yBd, yWk, yWw, yOw, yCt, yOz, yOp, yKn) := i_mk G
  have go : yrn = 1 → xrs ≠ -2 → wpX_ran (fun r => wpY_ran (fun r' => r' = r ∧ i_Rel (k + 4) (nI c, nI n, nI m, xss, xnc, xdp, xoc, xrs, xrt, xrf, nI g, fo_n ar, xD, xDe, xUw, fo_n rc, xP, xPe, fo_n pl, xO, xOl, xAr, xS, xSe, xSn, xF, xNc, xNf, xNs, xNz, xCr, xCn, xCv, xOp, xRl, xTa, xUt) (nI c, nI n, ynd, yln, nI m, nI g, xrt, xrf, yhw, yrn, ywk, fo_n ar, yDk, yDw, yK, yW, fo_n pl, xOl, fo_n rc, yHd, yLf, yRg, ySz, yLi, ySk, ySt, xAr, xRl, yF, yEn, yPc, yBd, yWk, yWw, yOw, yCt, yOz, yOp, yKn)) (nI c, nI n, ynd, yln, nI m, nI g, xrt, xrf, yhw, yrn, ywk, fo_n ar, yDk, yDw, yK, yW, fo_n pl, xOl, fo_n rc, yHd, yLf, yRg, ySz, yLi, ySk, ySt, xAr, xRl, yF, yEn, yPc, yBd, yWk, yWw, yOw, yCt, yOz, yOp, yKn) v1) (nI c, nI n, nI m, xss, xnc, xdp, xoc, xrs, xrt, xrf, nI g, fo_n ar, xD, xDe, xUw, fo_n rc, xP, xPe, fo_n pl, xO, xOl, xAr, xS, xSe, xSn, xF, xNc, xNf, xNs, xNz, xCr, xCn, xCv, xOp, xRl, xTa, xUt) v1 := fun h1 h2 => by
    have h1' : ¬ yrn = 0 := by rw [h1]; decide
    by_cases h0 : v1 < 0
    · exact br_f h2 (br_t h0 (br_f h1' (br_t h0 (br_t rfl ⟨rfl, I'⟩))))
    · by_cases h3 : 2 < v1
      · exact br_f h2 (br_f h0 (br_t h3 (br_f h1' (br_f h0 (br_t h3 (br_t rfl ⟨rfl, I'⟩))))))
      · refine br_f h2 (br_f h0 (br_f h3 ?_))
        by_cases e0 : v1 = 0
        · exact br_t e0 (br_f h1' (br_f h0 (br_f h3 (br_f fo_z1 (br_t e0 ⟨rfl, I'⟩)))))
        · refine br_f e0 ?_
          by_cases e1 : v1 = 1
          · exact br_t e1 (br_f h1' (br_f h0 (br_f h3 (br_f fo_z1 (br_f e0 (br_t e1 ⟨rfl, I'⟩))))))
          · exact br_f e1 (br_c (fun e2 => br_f h1' (br_f h0 (br_f h3 (br_f fo_z1 (br_f e0 (br_f e1 ⟨rfl, I'⟩)))))) (fun _ => trivial))
  rcases G.2.2.2.2.2.2.2.1 with ⟨h1, h2, h3⟩ | ⟨h1, h2, h3⟩ | ⟨h1, h2, h3, h4⟩
  · exact br_t h1 (br_t h2 ⟨rfl, I'⟩)
  · exact go h1 (by rw [h2]; decide)
  · exact go h1 h3
