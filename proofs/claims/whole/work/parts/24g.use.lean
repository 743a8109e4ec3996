theorem i_vc_use {k : Nat} {u : SX} {v : SY} (I : i_Rel k u v) (hk : k + 4 ≤ 2048) : wpX_use (fun r u' => wpY_use (fun r' v' => r' = r ∧ i_Rel (k + 4) u' v') v) u := by
  refine i_el (P := fun u v => wpX_use (fun r u' => wpY_use (fun r' v' => r' = r ∧ i_Rel (k + 4) u' v') v) u) I ?_
  intro c n m g ar rc pl T pat pre pos arg giv xss xnc xdp xoc xrs xrt xrf ynd yln yhw yrn ywk xD xDe xUw xP xPe xO xOl xAr xS xSe xSn xF xNc xNf xNs xNz xCr xCn xCv xOp xRl xTa xUt yDk yDw yK yW yHd yLf yRg ySz yLi ySk ySt yF yEn yPc yBd yWk yWw yOw yCt yOz yOp yKn G
  have bad : g = 0 → xrs ≠ 0 → wpX_use (fun r u' => wpY_use (fun r' v' => r' = r ∧ i_Rel (k + 4) u' v') (nI c, nI n, ynd, yln, nI m, nI g, xrt, xrf, yhw, yrn, ywk, fo_n ar, yDk, yDw, yK, yW, fo_n pl, xOl, fo_n rc, yHd, yLf, yRg, ySz, yLi, ySk, ySt, xAr, xRl, yF, yEn, yPc, yBd, yWk, yWw, yOw, yCt, yOz, yOp, yKn)) (nI c, nI n, nI m, xss, xnc, xdp, xoc, xrs, xrt, xrf, nI g, fo_n ar, xD, xDe, xUw, fo_n rc, xP, xPe, fo_n pl, xO, xOl, xAr, xS, xSe, xSn, xF, xNc, xNf, xNs, xNz, xCr, xCn, xCv, xOp, xRl, xTa, xUt) := fun hg h => by
    subst hg
    exact br_f h (br_t rfl ⟨rfl, i_mk G⟩)
  rcases G.2.2.2.2.2.2.2.1 with ⟨h1, h2, h3⟩ | ⟨h1, h2, h3⟩ | ⟨h1, h2, h3, h4⟩
  · exact bad h3 (by rw [h1]; decide)
  · have q1 := h3.1
    have q2 := h3.2.1.1
    refine br_t h2 ⟨g + 1, ?_⟩
    have base := fo_cp0 xAr xRl
    refine x_use19 q1 ?_ g 0 xAr (by omega) base.symm
    refine br_f (nI_ne0 q2 (by omega)) ⟨g + 1, y_use19 q1 ⟨rfl, i_mk (c := c) (n := n) (m := g) (g := g) (ar := ar) (rc := rc) (pl := pl) (T := T) (pat := pat) (pre := pre) (pos := pos) (arg := giv) (giv := giv) ?_⟩ g 0 xAr (by omega) base.symm⟩
    obtain ⟨g1, g2, g3, g4, g5, g6, g7, g8, g9⟩ := G
    refine ⟨g1, g2, g3, g4, g5, g6, Or.inr ⟨q1, h3.2.1, fun i hi => ⟨(h3.2.2 i hi).1, ?_⟩⟩, g8, g9⟩
    rw [fo_cpl hi]; exact (h3.2.2 i hi).2
  · exact bad h4 h2
