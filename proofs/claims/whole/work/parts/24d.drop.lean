theorem i_vc_drop {k : Nat} {u : SX} {v : SY} (I : i_Rel k u v) (hk : k + 4 ≤ 2048) (v1 : Int32) : wpX_drop (fun r u' => wpY_drop (fun r' v' => r' = r ∧ i_Rel (k + 4) u' v') v v1) u v1 := by
  refine i_el (P := fun u v => wpX_drop (fun r u' => wpY_drop (fun r' v' => r' = r ∧ i_Rel (k + 4) u' v') v v1) u v1) I ?_
  intro c n m g ar rc pl T pat pre pos arg giv xss xnc xdp xoc xrs xrt xrf ynd yln yhw yrn ywk xD xDe xUw xP xPe xO xOl xAr xS xSe xSn xF xNc xNf xNs xNz xCr xCn xCv xOp xRl xTa xUt yDk yDw yK yW yHd yLf yRg ySz yLi ySk ySt yF yEn yPc yBd yWk yWw yOw yCt yOz yOp yKn G
  rcases fo_f4 v1 with h | ⟨f, hf, rfl⟩
  · unfold wpX_drop
    refine x_isF0 h (br_t rfl ?_)
    unfold wpY_drop
    exact y_in0 h (br_t rfl ⟨rfl, i_mk G⟩)
  · have hi : vp_in (nI f) 4 := vp_in_nI hf (by decide)
    have eu : upd (fo_n rc) (nI f).toNatClampNeg 0 = fo_n (fo_u rc f 0) := by rw [nI_clamp (by omega)]; exact fo_nu rc f 0
    have ek : upd yKn (nI f).toNatClampNeg (vp_nar .boolean 0) = upd yKn f 0 := by rw [nI_clamp (by omega)]; rfl
    unfold wpX_drop
    refine x_isF1 hf (br_f fo_z1 ⟨hi, fun x ex => ⟨hi, nm_r eu ?_⟩⟩)
    unfold wpY_drop
    refine y_in1 hf (br_f fo_z1 ⟨hi, fun y ey => ⟨hi, nm_r eu ⟨hi, nm_r ek ⟨ey.trans ex.symm, i_mk (c := c) (n := n) (m := m) (g := g) (ar := ar) (rc := fo_u rc f 0) (pl := pl) (T := T) (pat := pat) (pre := pre) (pos := pos) (arg := arg) (giv := giv) ?_⟩⟩⟩⟩)
    obtain ⟨g1, g2, g3, g4, g5, g6, g7, g8, g9⟩ := G
    refine ⟨g1, g2, g3, fun f' => ?_, g5, fun f' i hf' hi' => ?_, g7, g8, fun f' hf' => ?_⟩
    · by_cases e : f' = f
      · subst e; rw [fo_us]; omega
      · rw [fo_un e]; exact g4 f'
    · by_cases e : f' = f
      · subst e; rw [fo_us] at hi'; omega
      · rw [fo_un e] at hi'; exact g6 f' i hf' hi'
    · by_cases e : f' = f
      · subst e; exact Or.inl pk_us
      · refine fR_know_n (g9 f' hf') (pk_un e) ?_
        funext S m'
        exact fm_row_congr S m' (fo_un e) (fun i _ => ⟨rfl, rfl⟩)
