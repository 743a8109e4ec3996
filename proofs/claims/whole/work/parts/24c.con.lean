theorem i_vc_con {k : Nat} {u : SX} {v : SY} (I : i_Rel k u v) (hk : k + 4 ≤ 2048) (v1 : Int32) : wpX_con (fun r u' => wpY_con (fun r' v' => r' = r ∧ i_Rel (k + 4) u' v') v v1) u v1 := by
  refine i_el (P := fun u v => wpX_con (fun r u' => wpY_con (fun r' v' => r' = r ∧ i_Rel (k + 4) u' v') v v1) u v1) I ?_
  intro c n m g ar rc pl T pat pre pos arg giv xss xnc xdp xoc xrs xrt xrf ynd yln yhw yrn ywk xD xDe xUw xP xPe xO xOl xAr xS xSe xSn xF xNc xNf xNs xNz xCr xCn xCv xOp xRl xTa xUt yDk yDw yK yW yHd yLf yRg ySz yLi ySk ySt yF yEn yPc yBd yWk yWw yOw yCt yOz yOp yKn G
  by_cases c6 : c = 6
  · subst c6
    exact br_t rfl (br_t rfl ⟨rfl, i_mk G⟩)
  · have hc := G.1
    have hc6 : ¬ nI c = 6 := fun z => c6 ((nI_eq (b := 6) (by omega) (by decide)).mp z)
    by_cases h0 : v1 < 0
    · exact br_f hc6 (br_t h0 (br_f hc6 (br_t h0 (br_t rfl ⟨rfl, i_mk G⟩))))
    · by_cases h2 : v1 ≤ 2
      · obtain ⟨a, ha, rfl⟩ := nI_of2 (n := 2) (M := 2) (by decide) h0 h2
        have eu : upd (fo_n ar) (nI c).toNatClampNeg (nI a) = fo_n (fo_u ar c a) := by rw [nI_clamp (by omega), fo_nu]
        refine br_f hc6 (br_f h0 (br_t h2 ⟨vp_in_nI (by omega) (by decide), nm_r eu (nm_r (nI_1 c) ?_)⟩))
        refine br_f hc6 (br_f h0 (br_f (nI_nlt (a := 2) (by omega) (by omega)) (br_f fo_z1 (nm_r (nI_1 c) ⟨vp_in_nI (by omega) (by decide), nm_r eu ⟨5, y_con39 (fun K hK => ⟨rfl, i_mk (c := c + 1) (n := n) (m := m) (g := g) (ar := fo_u ar c a) (rc := rc) (pl := pl) (T := T) (pat := pat) (pre := pre) (pos := pos) (arg := arg) (giv := giv) ?_⟩) 4 0 _ rfl (fun q hq => by omega)⟩⟩))))
        obtain ⟨g1, g2, g3, g4, g5, g6, g7, g8, g9⟩ := G
        refine ⟨by omega, g2, fun i => ?_, g4, fR_draft_up g5, fun f i hf hi => fR_row_up (g6 f i hf hi), g7.imp id fR_val_up, ?_, fun f hf => Or.inl (hK f hf)⟩
        · by_cases e : i = c
          · subst e; rw [fo_us]; exact ha
          · rw [fo_un e]; exact g3 i
        · rcases g8 with h | ⟨h1, h2, h3⟩ | h
          · exact Or.inl h
          · exact Or.inr (Or.inl ⟨h1, h2, fR_val_up h3⟩)
          · exact Or.inr (Or.inr h)
      · refine br_f hc6 (br_f h0 (br_f h2 (br_f hc6 (br_f h0 (br_t ?_ (br_t rfl ⟨rfl, i_mk G⟩))))))
        exact Int32.not_le.mp h2
