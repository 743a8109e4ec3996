theorem i_vc_run {k : Nat} {u : SX} {v : SY} (I : i_Rel k u v) (hk : k + 4 ≤ 2048) (v1 : Int32) : wpX_run (fun r u' => wpY_run (fun r' v' => r' = r ∧ i_Rel (k + 4) u' v') v v1) u v1 := by
  refine i_el (P := fun u v => wpX_run (fun r u' => wpY_run (fun r' v' => r' = r ∧ i_Rel (k + 4) u' v') v v1) u v1) I ?_
  intro c n m g ar rc pl T pat pre pos arg giv xss xnc xdp xoc xrs xrt xrf ynd yln yhw yrn ywk xD xDe xUw xP xPe xO xOl xAr xS xSe xSn xF xNc xNf xNs xNz xCr xCn xCv xOp xRl xTa xUt yDk yDw yK yW yHd yLf yRg ySz yLi ySk ySt yF yEn yPc yBd yWk yWw yOw yCt yOz yOp yKn G
  rcases fo_f4 v1 with h | ⟨f, hf, rfl⟩
  · unfold wpX_run
    refine x_isF0 h (br_t rfl ?_)
    unfold wpY_run
    exact y_in0 h (br_t rfl ⟨rfl, i_mk G⟩)
  by_cases m0 : m = 0
  · subst m0
    unfold wpX_run
    refine x_isF1 hf (br_f fo_z1 (br_t rfl ?_))
    unfold wpY_run
    exact y_in1 hf (br_f fo_z1 (br_t rfl ⟨rfl, i_mk G⟩))
  obtain ⟨g1, g2, g3, g4, g5, g6, g7, g8, g9⟩ := id G
  have hv := g7.resolve_left m0
  generalize hgo : fg_go ar (fg_row ar pat pl rc) (fg_res ar pat pl rc pos) 1400 0 [fe_sl arg 0 m] [Sum.inr (5, f, f)] = R
  refine x_run (W := arg) g1 g3 hf g4 g6 hv hgo (fun z ss nc dp oc S E SN Ft NC NF NS NZ CR CN CV OP => ?_) (fun z ss nc dp oc S E SN Ft NC NF NS NZ CR CN CV OP => ?_)
  · refine y_run (W := arg) g1 g3 hf g4 g6 hv hgo (fun _ q1 q2 q3 nd ln hw wk HD LF RG SZ LI SK ST Ft' D PC BD K WW O => ⟨rfl, ?_⟩) (fun q => by omega)
    exact i_mk (c := c) (n := n) (m := m) (g := R.2.2.2.length) (ar := ar) (rc := rc) (pl := pl) (T := T) (pat := pat) (pre := pre) (pos := pos) (arg := arg) (giv := fv_g R.2.2.2) ⟨g1, g2, g3, g4, g5, g6, g7, Or.inr (Or.inl ⟨rfl, rfl, q1, q2, fun i hi => ⟨q3 i hi, by rw [fo_cpl hi]; rfl⟩⟩), g9⟩
  · refine y_run (W := arg) g1 g3 hf g4 g6 hv hgo (fun q => by omega) (fun _ nd ln hw wk HD LF RG SZ LI SK ST Ft' D PC BD K WW O => ⟨rfl, ?_⟩)
    refine i_mk (c := c) (n := n) (m := m) (g := 0) (ar := ar) (rc := rc) (pl := pl) (T := T) (pat := pat) (pre := pre) (pos := pos) (arg := arg) (giv := giv) ⟨g1, g2, g3, g4, g5, g6, g7, Or.inr (Or.inr ⟨rfl, ?_, ?_, rfl⟩), g9⟩
    · exact nI_ne0 (by omega) (by omega)
    · exact fun q => absurd (q ▸ nI_pos' (n := R.1) (by omega)) (by decide)
