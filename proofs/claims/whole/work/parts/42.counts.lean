/-- a row's number, or -1, or out of range -/
theorem fo_rw (p : Int32) {n : Nat} (hn : n < 2 ^ 30) : p < -1 ∨ (¬ p < -1 ∧ nI n ≤ p) ∨ ∃ q, q ≤ n ∧ p = nI q + (-1) := by
  by_cases h : p < -1
  · exact Or.inl h
  · right
    by_cases h0 : p < 0
    · right
      refine ⟨0, Nat.zero_le _, ?_⟩
      apply Int32.toInt_inj.mp
      have a : (-1 : Int32).toInt = -1 := by decide
      have b : (0 : Int32).toInt = 0 := by decide
      rw [Int32.lt_iff_toInt_lt, a] at h
      rw [Int32.lt_iff_toInt_lt, b] at h0
      rw [show nI 0 + (-1) = -1 by decide, a]
      omega
    · obtain ⟨j, hj, rfl⟩ := nI_of h0
      by_cases h2 : j < n
      · exact Or.inr ⟨j + 1, h2, (pk_m1 j).symm⟩
      · exact Or.inl ⟨h, nI_le (by omega) hj⟩
theorem fo_q1 (q : Nat) : nI q + (-1) + 1 = nI q := by
  generalize nI q = a
  grind
theorem fo_qm {q : Nat} (h : q < 2 ^ 31) : ¬ nI q + (-1) < -1 := by
  cases q with
  | zero => decide
  | succ q => rw [pk_m1]; exact fun z => absurd (Int32.lt_of_le_of_lt (nI_pos' (n := q) (by omega)) z) (by decide)
theorem fo_ql {q n : Nat} (h : q ≤ n) (hn : n < 2 ^ 31) : ¬ nI n ≤ nI q + (-1) := by
  cases q with
  | zero => exact fun z => absurd (Int32.le_trans (nI_pos' (n := n) hn) z) (by decide)
  | succ q => rw [pk_m1]; exact nI_ge (by omega) hn
theorem fo_qn {q n : Nat} (h : q ≤ n) (hn : n < 2 ^ 31) : ¬ nI n - 1 < nI q + (-1) := by
  cases q with
  | zero =>
    cases n with
    | zero => decide
    | succ n =>
      rw [nI_pred, show nI 0 + (-1) = -1 by decide]
      exact fun z => absurd (Int32.lt_of_le_of_lt (nI_pos' (n := n) (by omega)) z) (by decide)
  | succ q =>
    rw [pk_m1, fo_s1 (by omega)]
    exact nI_nlt (by omega) (by omega)
theorem fo_qg {n : Nat} {p : Int32} (hn : n < 2 ^ 30) (h : nI n ≤ p) : nI n - 1 < p := by
  rw [Int32.le_iff_toInt_le, nI_toInt (by omega)] at h
  rw [Int32.lt_iff_toInt_lt]
  have e : (nI n - 1).toInt = (n : Int) - 1 := pk_sub_toInt (a := n) (b := 1) hn (by decide)
  rw [e]
  omega
theorem fd_ct_le {ar : Nat → Nat} {rw' : (Nat → Nat) → Nat → Nat} {c s r : Nat} (hc : c ≤ 6) (hs : s ≤ 5) : fd_ct ar rw' c s r ≤ 7776 := by
  have a := fd_cn_le (fd_P ar rw' c s r) (c ^ s)
  have b := fd_pow hc hs
  unfold fd_ct
  omega
theorem i_vc_count {k : Nat} {u : SX} {v : SY} (I : i_Rel k u v) (hk : k + 4 ≤ 2048) (v1 : Int32) (v2 : Int32) (v3 : Int32) : wpX_count (fun r u' => wpY_count (fun r' v' => r' = r ∧ i_Rel (k + 4) u' v') v v1 v2 v3) u v1 v2 v3 := by
  refine i_el (P := fun u v => wpX_count (fun r u' => wpY_count (fun r' v' => r' = r ∧ i_Rel (k + 4) u' v') v v1 v2 v3) u v1 v2 v3) I ?_
  intro c n m g ar rc pl T pat pre pos arg giv xss xnc xdp xoc xrs xrt xrf ynd yln yhw yrn ywk xD xDe xUw xP xPe xO xOl xAr xS xSe xSn xF xNc xNf xNs xNz xCr xCn xCv xOp xRl xTa xUt yDk yDw yK yW yHd yLf yRg ySz yLi ySk ySt yF yEn yPc yBd yWk yWw yOw yCt yOz yOp yKn G
  rcases fo_f4 v1 with h | ⟨f, hf, rfl⟩
  · unfold wpX_count
    refine x_isF0 h (br_t rfl ?_)
    unfold wpY_count
    exact y_in0 h (br_t rfl ⟨rfl, i_mk G⟩)
  obtain ⟨g1, g2, g3, g4, g5, g6, g7, g8, g9⟩ := id G
  have hrc := g4 f
  have ef : (nI f).toNatClampNeg = f := nI_clamp (by omega)
  have hin : vp_in (nI f) 4 := vp_in_nI hf (by decide)
  have er : fo_n rc (nI f).toNatClampNeg = nI (rc f) := by rw [ef]; rfl
  unfold wpX_count
  refine x_isF1 hf (br_f fo_z1 ?_)
  rcases fo_rw v2 (n := rc f) (by omega) with b | ⟨b0, b⟩ | ⟨q, hq, rfl⟩
  · refine br_t b ?_
    unfold wpY_count
    exact y_in1 hf (br_f fo_z1 ⟨hin, br_t b (br_t rfl ⟨rfl, i_mk G⟩)⟩)
  · refine br_f b0 ⟨hin, br_t (by rw [er]; exact b) ?_⟩
    unfold wpY_count
    exact y_in1 hf (br_f fo_z1 ⟨hin, br_f b0 (br_t (by rw [er]; exact fo_qg (by omega) b) (br_t rfl ⟨rfl, i_mk G⟩))⟩)
  · refine br_f (fo_qm (by omega)) ⟨hin, br_f (by rw [er]; exact fo_ql hq (by omega)) ?_⟩
    have ystart : ∀ (P : Int64 → SY → Prop), (v3 < 1 ∨ 5 < v3 → P (-1) (nI c, nI n, ynd, yln, nI m, nI g, xrt, xrf, yhw, yrn, ywk, fo_n ar, yDk, yDw, yK, yW, fo_n pl, xOl, fo_n rc, yHd, yLf, yRg, ySz, yLi, ySk, ySt, xAr, xRl, yF, yEn, yPc, yBd, yWk, yWw, yOw, yCt, yOz, yOp, yKn)) → (∀ s, 1 ≤ s → s ≤ 5 → v3 = nI s → wpY_know (fun u => match u with | (ycc, ydr, ynd, yln, yal, ygl, yst, ybl, yhw, yrn, ywk, yA, yDk, yDw, yK, yW, yPl, yRl, yRc, yHd, yLf, yRg, ySz, yLi, ySk, ySt, yAr, yGv, yF, yEn, yPc, yBd, yWk, yWw, yOw, yCt, yOz, yOp, yKn) => (vp_in ((((30 * nI f) + (5 * (nI q + (-1) + 1))) + v3) - 1) 120 ∧ (P (yCt ((((30 * nI f) + (5 * (nI q + (-1) + 1))) + v3) - 1).toNatClampNeg).toInt64 (ycc, ydr, ynd, yln, yal, ygl, yst, ybl, yhw, yrn, ywk, yA, yDk, yDw, yK, yW, yPl, yRl, yRc, yHd, yLf, yRg, ySz, yLi, ySk, ySt, yAr, yGv, yF, yEn, yPc, yBd, yWk, yWw, yOw, yCt, yOz, yOp, yKn)))) (nI c, nI n, ynd, yln, nI m, nI g, xrt, xrf, yhw, yrn, ywk, fo_n ar, yDk, yDw, yK, yW, fo_n pl, xOl, fo_n rc, yHd, yLf, yRg, ySz, yLi, ySk, ySt, xAr, xRl, yF, yEn, yPc, yBd, yWk, yWw, yOw, yCt, yOz, yOp, yKn) (nI f)) →
        wpY_count P (nI c, nI n, ynd, yln, nI m, nI g, xrt, xrf, yhw, yrn, ywk, fo_n ar, yDk, yDw, yK, yW, fo_n pl, xOl, fo_n rc, yHd, yLf, yRg, ySz, yLi, ySk, ySt, xAr, xRl, yF, yEn, yPc, yBd, yWk, yWw, yOw, yCt, yOz, yOp, yKn) (nI f) (nI q + (-1)) v3 := by
      intro P h0 h1
      unfold wpY_count
      refine y_in1 hf (br_f fo_z1 ⟨hin, br_f (fo_qm (by omega)) (br_f (by rw [er]; exact fo_qn hq (by omega)) (br_f fo_z1 ?_))⟩)
      by_cases z1 : v3 < 1
      · exact br_t z1 (br_t rfl (h0 (Or.inl z1)))
      · by_cases z5 : 5 < v3
        · exact br_f z1 (br_t z5 (br_t rfl (h0 (Or.inr z5))))
        · refine br_f z1 (br_f z5 (br_f fo_z1 ?_))
          obtain ⟨s, hs, e⟩ := nI_of2 (n := 5) (M := 5) (x := v3) (by decide) (fun z => z1 (Int32.lt_trans z (by decide))) (Int32.not_lt.mp z5)
          refine h1 s ?_ hs e
          refine Classical.byContradiction fun z => z1 ?_
          have : s = 0 := by omega
          rw [e, this]; decide
    by_cases z1 : v3 < 1
    · exact br_t z1 (ystart _ (fun _ => ⟨rfl, i_mk G⟩) (fun s h1 h5 e => by rw [e] at z1; exact absurd z1 (nI_nlt (b := 1) h1 (by omega))))
    · refine br_f z1 ?_
      by_cases z5 : v3 ≤ 5
      · refine br_t z5 ?_
        obtain ⟨s, hs, rfl⟩ := nI_of2 (n := 5) (M := 5) (x := v3) (by decide) (fun z => z1 (Int32.lt_trans z (by decide))) z5
        have h1s : 1 ≤ s := by
          refine Classical.byContradiction fun z => z1 ?_
          have : s = 0 := by omega
          rw [this]; decide
        refine x_sv (pat := pat) g1 g3 hf hrc h1s hs (fun i hi => fx_pat_of (g6 f i hf hi)) (fun S E F t U a1 a2 => ?_)
        refine ⟨by rw [fo_q1]; exact vp_in_nI (by omega) (by decide), ?_⟩
        have ex : (t (nI q + (-1) + 1).toNatClampNeg).toInt64 = (nI (fd_ct ar (fm_row ar pat pl rc f) c s q)).toInt64 := by rw [fo_q1, nI_clamp (by omega), a1 q (by omega)]
        rw [ex]
        refine ystart _ (fun h => ?_) (fun s' h1 h5 e => ?_)
        · rcases h with h | h
          · exact absurd h z1
          · exact absurd h (Int32.not_lt.mpr z5)
        · refine y_kn (pat := pat) g1 g3 hf hrc (fun i hi => fy_pat_of (g6 f i hf hi)) g9 (fun ln L D F' C Z O N b1 b2 => ?_)
          have ei : ((30 * nI f + 5 * (nI q + (-1) + 1)) + nI s) - 1 = nI (30 * f + 5 * q + (s - 1)) := by
            rw [fo_q1, fo_30m, fo_5m, nI_add, nI_add, fo_s1 (by omega)]
            exact congrArg nI (by omega)
          rw [ei]
          refine ⟨vp_in_nI (by omega) (by decide), ?_⟩
          rw [nI_clamp (by omega)]
          rcases b1 f hf with w | ⟨w1, w2, w3⟩
          · rw [b2] at w; exact absurd w (by decide)
          · rw [w2 s q h1s hs (by omega)]
            exact ⟨rfl, i_mk (c := c) (n := n) (m := m) (g := g) (ar := ar) (rc := rc) (pl := pl) (T := T) (pat := pat) (pre := pre) (pos := pos) (arg := arg) (giv := giv) ⟨g1, g2, g3, g4, g5, g6, g7, g8, b1⟩⟩
      · exact br_f z5 (ystart _ (fun _ => ⟨rfl, i_mk G⟩) (fun s h1 h5 e => by rw [e] at z5; exact absurd (nI_le (b := 5) h5 (by decide)) z5))
/-- the first is the first on both sides -/
theorem fd_open_1 {ar : Nat → Nat} {rw' : (Nat → Nat) → Nat → Nat} {c z f : Nat} {U N C Z O : Nat → Int32} (hc : c ≤ 6) (hx : fd_open ar rw' c z U) (hy : fR_know ar rw' c f N C Z O) (hN : N f = 1) :
    Z f = nI z ∧ z ≤ 5 ∧ ∀ i, i < z → O (5 * f + i) = U i := by
  rcases hy with w | ⟨w1, w2, w3⟩
  · rw [hN] at w; exact absurd w (by decide)
  · have pos : ∀ s j, j < c ^ s → fd_P ar rw' c s 0 j = true → fd_ct ar rw' c s 0 ≠ 0 := by
      intro s j h1 h2 h3
      have := (fd_cn_pos (P := fd_P ar rw' c s 0) (c ^ s)).mpr ⟨j, h1, h2⟩
      unfold fd_ct at h3
      omega
    rcases hx with ⟨x1, x2⟩ | ⟨x1, x2, x3, j, x4, x5, x6, x7⟩
    · rcases w3 with ⟨y1, y2⟩ | ⟨s, j', y1, y2, y3, y4, y5, y6, y7, y8⟩
      · subst x1; exact ⟨y1, by omega, fun i hi => by omega⟩
      · exact absurd (x2 s y1 y2) (pos s j' y5 y6)
    · rcases w3 with ⟨y1, y2⟩ | ⟨s, j', y1, y2, y3, y4, y5, y6, y7, y8⟩
      · exact absurd (y2 z x1 x2) (pos z j x4 x5)
      · have e : s = z := by
          rcases Nat.lt_trichotomy s z with g | g | g
          · exact absurd (x3 s y1 g) (pos s j' y5 y6)
          · exact g
          · exact absurd (y4 z x1 g) (pos z j x4 x5)
        subst e
        have e2 : j' = j := fd_first _ y6 y7 x5 x6
        subst e2
        exact ⟨y3, x2, fun i hi => by rw [y8 i hi, x7 i hi]⟩
theorem i_vc_open {k : Nat} {u : SX} {v : SY} (I : i_Rel k u v) (hk : k + 4 ≤ 2048) (v1 : Int32) : wpX_open (fun r u' => wpY_open (fun r' v' => r' = r ∧ i_Rel (k + 4) u' v') v v1) u v1 := by
  refine i_el (P := fun u v => wpX_open (fun r u' => wpY_open (fun r' v' => r' = r ∧ i_Rel (k + 4) u' v') v v1) u v1) I ?_
  intro c n m g ar rc pl T pat pre pos arg giv xss xnc xdp xoc xrs xrt xrf ynd yln yhw yrn ywk xD xDe xUw xP xPe xO xOl xAr xS xSe xSn xF xNc xNf xNs xNz xCr xCn xCv xOp xRl xTa xUt yDk yDw yK yW yHd yLf yRg ySz yLi ySk ySt yF yEn yPc yBd yWk yWw yOw yCt yOz yOp yKn G
  rcases fo_f4 v1 with h | ⟨f, hf, rfl⟩
  · unfold wpX_open
    refine x_isF0 h (br_t rfl ?_)
    unfold wpY_open
    exact y_in0 h (br_t rfl ⟨rfl, i_mk G⟩)
  obtain ⟨g1, g2, g3, g4, g5, g6, g7, g8, g9⟩ := id G
  unfold wpX_open
  refine x_isF1 hf (br_f fo_z1 (x_lo (pat := pat) g1 g3 hf (g4 f) (fun i hi => fx_pat_of (g6 f i hf hi)) (fun ss S E F t U z hz => ?_)))
  unfold wpY_open
  refine y_in1 hf (br_f fo_z1 (y_kn (pat := pat) g1 g3 hf (g4 f) (fun i hi => fy_pat_of (g6 f i hf hi)) g9 (fun ln L D F' C Z O N b1 b2 => ⟨vp_in_nI hf (by decide), ?_⟩)))
  rw [nI_clamp (by omega)]
  exact ⟨(fd_open_1 g1 hz (b1 f hf) b2).1, i_mk (c := c) (n := n) (m := m) (g := g) (ar := ar) (rc := rc) (pl := pl) (T := T) (pat := pat) (pre := pre) (pos := pos) (arg := arg) (giv := giv) ⟨g1, g2, g3, g4, g5, g6, g7, g8, b1⟩⟩
theorem i_vc_witness {k : Nat} {u : SX} {v : SY} (I : i_Rel k u v) (hk : k + 4 ≤ 2048) (v1 : Int32) (v2 : Int32) : wpX_witness (fun r u' => wpY_witness (fun r' v' => r' = r ∧ i_Rel (k + 4) u' v') v v1 v2) u v1 v2 := by
  refine i_el (P := fun u v => wpX_witness (fun r u' => wpY_witness (fun r' v' => r' = r ∧ i_Rel (k + 4) u' v') v v1 v2) u v1 v2) I ?_
  intro c n m g ar rc pl T pat pre pos arg giv xss xnc xdp xoc xrs xrt xrf ynd yln yhw yrn ywk xD xDe xUw xP xPe xO xOl xAr xS xSe xSn xF xNc xNf xNs xNz xCr xCn xCv xOp xRl xTa xUt yDk yDw yK yW yHd yLf yRg ySz yLi ySk ySt yF yEn yPc yBd yWk yWw yOw yCt yOz yOp yKn G
  rcases fo_f4 v1 with h | ⟨f, hf, rfl⟩
  · unfold wpX_witness
    refine x_isF0 h (br_t rfl ?_)
    unfold wpY_witness
    exact y_in0 h (br_t rfl ⟨rfl, i_mk G⟩)
  obtain ⟨g1, g2, g3, g4, g5, g6, g7, g8, g9⟩ := id G
  unfold wpX_witness
  refine x_isF1 hf (br_f fo_z1 ?_)
  have ef : (nI f).toNatClampNeg = f := nI_clamp (by omega)
  by_cases h0 : 0 ≤ v2
  · obtain ⟨j, hj, rfl⟩ := nI_of (Int32.not_lt.mpr h0)
    refine br_t h0 (x_lo (pat := pat) g1 g3 hf (g4 f) (fun i hi => fx_pat_of (g6 f i hf hi)) (fun ss S E F t U z hz => ?_))
    have yside : ∀ r : Int32, (z ≤ j → r = -1) → (j < z → r = U j) → wpY_witness (fun r' v' => r' = r ∧ i_Rel (k + 4) (nI c, nI n, nI m, ss, xnc, xdp, xoc, xrs, xrt, xrf, nI g, fo_n ar, xD, xDe, xUw, fo_n rc, xP, xPe, fo_n pl, xO, xOl, xAr, S, E, xSn, F, xNc, xNf, xNs, xNz, xCr, xCn, xCv, xOp, xRl, t, U) v') (nI c, nI n, ynd, yln, nI m, nI g, xrt, xrf, yhw, yrn, ywk, fo_n ar, yDk, yDw, yK, yW, fo_n pl, xOl, fo_n rc, yHd, yLf, yRg, ySz, yLi, ySk, ySt, xAr, xRl, yF, yEn, yPc, yBd, yWk, yWw, yOw, yCt, yOz, yOp, yKn) (nI f) (nI j) := by
      intro r r1 r2
      unfold wpY_witness
      refine y_in1 hf (br_f fo_z1 (y_kn (pat := pat) g1 g3 hf (g4 f) (fun i hi => fy_pat_of (g6 f i hf hi)) g9 (fun ln L D F' C Z O N b1 b2 => ⟨vp_in_nI hf (by decide), ?_⟩)))
      obtain ⟨o1, o2, o3⟩ := fd_open_1 g1 hz (b1 f hf) b2
      have K : i_Rel (k + 4) (nI c, nI n, nI m, ss, xnc, xdp, xoc, xrs, xrt, xrf, nI g, fo_n ar, xD, xDe, xUw, fo_n rc, xP, xPe, fo_n pl, xO, xOl, xAr, S, E, xSn, F, xNc, xNf, xNs, xNz, xCr, xCn, xCv, xOp, xRl, t, U) (nI c, nI n, ynd, ln, nI m, nI g, xrt, xrf, yhw, yrn, ywk, fo_n ar, yDk, yDw, yK, yW, fo_n pl, xOl, fo_n rc, yHd, yLf, yRg, ySz, L, ySk, ySt, xAr, xRl, F', D, yPc, yBd, yWk, yWw, yOw, C, Z, O, N) := i_mk (c := c) (n := n) (m := m) (g := g) (ar := ar) (rc := rc) (pl := pl) (T := T) (pat := pat) (pre := pre) (pos := pos) (arg := arg) (giv := giv) ⟨g1, g2, g3, g4, g5, g6, g7, g8, b1⟩
      rw [ef, o1]
      refine br_f (nI_pos hj) ?_
      by_cases q : j < z
      · refine br_f ?_ (br_f fo_z1 ?_)
        · rw [fo_s1 (by omega)]; exact nI_nlt (by omega) (by omega)
        · have e : 5 * nI f + nI j = nI (5 * f + j) := by rw [fo_5m, nI_add]
          rw [e]
          refine ⟨vp_in_nI (by omega) (by decide), ?_⟩
          rw [nI_clamp (by omega), o3 j q]
          exact ⟨(r2 q).symm, K⟩
      · refine br_t ?_ (br_t rfl ⟨(r1 (by omega)).symm, K⟩)
        exact fo_qg (by omega) (nI_le (by omega) hj)
    have hz5 : z ≤ 5 := by
      rcases hz with a | a
      · omega
      · exact a.2.1
    refine pk_le z j (fun q => yside _ (fun _ => rfl) (fun g => by omega)) (fun q => ⟨vp_in_nI (by omega) (by decide), ?_⟩)
    rw [nI_clamp (by omega)]
    exact yside _ (fun g => by omega) (fun _ => rfl)
  · refine br_f h0 ?_
    unfold wpY_witness
    refine y_in1 hf (br_f fo_z1 (y_kn (pat := pat) g1 g3 hf (g4 f) (fun i hi => fy_pat_of (g6 f i hf hi)) g9 (fun ln L D F' C Z O N b1 b2 => ⟨vp_in_nI hf (by decide), br_t (Int32.not_le.mp h0) (br_t rfl ⟨rfl, i_mk (c := c) (n := n) (m := m) (g := g) (ar := ar) (rc := rc) (pl := pl) (T := T) (pat := pat) (pre := pre) (pos := pos) (arg := arg) (giv := giv) ⟨g1, g2, g3, g4, g5, g6, g7, g8, b1⟩⟩)⟩)))
/-- sets of rows as masks -/
def fu_c (M r : Nat) : Nat := if M.testBit r = true then M - 2 ^ r else M
theorem fu_x : ∀ M, M < 32 → ∀ r, r < 5 → nI M &&& (((1 : Int32) <<< (nI r &&& 31)) ^^^ (-1)) = nI (fu_c M r) ∧ fu_c M r < 32 := by decide +kernel
theorem fu_xb : ∀ M, M < 32 → ∀ r, r < 5 → ∀ w, w < 5 → ((fu_c M r).testBit w = true ↔ M.testBit w = true ∧ w ≠ r) := by decide +kernel
theorem fu_y : ∀ M, M < 32 → ∀ r, r < 5 → nI M ||| ((1 : Int32) <<< (nI r &&& 31)) = nI (M ||| 2 ^ r) ∧ M ||| 2 ^ r < 32 := by decide +kernel
theorem fu_yb : ∀ M, M < 32 → ∀ r, r < 5 → ∀ w, w < 5 → ((M ||| 2 ^ r).testBit w = true ↔ M.testBit w = true ∨ w = r) := by decide +kernel
theorem fu_0 : ∀ n, n ≤ 5 → ((1 : Int32) <<< (nI n &&& 31)) - 1 = nI (2 ^ n - 1) ∧ 2 ^ n - 1 < 32 := by decide +kernel
theorem fu_0b : ∀ n, n ≤ 5 → ∀ w, w < 5 → ((2 ^ n - 1).testBit w = true ↔ w < n) := by decide +kernel
theorem fu_eq : ∀ M, M < 32 → ∀ M', M' < 32 → (∀ w, w < 5 → (M.testBit w = true ↔ M'.testBit w = true)) → M = M' := by decide +kernel
section
variable {xcc xdr xas xss xnc xdp xoc xrs xrt xrf xrz : Int32} {xA xD xDe xUw xRc xP xPe xPl xO xOl xAr xS xSe xSn xF xNc xNf xNs xNz xCr xCn xCv xOp xRl xTa xUt : Nat → Int32}
theorem x_ul36 {post : Int32 → SX → Prop} {J : Int32 → Int32 → Int32 → Int32 → Int32 → Int32 → Int32 → Int32 → Int32 → Int32 → Int32 → Int32 → Int32 → (Nat → Int32) → (Nat → Int32) → (Nat → Int32) → (Nat → Int32) → (Nat → Int32) → (Nat → Int32) → (Nat → Int32) → (Nat → Int32) → (Nat → Int32) → (Nat → Int32) → (Nat → Int32) → (Nat → Int32) → (Nat → Int32) → (Nat → Int32) → (Nat → Int32) → (Nat → Int32) → (Nat → Int32) → (Nat → Int32) → (Nat → Int32) → (Nat → Int32) → (Nat → Int32) → (Nat → Int32) → (Nat → Int32) → (Nat → Int32) → (Nat → Int32) → (Nat → Int32) → Prop} {rc : Nat → Nat} {ct : Nat → Nat} {f s : Nat} (hf : f < 4) (hrc : rc f ≤ 5) (hs : s ≤ 5) (ht : ∀ r, r ≤ 5 → xTa r = nI (ct r)) (hct : ∀ r, ct r ≤ 7776) {M0 : Nat}
    (hJ : ∀ M, M < 32 → (∀ w, w < 5 → (M.testBit w = true ↔ M0.testBit w = true ∧ ¬ (w < rc f ∧ 0 < ct (w + 1)))) → J (nI M) (nI (s + 1)) xcc xdr xas xss xnc xdp xoc xrs xrt xrf xrz xA xD xDe xUw (fo_n rc) xP xPe xPl xO xOl xAr xS xSe xSn xF xNc xNf xNs xNz xCr xCn xCv xOp xRl xTa xUt) :
    ∀ d i M, i + d = rc f → M < 32 → (∀ w, w < 5 → (M.testBit w = true ↔ M0.testBit w = true ∧ ¬ (w < i ∧ 0 < ct (w + 1)))) →
      wX_useless_36 post J (nI f) (nI s) xcc xdr xas xss xnc xdp xoc xrs xrt xrf xrz xA xD xDe xUw (fo_n rc) xP xPe xPl xO xOl xAr xS xSe xSn xF xNc xNf xNs xNz xCr xCn xCv xOp xRl xTa xUt (d + 1) (nI M) (nI i) := by
  intro d
  induction d with
  | zero =>
    intro i M hi hM h
    have e : i = rc f := by omega
    refine ⟨vp_in_nI hf (by decide), br_t ?_ (nm_r (nI_1 s) (hJ M hM (by rw [← e]; exact h)))⟩
    rw [nI_clamp (by omega)]
    exact nI_le (a := rc f) (by omega) (by omega)
  | succ d ih =>
    intro i M hi hM h
    refine ⟨vp_in_nI hf (by decide), br_f ?_ ?_⟩
    · rw [nI_clamp (by omega)]
      exact nI_ge (b := rc f) (by omega) (by omega)
    rw [nI_1]
    refine ⟨vp_in_nI (by omega) (by decide), ?_⟩
    rw [nI_clamp (by omega), ht (i + 1) (by omega)]
    have := hct (i + 1)
    refine pk_le (ct (i + 1)) 0 (fun z => nm_e (ih (i + 1) M (by omega) hM (fun w hw => ?_))) (fun z => nm_r (fu_x M hM i (by omega)).1 (nm_e (ih (i + 1) _ (by omega) (fu_x M hM i (by omega)).2 (fun w hw => ?_))))
    · rw [h w hw]
      refine and_congr_right (fun _ => not_congr ⟨fun g => ⟨by omega, g.2⟩, fun g => ⟨?_, g.2⟩⟩)
      have : w ≠ i := fun e => by subst e; omega
      omega
    · rw [fu_xb M hM i (by omega) w hw, h w hw]
      constructor
      · rintro ⟨⟨a, b⟩, e⟩
        exact ⟨a, fun g => b ⟨by omega, g.2⟩⟩
      · rintro ⟨a, b⟩
        exact ⟨⟨a, fun g => b ⟨by omega, g.2⟩⟩, fun e => b (by subst e; exact ⟨by omega, z⟩)⟩
theorem x_ul {post : Int32 → SX → Prop} {ar rc pl : Nat → Nat} {pat : Nat → Nat → Nat} {c f : Nat} (hc : c ≤ 6) (ha : ∀ i, ar i ≤ 2) (hf : f < 4) (hrc : rc f ≤ 5)
    (hP : ∀ i, i < rc f → fx_pat ar c xP xPe (pat (5 * f + i)) (pl (5 * f + i)) (5 * f + i))
    (hp : ∀ ss S E F t U M, M < 32 → (∀ w, w < 5 → (M.testBit w = true ↔ w < rc f ∧ ∀ s, 1 ≤ s → s ≤ 5 → fd_ct ar (fm_row ar pat pl rc f) c s (w + 1) = 0)) →
      post (nI M) (nI c, xdr, xas, ss, xnc, xdp, xoc, xrs, xrt, xrf, xrz, fo_n ar, xD, xDe, xUw, fo_n rc, xP, xPe, fo_n pl, xO, xOl, xAr, S, E, xSn, F, xNc, xNf, xNs, xNz, xCr, xCn, xCv, xOp, xRl, t, U)) :
    wpX_useless post (nI c, xdr, xas, xss, xnc, xdp, xoc, xrs, xrt, xrf, xrz, fo_n ar, xD, xDe, xUw, fo_n rc, xP, xPe, fo_n pl, xO, xOl, xAr, xS, xSe, xSn, xF, xNc, xNf, xNs, xNz, xCr, xCn, xCv, xOp, xRl, xTa, xUt) (nI f) := by
  have loop : ∀ d s ss S E F t U M, s + d = 6 → 1 ≤ s → M < 32 → (∀ w, w < 5 → (M.testBit w = true ↔ w < rc f ∧ ∀ s', 1 ≤ s' → s' < s → fd_ct ar (fm_row ar pat pl rc f) c s' (w + 1) = 0)) →
      wX_useless_22 post (nI f) (d + 1) (nI M) (nI s) (nI c) xdr xas ss xnc xdp xoc xrs xrt xrf xrz (fo_n ar) xD xDe xUw (fo_n rc) xP xPe (fo_n pl) xO xOl xAr S E xSn F xNc xNf xNs xNz xCr xCn xCv xOp xRl t U := by
    intro d
    induction d with
    | zero =>
      intro s ss S E F t U M hs h1 hM h
      refine br_t (nI_lt (a := 5) (by omega) (by omega)) (hp ss S E F t U M hM (fun w hw => ?_))
      rw [h w hw]
      exact and_congr_right (fun _ => ⟨fun g s' a b => g s' a (by omega), fun g s' a b => g s' a (by omega)⟩)
    | succ d ih =>
      intro s ss S E F t U M hs h1 hM h
      refine br_f (nI_nlt (a := 5) (by omega) (by decide)) (x_sv (pat := pat) hc ha hf hrc h1 (by omega) hP (fun S' E' F' t' U' a1 a2 => ⟨rc f + 1, ?_⟩))
      refine x_ul36 (ct := fun r => fd_ct ar (fm_row ar pat pl rc f) c s r) (M0 := M) hf hrc (by omega) a1 (fun r => fd_ct_le hc (by omega)) (fun M' hM' h' => ih (s + 1) _ _ _ _ _ _ M' (by omega) (by omega) hM' (fun w hw => ?_)) (rc f) 0 M (by omega) hM (fun w hw => ⟨fun g => ⟨g, fun g2 => by omega⟩, fun g => g.1⟩)
      rw [h' w hw, h w hw]
      constructor
      · rintro ⟨⟨a, b⟩, e⟩
        refine ⟨a, fun s' c1 c2 => ?_⟩
        by_cases q : s' = s
        · subst q
          exact Nat.eq_zero_of_not_pos (fun g => e ⟨a, g⟩)
        · exact b s' c1 (by omega)
      · rintro ⟨a, b⟩
        refine ⟨⟨a, fun s' c1 c2 => b s' c1 (by omega)⟩, fun g => ?_⟩
        have := b s h1 (by omega)
        have g2 : 0 < fd_ct ar (fm_row ar pat pl rc f) c s (w + 1) := g.2
        omega
  unfold wpX_useless
  refine x_isF1 hf (br_f fo_z1 ⟨vp_in_nI hf (by decide), nm_r (e' := nI (2 ^ rc f - 1)) ?_ ⟨6, loop 5 1 xss xS xSe xF xTa xUt _ rfl (Nat.le_refl _) (fu_0 _ hrc).2 (fun w hw => ?_)⟩⟩)
  · rw [nI_clamp (by omega)]
    exact (fu_0 _ hrc).1
  · rw [fu_0b _ hrc w hw]
    exact ⟨fun g => ⟨g, fun s' a b => by omega⟩, fun g => g.1⟩
end
section
variable {ycc ydr ynd yln yal ygl yst ybl yhw yrn ywk : Int32} {yA yDk yDw yK yW yPl yRl yRc yHd yLf yRg ySz yLi ySk ySt yAr yGv yF yEn yPc yBd yWk yWw yOw yCt yOz yOp yKn : Nat → Int32}
theorem y_ul {post : Int32 → SY → Prop} {ar rc : Nat → Nat} {rw' : (Nat → Nat) → Nat → Nat} {c f : Nat} (hc : c ≤ 6) (hf : f < 4) (hrc : rc f ≤ 5)
    (hC : ∀ s r, 1 ≤ s → s ≤ 5 → r ≤ 5 → yCt (30 * f + 5 * r + (s - 1)) = nI (fd_ct ar rw' c s r))
    (hp : ∀ M, M < 32 → (∀ w, w < 5 → (M.testBit w = true ↔ w < rc f ∧ ∀ s, 1 ≤ s → s ≤ 5 → fd_ct ar rw' c s (w + 1) = 0)) → post (nI M) (ycc, ydr, ynd, yln, yal, ygl, yst, ybl, yhw, yrn, ywk, yA, yDk, yDw, yK, yW, yPl, yRl, fo_n rc, yHd, yLf, yRg, ySz, yLi, ySk, ySt, yAr, yGv, yF, yEn, yPc, yBd, yWk, yWw, yOw, yCt, yOz, yOp, yKn)) :
    ∀ d i M, i + d = rc f → M < 32 → (∀ w, w < 5 → (M.testBit w = true ↔ w < i ∧ ∀ s, 1 ≤ s → s ≤ 5 → fd_ct ar rw' c s (w + 1) = 0)) →
      wY_useless_20 post (nI f) ycc ydr ynd yln yal ygl yst ybl yhw yrn ywk yA yDk yDw yK yW yPl yRl (fo_n rc) yHd yLf yRg ySz yLi ySk ySt yAr yGv yF yEn yPc yBd yWk yWw yOw yCt yOz yOp yKn (d + 1) (nI M) (nI i) := by
  intro d
  induction d with
  | zero =>
    intro i M hi hM h
    have e : i = rc f := by omega
    refine ⟨vp_in_nI hf (by decide), br_t ?_ (hp M hM (by rw [← e]; exact h))⟩
    rw [nI_clamp (by omega)]
    exact nI_le (a := rc f) (by omega) (by omega)
  | succ d ih =>
    intro i M hi hM h
    have sum : ∀ d' t n, t + d' = 5 → n ≤ 7776 * t → (n = 0 ↔ ∀ s, 1 ≤ s → s ≤ t → fd_ct ar rw' c s (i + 1) = 0) →
        wY_useless_36 post (wY_useless_20 post (nI f) ycc ydr ynd yln yal ygl yst ybl yhw yrn ywk yA yDk yDw yK yW yPl yRl (fo_n rc) yHd yLf yRg ySz yLi ySk ySt yAr yGv yF yEn yPc yBd yWk yWw yOw yCt yOz yOp yKn (d + 1)) (nI f) (nI M) (nI i) ycc ydr ynd yln yal ygl yst ybl yhw yrn ywk yA yDk yDw yK yW yPl yRl (fo_n rc) yHd yLf yRg ySz yLi ySk ySt yAr yGv yF yEn yPc yBd yWk yWw yOw yCt yOz yOp yKn (d' + 1) (nI n) (nI t) := by
      intro d'
      induction d' with
      | zero =>
        intro t n ht hn hz
        have e5 : t = 5 := by omega
        subst e5
        refine br_t (nI_le (a := 5) (by omega) (by omega)) (pk_eq n 0 (fun z => nm_r (fu_y M hM i (by omega)).1 (nm_r (nI_1 i) (ih (i + 1) _ (by omega) (fu_y M hM i (by omega)).2 (fun w hw => ?_)))) (fun z => nm_r (nI_1 i) (ih (i + 1) M (by omega) hM (fun w hw => ?_))))
        · rw [fu_yb M hM i (by omega) w hw, h w hw]
          constructor
          · rintro (⟨a, b⟩ | e)
            · exact ⟨by omega, b⟩
            · subst e; exact ⟨by omega, hz.mp z⟩
          · rintro ⟨a, b⟩
            by_cases q : w = i
            · exact Or.inr q
            · exact Or.inl ⟨by omega, b⟩
        · rw [h w hw]
          constructor
          · rintro ⟨a, b⟩
            exact ⟨by omega, b⟩
          · rintro ⟨a, b⟩
            refine ⟨?_, b⟩
            have : w ≠ i := fun q => by subst q; exact z (hz.mpr b)
            omega
      | succ d' ih' =>
        intro t n ht hn hz
        have e : (30 * nI f + 5 * (nI i + 1)) + nI t = nI (30 * f + 5 * (i + 1) + t) := by rw [nI_1, fo_30m, fo_5m, nI_add, nI_add]
        have hc1 := hC (t + 1) (i + 1) (by omega) (by omega) (by omega)
        rw [Nat.add_sub_cancel] at hc1
        have hle := fd_ct_le (ar := ar) (rw' := rw') (r := i + 1) hc (show t + 1 ≤ 5 by omega)
        refine br_f (nI_ge (b := 5) (by omega) (by decide)) ?_
        rw [e]
        refine ⟨vp_in_nI (by omega) (by decide), nm_r (e' := nI (n + fd_ct ar rw' c (t + 1) (i + 1))) ?_ (nm_r (nI_1 t) (ih' (t + 1) _ (by omega) (by omega) ?_))⟩
        · rw [nI_clamp (by omega), hc1, nI_add]
        · constructor
          · intro z s a b
            by_cases q : s = t + 1
            · subst q; omega
            · exact hz.mp (by omega) s a (by omega)
          · intro z
            have := hz.mpr (fun s a b => z s a (by omega))
            have := z (t + 1) (by omega) (by omega)
            omega
    refine ⟨vp_in_nI hf (by decide), br_f ?_ ⟨6, sum 5 0 0 rfl (by omega) ⟨fun _ s a b => by omega, fun _ => rfl⟩⟩⟩
    rw [nI_clamp (by omega)]
    exact nI_ge (b := rc f) (by omega) (by omega)
end
theorem i_vc_useless {k : Nat} {u : SX} {v : SY} (I : i_Rel k u v) (hk : k + 4 ≤ 2048) (v1 : Int32) : wpX_useless (fun r u' => wpY_useless (fun r' v' => r' = r ∧ i_Rel (k + 4) u' v') v v1) u v1 := by
  refine i_el (P := fun u v => wpX_useless (fun r u' => wpY_useless (fun r' v' => r' = r ∧ i_Rel (k + 4) u' v') v v1) u v1) I ?_
  intro c n m g ar rc pl T pat pre pos arg giv xss xnc xdp xoc xrs xrt xrf ynd yln yhw yrn ywk xD xDe xUw xP xPe xO xOl xAr xS xSe xSn xF xNc xNf xNs xNz xCr xCn xCv xOp xRl xTa xUt yDk yDw yK yW yHd yLf yRg ySz yLi ySk ySt yF yEn yPc yBd yWk yWw yOw yCt yOz yOp yKn G
  rcases fo_f4 v1 with h | ⟨f, hf, rfl⟩
  · unfold wpX_useless
    refine x_isF0 h (br_t rfl ?_)
    unfold wpY_useless
    exact y_in0 h (br_t rfl ⟨rfl, i_mk G⟩)
  obtain ⟨g1, g2, g3, g4, g5, g6, g7, g8, g9⟩ := id G
  refine x_ul (pat := pat) g1 g3 hf (g4 f) (fun i hi => fx_pat_of (g6 f i hf hi)) (fun ss S E F t U M hM hB => ?_)
  unfold wpY_useless
  refine y_in1 hf (br_f fo_z1 (y_kn (pat := pat) g1 g3 hf (g4 f) (fun i hi => fy_pat_of (g6 f i hf hi)) g9 (fun ln L D F' C Z O N b1 b2 => ⟨rc f + 1, ?_⟩)))
  rcases b1 f hf with w | ⟨w1, w2, w3⟩
  · rw [b2] at w; exact absurd w (by decide)
  · refine y_ul (ar := ar) (rw' := fm_row ar pat pl rc f) g1 hf (g4 f) w2 (fun M' hM' hB' => ⟨?_, i_mk (c := c) (n := n) (m := m) (g := g) (ar := ar) (rc := rc) (pl := pl) (T := T) (pat := pat) (pre := pre) (pos := pos) (arg := arg) (giv := giv) ⟨g1, g2, g3, g4, g5, g6, g7, g8, b1⟩⟩) (rc f) 0 0 (by omega) (by decide) (fun w hw => ⟨fun q => by simp at q, fun q => by omega⟩)
    exact congrArg nI (fu_eq M' hM' M hM (fun w hw => by rw [hB' w hw, hB w hw]))
