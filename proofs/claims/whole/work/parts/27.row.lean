/-- the draft is a pattern and then a result; e: where the pattern ends -/
def fo_dr (ar T : Nat → Nat) (n e : Nat) : Prop :=
  e ≤ n ∧ e ≤ 12 ∧ ¬ fp_bad T (fe_pe (fm_o ar T) n) e ∧ e < n ∧ fe_pe (fm_o ar T) n e = n ∧ n - e ≤ 12 ∧ fp_res T (fp_set T e) e n
theorem fo_drv {ar T : Nat → Nat} {c n e : Nat} (hT : ∀ i, i < n → fo_tk c (T i)) (h : fo_dr ar T n e) : ∀ u, e ≤ u → u < n → fg_rs ar c T e (fo_op ar (T u)) (T u) (T u) := by
  intro u h1 h2
  refine ⟨rfl, rfl, ?_⟩
  have ht := hT u h2
  rcases h.2.2.2.2.2.2 u h1 h2 with ⟨k, b⟩ | k | k
  · have v4 := fp_v4 ht k
    obtain ⟨j, hj, e'⟩ := (fp_set_bit v4 e (fun j hj => fp_v4 (hT j (by have := h.1; omega)))).mp b
    exact Or.inl ⟨k, v4, j, hj, by omega⟩
  · unfold fo_tk at ht; exact Or.inr (Or.inl ⟨k, by omega⟩)
  · unfold fo_tk at ht; exact Or.inr (Or.inr ⟨k, by omega⟩)
section
variable {xcc xdr xas xss xnc xdp xoc xrs xrt xrf xrz : Int32} {xA xD xDe xUw xRc xP xPe xPl xO xOl xAr xS xSe xSn xF xNc xNf xNs xNz xCr xCn xCv xOp xRl xTa xUt : Nat → Int32}
theorem x_row111 {post : Int32 → SX → Prop} {f : Nat} (hf : f < 4) {rc : Nat → Nat} (hp : post (nI (rc f)) (xcc, 0, xas, xss, xnc, xdp, xoc, xrs, xrt, xrf, xrz, xA, xD, xDe, xUw, fo_n rc, xP, xPe, xPl, xO, xOl, xAr, xS, xSe, xSn, xF, xNc, xNf, xNs, xNz, xCr, xCn, xCv, xOp, xRl, xTa, xUt)) : wX_row_111 post (nI f) 1 xcc xdr xas xss xnc xdp xoc xrs xrt xrf xrz xA xD xDe xUw (fo_n rc) xP xPe xPl xO xOl xAr xS xSe xSn xF xNc xNf xNs xNz xCr xCn xCv xOp xRl xTa xUt := by
  refine br_f fo_z1 ⟨vp_in_nI hf (by decide), ?_⟩
  rw [nI_clamp (by omega)]
  exact hp
theorem x_row {post : Int32 → SX → Prop} {ar T rc : Nat → Nat} {c n f e : Nat} (hc : c ≤ 6) (hn : n ≤ 40) (ha : ∀ i, ar i ≤ 2) (hf : f < 4) (hrc : rc f < 5)
    (hT : ∀ i, i < n → fo_tk c (T i) ∧ xD i = nI (T i)) (he : e = fe_pe (fm_o ar T) n 0) (h0 : ¬ fo_dr ar T n e → ∀ D, post (-2) (xcc, 0, xas, xss, xnc, xdp, xoc, xrs, xrt, xrf, xrz, fo_n ar, xD, D, xUw, fo_n rc, xP, xPe, xPl, xO, xOl, xAr, xS, xSe, xSn, xF, xNc, xNf, xNs, xNz, xCr, xCn, xCv, xOp, xRl, xTa, xUt))
    (h1 : fo_dr ar T n e → ∀ D P E U O out, (∀ j, j < e → P (12 * (5 * f + rc f) + j) = nI (T j) ∧ E (12 * (5 * f + rc f) + j) = nI (fe_pe (fm_o ar T) n j)) →
      (∀ q, (q < 12 * (5 * f + rc f) ∨ 12 * (5 * f + rc f) + 12 ≤ q) → P q = xP q ∧ E q = xPe q) → ff_PF (fg_rs ar c T e) 1 (fe_sl T e (n - e)) out →
      (∀ j, j < out.length → O (12 * (5 * f + rc f) + j) = nI (fv_g out j)) → (∀ q, (q < 12 * (5 * f + rc f) ∨ 12 * (5 * f + rc f) + 12 ≤ q) → O q = xO q) →
      post (nI (rc f + 1)) (xcc, 0, xas, xss, xnc, xdp, xoc, xrs, xrt, xrf, xrz, fo_n ar, xD, D, U, fo_n (fo_u rc f (rc f + 1)), P, E, upd xPl (5 * f + rc f) (nI e), O, upd xOl (5 * f + rc f) (nI out.length), xAr, xS, xSe, xSn, xF, xNc, xNf, xNs, xNz, xCr, xCn, xCv, xOp, xRl, xTa, xUt)) :
    wpX_row post (xcc, nI n, xas, xss, xnc, xdp, xoc, xrs, xrt, xrf, xrz, fo_n ar, xD, xDe, xUw, fo_n rc, xP, xPe, xPl, xO, xOl, xAr, xS, xSe, xSn, xF, xNc, xNf, xNs, xNz, xCr, xCn, xCv, xOp, xRl, xTa, xUt) (nI f) := by
  have hr := fe_pe_rng (fm_o ar T) (n := n) (i := 0) (by omega)
  rw [← he] at hr
  unfold wpX_row
  refine x_isF1 hf (br_f fo_z1 ⟨vp_in_nI hf (by decide), ?_⟩)
  rw [nI_clamp (by omega)]
  refine br_f (fun z => ?_) (x_md hc hn ha hT (fun D hD => ?_))
  · have := (nI_eq (b := 5) (by omega) (by decide)).mp z
    omega
  have bad : ¬ fo_dr ar T n e → wX_row_67 post (nI f) (nI e) xcc (nI n) xas xss xnc xdp xoc xrs xrt xrf xrz (fo_n ar) xD D xUw (fo_n rc) xP xPe xPl xO xOl xAr xS xSe xSn xF xNc xNf xNs xNz xCr xCn xCv xOp xRl xTa xUt := fun g => br_t rfl (br_t rfl (h0 g D))
  have cut : e ≤ n → ∀ i, i < e → i < fe_pe (fm_o ar T) n i ∧ fe_pe (fm_o ar T) n i ≤ e := fun g i hi => by
    obtain ⟨a, b⟩ := fe_pe_cut (fm_o ar T) he.symm g (by omega) (Nat.zero_le i) hi
    rw [a]; exact b
  have main : wX_row_42 post (nI f) (nI e) xcc (nI n) xas xss xnc xdp xoc xrs xrt xrf xrz (fo_n ar) xD D xUw (fo_n rc) xP xPe xPl xO xOl xAr xS xSe xSn xF xNc xNf xNs xNz xCr xCn xCv xOp xRl xTa xUt := by
    refine x_pv hn (by omega) hT hD cut (fun g i j hi hij hj => fe_pe_nest _ (by have := (cut g i hi).2; omega) (by omega) hij hj) (fun g => br_t rfl (bad (fun g2 => g ⟨g2.1, g2.2.1, g2.2.2.1⟩))) (fun g1 g2 g3 => br_f ?_ ?_)
    · have hs16 := fp_set_lt e (fun j hj => fp_v4 (hT j (by omega)).1)
      exact fun z => absurd (z ▸ nI_pos' (n := fp_set T e) (by omega)) (by decide)
    have hs16 := fp_set_lt e (fun j hj => fp_v4 (hT j (by omega)).1)
    refine x_io hn hs16 (by omega) hT hD (fun i hi => by have := fe_pe_rng (fm_o ar T) (n := n) (i := i) (by omega); omega) (fun g => br_t rfl (bad (fun g4 => g g4.2.2.2))) (fun w1 w2 w3 w4 => br_f fo_z1 ?_)
    have good : fo_dr ar T n e := ⟨g1, g2, g3, w1, w2, w3, w4⟩
    refine br_f fo_z1 ⟨vp_in_nI hf (by decide), nm_r (e' := nI (5 * f + rc f)) ?_ ?_⟩
    · rw [nI_clamp (by omega), show nI f * 5 = nI (f * 5) from pk_mul f 5]
      show nI (f * 5) + nI (rc f) = _
      rw [nI_add, Nat.mul_comm]
    refine x_sp (T := T) (pe := fe_pe (fm_o ar T) n) g2 (by omega) (fun i hi => (hT i (by omega)).2) (fun i hi => hD i (by omega)) (fun P E a1 a2 => ?_)
    refine x_so (T := T) (Tp := T) (np := e) hn w1 w3 (by omega) (fun i hi => (hT i hi).2) hD w2 (fo_drv (fun i hi => (hT i hi).1) good) (fun U O out b1 b2 b3 => ?_)
    refine ⟨vp_in_nI hf (by decide), vp_in_nI hf (by decide), nm_r (e' := fo_n (fo_u rc f (rc f + 1))) ?_ (x_row111 hf ?_)⟩
    · rw [nI_clamp (by omega), show fo_n rc f + 1 = nI (rc f + 1) from nI_1 _, fo_nu]
    · rw [fo_us]; exact h1 good D P E U O out a1 a2 b1 b2 b3
  refine pk_eq n 0 (fun z => ?_) (fun z => ?_)
  · have : e = 1000 := by rw [he]; subst z; rfl
    rw [this] at main
    exact main
  · rw [hD 0 (by omega), ← he]
    exact main
end
section
variable {ycc ydr ynd yln yal ygl yst ybl yhw yrn ywk : Int32} {yA yDk yDw yK yW yPl yRl yRc yHd yLf yRg ySz yLi ySk ySt yAr yGv yF yEn yPc yBd yWk yWw yOw yCt yOz yOp yKn : Nat → Int32}
theorem y_row160 {post : Int32 → SY → Prop} {n f e r : Nat} (hf : f < 4) (he : e ≤ 12) (hen : e ≤ n) (h12 : n - e ≤ 12) (hr : r < 20) {K0 W0 : Nat → Int32}
    (hp : ∀ K W, (∀ j, j < e → K (24 * r + j) = yDk j ∧ W (24 * r + j) = yDw j) → (∀ j, j < n - e → K (24 * r + 12 + j) = yDk (e + j) ∧ W (24 * r + 12 + j) = yDw (e + j)) →
      (∀ q, (q < 24 * r ∨ 24 * r + 24 ≤ q) → K q = K0 q ∧ W q = W0 q) → post (yRc f) (ycc, 0, ynd, yln, yal, ygl, yst, ybl, yhw, yrn, ywk, yA, yDk, yDw, K, W, yPl, yRl, yRc, yHd, yLf, yRg, ySz, yLi, ySk, ySt, yAr, yGv, yF, yEn, yPc, yBd, yWk, yWw, yOw, yCt, yOz, yOp, upd yKn f 0)) :
    ∀ d i K W, i + d = n → (∀ j, j < i → j < e → K (24 * r + j) = yDk j ∧ W (24 * r + j) = yDw j) → (∀ j, e + j < i → K (24 * r + 12 + j) = yDk (e + j) ∧ W (24 * r + 12 + j) = yDw (e + j)) →
      (∀ q, (q < 24 * r ∨ 24 * r + 24 ≤ q) → K q = K0 q ∧ W q = W0 q) → wY_row_160 post (nI f) (nI e) (nI n) (nI r) ycc ydr ynd yln yal ygl yst ybl yhw yrn ywk (d + 1) (nI i) yA yDk yDw K W yPl yRl yRc yHd yLf yRg ySz yLi ySk ySt yAr yGv yF yEn yPc yBd yWk yWw yOw yCt yOz yOp yKn := by
  intro d
  induction d with
  | zero =>
    intro i K W hi a1 a2 a3
    have : i = n := by omega
    subst this
    refine br_t (nI_le (Nat.le_refl _) (by omega)) ⟨vp_in_nI hf (by decide), nm_r (e' := upd yKn f 0) (by rw [nI_clamp (by omega)]; rfl) ⟨vp_in_nI hf (by decide), ?_⟩⟩
    rw [nI_clamp (by omega)]
    exact hp K W (fun j hj => a1 j (by omega) hj) (fun j hj => a2 j (by omega)) a3
  | succ d ih =>
    intro i K W hi a1 a2 a3
    have key : ∀ (z : Int32) (t : Nat), z = nI t → t < 24 → (i < e → t = i) → (e ≤ i → t = 12 + (i - e)) →
        wY_row_189 post (wY_row_160 post (nI f) (nI e) (nI n) (nI r) ycc ydr ynd yln yal ygl yst ybl yhw yrn ywk (d + 1)) (nI f) (nI e) (nI n) (nI r) (nI i) z (24 * nI r) ycc ydr ynd yln yal ygl yst ybl yhw yrn ywk yA yDk yDw K W yPl yRl yRc yHd yLf yRg ySz yLi ySk ySt yAr yGv yF yEn yPc yBd yWk yWw yOw yCt yOz yOp yKn := by
      intro z t hz ht t1 t2
      refine nm_r (e' := nI (24 * r + t)) (by rw [hz, fo_24m, nI_add]) ⟨vp_in_nI (by omega) (by decide), vp_in_nI (by omega) (by decide), nm_r (e' := upd K (24 * r + t) (yDk i)) ?_ ⟨vp_in_nI (by omega) (by decide), vp_in_nI (by omega) (by decide), nm_r (e' := upd W (24 * r + t) (yDw i)) ?_ (nm_r (nI_1 i) (ih (i + 1) _ _ (by omega) ?_ ?_ ?_))⟩⟩
      · rw [nI_clamp (by omega), nI_clamp (by omega)]
      · rw [nI_clamp (by omega), nI_clamp (by omega)]
      · intro j h1 h2
        by_cases q : j = t
        · have : t = i := by omega
          subst q; rw [pk_us, pk_us, this]; exact ⟨rfl, rfl⟩
        · rw [pk_un (by omega), pk_un (by omega)]; exact a1 j (by omega) h2
      · intro j h1
        by_cases q : 12 + j = t
        · have : e + j = i := by omega
          rw [show 24 * r + 12 + j = 24 * r + t by omega, pk_us, pk_us, this]; exact ⟨rfl, rfl⟩
        · rw [pk_un (by omega), pk_un (by omega)]; exact a2 j (by omega)
      · intro q hq
        rw [pk_un (by omega), pk_un (by omega)]; exact a3 q hq
    refine br_f (nI_ge (by omega) (by omega)) (pk_le e i (fun z => key _ (12 + (i - e)) ?_ (by omega) (fun h => by omega) (fun _ => rfl)) (fun z => key _ i rfl (by omega) (fun _ => rfl) (fun h => by omega)))
    rw [show (12 : Int32) + nI i = nI (12 + i) from nI_add 12 i, pk_sub (by omega)]
    exact congrArg nI (by omega)
theorem y_row {post : Int32 → SY → Prop} {ar T rc : Nat → Nat} {c n f e : Nat} (hc : c ≤ 6) (hn : n ≤ 40) (ha : ∀ i, ar i ≤ 2) (hf : f < 4) (hrc : rc f < 5)
    (hT : ∀ i, i < n → fo_tk c (T i) ∧ yDk i = nI (T i / 8) ∧ ((T i / 8 = 1 ∨ T i / 8 = 2 ∨ T i / 8 = 5) → yDw i = nI (T i % 8))) (he : e = fe_pe (fm_o ar T) n 0)
    (h0 : ¬ fo_dr ar T n e → post (-2) (ycc, 0, ynd, yln, yal, ygl, yst, ybl, yhw, yrn, ywk, fo_n ar, yDk, yDw, yK, yW, yPl, yRl, fo_n rc, yHd, yLf, yRg, ySz, yLi, ySk, ySt, yAr, yGv, yF, yEn, yPc, yBd, yWk, yWw, yOw, yCt, yOz, yOp, yKn))
    (h1 : fo_dr ar T n e → ∀ K W, (∀ j, j < e → K (24 * (5 * f + rc f) + j) = yDk j ∧ W (24 * (5 * f + rc f) + j) = yDw j) →
      (∀ j, j < n - e → K (24 * (5 * f + rc f) + 12 + j) = yDk (e + j) ∧ W (24 * (5 * f + rc f) + 12 + j) = yDw (e + j)) →
      (∀ q, (q < 24 * (5 * f + rc f) ∨ 24 * (5 * f + rc f) + 24 ≤ q) → K q = yK q ∧ W q = yW q) →
      post (nI (rc f + 1)) (ycc, 0, ynd, yln, yal, ygl, yst, ybl, yhw, yrn, ywk, fo_n ar, yDk, yDw, K, W, upd yPl (5 * f + rc f) (nI e), upd yRl (5 * f + rc f) (nI (n - e)), fo_n (fo_u rc f (rc f + 1)), yHd, yLf, yRg, ySz, yLi, ySk, ySt, yAr, yGv, yF, yEn, yPc, yBd, yWk, yWw, yOw, yCt, yOz, yOp, upd yKn f 0)) :
    wpY_row post (ycc, nI n, ynd, yln, yal, ygl, yst, ybl, yhw, yrn, ywk, fo_n ar, yDk, yDw, yK, yW, yPl, yRl, fo_n rc, yHd, yLf, yRg, ySz, yLi, ySk, ySt, yAr, yGv, yF, yEn, yPc, yBd, yWk, yWw, yOw, yCt, yOz, yOp, yKn) (nI f) := by
  have hr := fe_pe_rng (fm_o ar T) (n := n) (i := 0) (by omega)
  rw [← he] at hr
  have hT2 : ∀ i, i < n → fo_tk c (T i) ∧ yDk i = nI (T i / 8) ∧ (T i / 8 = 2 → yDw i = nI (T i % 8)) := fun i hi => ⟨(hT i hi).1, (hT i hi).2.1, fun z => (hT i hi).2.2 (Or.inr (Or.inl z))⟩
  have bad : ∀ x y : Int32, ¬ fo_dr ar T n e → wY_row_101 post (nI f) x y ycc (nI n) ynd yln yal ygl yst ybl yhw yrn ywk (fo_n ar) yDk yDw yK yW yPl yRl (fo_n rc) yHd yLf yRg ySz yLi ySk ySt yAr yGv yF yEn yPc yBd yWk yWw yOw yCt yOz yOp yKn := fun x y g => br_t rfl (h0 g)
  unfold wpY_row
  refine y_in1 hf (br_f fo_z1 ⟨vp_in_nI hf (by decide), ?_⟩)
  rw [nI_clamp (by omega)]
  refine br_f (fun z => ?_) (y_eo (T := T) (i := 0) hc hn ha (Nat.zero_le _) hT2 (fun z => br_f (by decide) ?_) (fun z => ?_))
  · have := (nI_eq (b := 5) (by omega) (by decide)).mp z
    omega
  · rw [← he] at z
    refine br_f (by decide) (br_t (by decide) (bad _ _ (fun g => by have := g.1; omega)))
  rw [← he] at z ⊢
  refine br_t (nI_pos' (by omega)) ?_
  have hr2 := fe_pe_rng (fm_o ar T) (n := n) (i := e) (by omega)
  have cut : ∀ i, i < e → i < fe_pe (fm_o ar T) n i ∧ fe_pe (fm_o ar T) n i ≤ e := fun i hi => by
    obtain ⟨a, b⟩ := fe_pe_cut (fm_o ar T) he.symm (by omega) (by omega) (Nat.zero_le i) hi
    rw [a]; exact b
  have hs16 := fp_set_lt e (fun j hj => fp_v4 (hT j (by omega)).1)
  have final : ∀ (y x : Int32) , (fe_pe (fm_o ar T) n e = n → y = nI n) → (fe_pe (fm_o ar T) n e ≠ n → ¬ y = nI n) →
      (fp_bad T (fe_pe (fm_o ar T) n) e → x < 0) → (¬ fp_bad T (fe_pe (fm_o ar T) n) e → x = nI (fp_set T e)) → wY_row_54 post (nI f) (nI e) y x ycc (nI n) ynd yln yal ygl yst ybl yhw yrn ywk (fo_n ar) yDk yDw yK yW yPl yRl (fo_n rc) yHd yLf yRg ySz yLi ySk ySt yAr yGv yF yEn yPc yBd yWk yWw yOw yCt yOz yOp yKn := by
    intro y x y1 y2 x1 x2
    refine pk_le e 0 (fun w => by omega) (fun w => pk_le 13 e (fun w2 => bad _ _ (fun g => by have := g.2.1; omega)) (fun w2 => ?_))
    by_cases w3 : fe_pe (fm_o ar T) n e = n
    · rw [y1 w3]
      have hne : e < n := by omega
      refine br_t rfl (pk_le 13 (n - e) (fun w4 => bad _ _ (fun g => by have := g.2.2.2.2.2.1; omega)) (fun w4 => ?_) rfl (pk_sub (by omega)))
      by_cases w5 : fp_bad T (fe_pe (fm_o ar T) n) e
      · exact br_t (x1 w5) (bad _ _ (fun g => g.2.2.1 w5))
      · rw [x2 w5]
        refine br_f (nI_pos (by omega)) (y_ir hn hs16 (by omega) hT (fun g => br_t rfl (bad _ _ (fun g2 => g g2.2.2.2.2.2.2))) (fun g => br_f fo_z1 ?_))
        have good : fo_dr ar T n e := ⟨by omega, by omega, w5, hne, w3, by omega, g⟩
        refine br_f fo_z1 ⟨vp_in_nI hf (by decide), nm_r (e' := nI (5 * f + rc f)) ?_ ⟨vp_in_nI hf (by decide), vp_in_nI hf (by decide), nm_r (e' := fo_n (fo_u rc f (rc f + 1))) ?_ ⟨vp_in_nI (by omega) (by decide), nm_r (e' := upd yPl (5 * f + rc f) (nI e)) (by rw [nI_clamp (by omega)]) ⟨vp_in_nI (by omega) (by decide), nm_r (e' := upd yRl (5 * f + rc f) (nI (n - e))) (by rw [nI_clamp (by omega), pk_sub (by omega)]) ⟨n + 1, ?_⟩⟩⟩⟩⟩
        · rw [nI_clamp (by omega), fo_5m]
          show nI (5 * f) + nI (rc f) = _
          rw [nI_add]
        · rw [nI_clamp (by omega), show fo_n rc f + 1 = nI (rc f + 1) from nI_1 _, fo_nu]
        · refine y_row160 (K0 := yK) (W0 := yW) hf (by omega) (by omega) (by omega) (by omega) (fun K W a1 a2 a3 => ?_) n 0 yK yW (by omega) (fun j hj => by omega) (fun j hj => by omega) (fun q _ => ⟨rfl, rfl⟩)
          rw [show fo_n (fo_u rc f (rc f + 1)) f = nI (rc f + 1) by unfold fo_n; rw [fo_us]]
          exact h1 good K W a1 a2 a3
    · exact br_f (y2 w3) (bad _ _ (fun g => w3 g.2.2.2.2.1))
  have rest : ∀ y : Int32, (fe_pe (fm_o ar T) n e = n → y = nI n) → (fe_pe (fm_o ar T) n e ≠ n → ¬ y = nI n) → wY_row_40 post (nI f) (nI e) y ycc (nI n) ynd yln yal ygl yst ybl yhw yrn ywk (fo_n ar) yDk yDw yK yW yPl yRl (fo_n rc) yHd yLf yRg ySz yLi ySk ySt yAr yGv yF yEn yPc yBd yWk yWw yOw yCt yOz yOp yKn := by
    intro y y1 y2
    exact br_t (nI_pos' (by omega)) (y_vo hc hn ha (by omega) hT cut (fun g => final y _ y1 y2 (fun _ => by decide) (fun h => absurd g h)) (fun g => final y _ y1 y2 (fun h => absurd h g) (fun _ => rfl)))
  refine y_eo (T := T) hc hn ha (by omega) hT2 (fun w => rest _ (fun h => by omega) (fun _ h => ?_)) (fun w => rest _ (fun h => by rw [h]) (fun h h2 => h ((nI_eq (by omega) (by omega)).mp h2)))
  exact absurd (h ▸ nI_pos' (n := n) (by omega)) (by decide)
end
/-- the rows that were there -/
theorem fR_row_c {ar : Nat → Nat} {c : Nat} {xp xe xo xl yk yw xp' xe' xo' xl' yk' yw' : Nat → Int32} {T : Nat → Nat} {n : Nat} {pre pos : List Nat} {r : Nat}
    (h : fR_row ar c xp xe xo xl yk yw T n pre pos r) (e1 : ∀ j, j < 12 → xp' (12 * r + j) = xp (12 * r + j) ∧ xe' (12 * r + j) = xe (12 * r + j) ∧ xo' (12 * r + j) = xo (12 * r + j))
    (e2 : xl' r = xl r) (e3 : ∀ j, j < 24 → yk' (24 * r + j) = yk (24 * r + j) ∧ yw' (24 * r + j) = yw (24 * r + j)) : fR_row ar c xp' xe' xo' xl' yk' yw' T n pre pos r := by
  obtain ⟨h1, h2, h3, h4, h5, h6, h7, h8, h9⟩ := h
  have hl := (ff_len h5).1
  refine ⟨h1, h2, fun j hj => ?_, h4, h5, h6, by rw [e2]; exact h7, fun j hj => ?_, fun j hj => ?_⟩
  · obtain ⟨a1, a2, a3, a4, a5, a6⟩ := h3 j hj
    obtain ⟨b1, b2, b3⟩ := e1 j (by omega)
    obtain ⟨d1, d2⟩ := e3 j (by omega)
    rw [b1, b2, d1, d2]
    exact ⟨a1, a2, a3, a4, a5, a6⟩
  · rw [(e1 j (by omega)).2.2]; exact h8 j hj
  · obtain ⟨d1, d2⟩ := e3 (12 + j) (by omega)
    rw [Nat.add_assoc, d1, d2, ← Nat.add_assoc]; exact h9 j hj
theorem fv_gfe {T : Nat → Nat} : ∀ n i j, j < n → fv_g (fe_sl T i n) j = T (i + j) := by
  intro n i j h
  unfold fv_g
  rw [List.getD_eq_getElem?_getD, fe_sl_get T n i j h]
  rfl
def fo_p {α : Type} (g : Nat → α) (k : Nat) (x : α) : Nat → α := fun j => if j = k then x else g j
theorem fo_ps {α : Type} {g : Nat → α} {k : Nat} {x : α} : fo_p g k x k = x := if_pos rfl
theorem fo_pn {α : Type} {g : Nat → α} {k j : Nat} {x : α} (h : j ≠ k) : fo_p g k x j = g j := if_neg h
theorem i_vc_row {k : Nat} {u : SX} {v : SY} (I : i_Rel k u v) (hk : k + 4 ≤ 2048) (v1 : Int32) : wpX_row (fun r u' => wpY_row (fun r' v' => r' = r ∧ i_Rel (k + 4) u' v') v v1) u v1 := by
  refine i_el (P := fun u v => wpX_row (fun r u' => wpY_row (fun r' v' => r' = r ∧ i_Rel (k + 4) u' v') v v1) u v1) I ?_
  intro c n m g ar rc pl T pat pre pos arg giv xss xnc xdp xoc xrs xrt xrf ynd yln yhw yrn ywk xD xDe xUw xP xPe xO xOl xAr xS xSe xSn xF xNc xNf xNs xNz xCr xCn xCv xOp xRl xTa xUt yDk yDw yK yW yHd yLf yRg ySz yLi ySk ySt yF yEn yPc yBd yWk yWw yOw yCt yOz yOp yKn G
  rcases fo_f4 v1 with h | ⟨f, hf, rfl⟩
  · unfold wpX_row
    refine x_isF0 h (br_t rfl ?_)
    unfold wpY_row
    exact y_in0 h (br_t rfl ⟨rfl, i_mk G⟩)
  · by_cases r5 : rc f = 5
    · have e5 : fo_n rc (nI f).toNatClampNeg = 5 := by rw [nI_clamp (by omega)]; show nI (rc f) = 5; rw [r5]; rfl
      unfold wpX_row
      refine x_isF1 hf (br_f fo_z1 ⟨vp_in_nI hf (by decide), br_t e5 ?_⟩)
      unfold wpY_row
      exact y_in1 hf (br_f fo_z1 ⟨vp_in_nI hf (by decide), br_t e5 ⟨rfl, i_mk G⟩⟩)
    · obtain ⟨g1, g2, g3, g4, g5, g6, g7, g8, g9⟩ := G
      have hrc : rc f < 5 := by have := g4 f; omega
      have hX : ∀ i, i < n → fo_tk c (T i) ∧ xD i = nI (T i) := fun i hi => ⟨(g5 i hi).1, (g5 i hi).2.1⟩
      have hY : ∀ i, i < n → fo_tk c (T i) ∧ yDk i = nI (T i / 8) ∧ ((T i / 8 = 1 ∨ T i / 8 = 2 ∨ T i / 8 = 5) → yDw i = nI (T i % 8)) := fun i hi => ⟨(g5 i hi).1, (g5 i hi).2.2⟩
      refine x_row g1 g2 g3 hf hrc hX rfl (fun w D => y_row g1 g2 g3 hf hrc hY rfl (fun _ => ⟨rfl, i_mk (c := c) (n := 0) (m := m) (g := g) (ar := ar) (rc := rc) (pl := pl) (T := T) (pat := pat) (pre := pre) (pos := pos) (arg := arg) (giv := giv) ⟨g1, by omega, g3, g4, fun i hi => by omega, g6, g7, g8, g9⟩⟩) (fun z => absurd z w)) (fun w D P E U O out a1 a2 a3 a4 a5 => ?_)
      refine y_row g1 g2 g3 hf hrc hY rfl (fun z => absurd w z) (fun _ K W b1 b2 b3 => ⟨rfl, ?_⟩)
      generalize he : fe_pe (fm_o ar T) n 0 = e at *
      have hl := (ff_len a3).1
      rw [fe_sl_len] at hl
      rw [hl, fo_nu]
      refine i_mk (c := c) (n := 0) (m := m) (g := g) (ar := ar) (rc := fo_u rc f (rc f + 1)) (pl := fo_u pl (5 * f + rc f) e) (T := T) (pat := fo_p pat (5 * f + rc f) T) (pre := fo_p pre (5 * f + rc f) (fe_sl T e (n - e))) (pos := fo_p pos (5 * f + rc f) out) (arg := arg) (giv := giv) ⟨g1, by omega, g3, fun f' => ?_, fun i hi => by omega, fun f' i hf' hi => ?_, g7, g8, fun f' hf' => ?_⟩
      · by_cases q : f' = f
        · subst q; rw [fo_us]; omega
        · rw [fo_un q]; exact g4 f'
      · by_cases q : 5 * f' + i = 5 * f + rc f
        · rw [q, fo_us, fo_ps, fo_ps, fo_ps]
          obtain ⟨w1, w2, w3, w4, w5, w6, w7⟩ := w
          have h0e : 0 < e := by
            have := fe_pe_rng (fm_o ar T) (n := n) (i := 0) (by omega)
            omega
          have cut := fun j hj => fe_pe_cut (fm_o ar T) he w1 (by omega) (Nat.zero_le j) (i := j) hj
          refine ⟨w2, ⟨h0e, by omega, fe_pe_self _ he w1 h0e (by omega)⟩, fun j hj => ?_, fun i' j hi' hk' hij hj => ?_, a3, by rw [fe_sl_len]; exact w6, pk_us, a4, fun j hj => ?_⟩
          · have t := (hX j (by omega)).1
            refine ⟨t, ?_, (a1 j hj).1, by rw [(a1 j hj).2, (cut j hj).1], by rw [(b1 j hj).1]; exact (hY j (by omega)).2.1, fun z => by rw [(b1 j hj).2]; exact (hY j (by omega)).2.2 (by omega)⟩
            have : T j / 8 ≠ 5 := fun z => w3 ⟨j, hj, Or.inl z⟩
            have := fo_tk_le t
            omega
          · have c1 := cut i' hi'
            exact fun z => w3 ⟨j, by omega, Or.inr ⟨z, Or.inr ⟨i', hij, hk', by rw [c1.1]; exact hj⟩⟩⟩
          · rw [fe_sl_len] at hj
            rw [fv_gfe _ _ _ hj, (b2 j hj).1, (b2 j hj).2]
            refine ⟨(hY (e + j) (by omega)).2.1, (hY (e + j) (by omega)).2.2 ?_⟩
            have := w7 (e + j) (by omega) (by omega)
            omega
        · have hi' : i < rc f' := by
            by_cases q2 : f' = f
            · subst q2; rw [fo_us] at hi; omega
            · rw [fo_un q2] at hi; exact hi
          have := g4 f'
          rw [fo_un q, fo_pn q, fo_pn q, fo_pn q]
          refine fR_row_c (g6 f' i hf' hi') (fun j hj => ⟨(a2 _ (by omega)).1, (a2 _ (by omega)).2, a5 _ (by omega)⟩) (pk_un q) (fun j hj => b3 _ (by omega))
      · by_cases q : f' = f
        · subst q; exact Or.inl pk_us
        · refine fR_know_n (g9 f' hf') (pk_un q) ?_
          funext S m'
          refine fm_row_congr S m' (fo_un q) (fun i hi => ?_)
          have := g4 f'
          exact ⟨fo_pn (by omega), fo_un (by omega)⟩
