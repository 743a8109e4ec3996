/-- the tokens from fr on are those of a result; s: the variables that it may have -/
def fp_res (T : Nat → Nat) (s fr n : Nat) : Prop := ∀ i, fr ≤ i → i < n → (T i / 8 = 1 ∧ s.testBit (T i % 8) = true) ∨ T i / 8 = 2 ∨ T i / 8 = 5
theorem fp_13 {t : Nat} (h1 : t = 1) (h : t = 3 ∨ t = 4) : False := by omega
theorem fp_v4 {c t : Nat} (h : fo_tk c t) (h1 : t / 8 = 1) : t % 8 < 4 := by
  unfold fo_tk at h; omega
section
variable {xcc xdr xas xss xnc xdp xoc xrs xrt xrf xrz : Int32} {xA xD xDe xUw xRc xP xPe xPl xO xOl xAr xS xSe xSn xF xNc xNf xNs xNz xCr xCn xCv xOp xRl xTa xUt : Nat → Int32}
theorem x_pv75n {post : Int32 → Prop} {J : Int32 → Int32 → Int32 → Prop} {x1 x2 x3 : Int32} {i k : Nat} (hk : k ≠ 1) (hk2 : k < 2 ^ 31)
    (h : J x2 x3 (nI (i + 1))) : wX_patternVariables_75 post J x1 x2 x3 (nI i) (nI k) xcc xdr xas xss xnc xdp xoc xrs xrt xrf xrz xA xD xDe xUw xRc xP xPe xPl xO xOl xAr xS xSe xSn xF xNc xNf xNs xNz xCr xCn xCv xOp xRl xTa xUt :=
  br_f (fun z => hk ((nI_eq (b := 1) hk2 (by decide)).mp z)) (nm_r (nI_1 i) h)
theorem x_pv_loop {post : Int32 → Prop} {T pe : Nat → Nat} {c n e : Nat} (hn : n ≤ 40) (he : e ≤ n) (he2 : e ≤ 12)
    (hT : ∀ i, i < n → fo_tk c (T i) ∧ xD i = nI (T i)) (hD : ∀ i, i < n → xDe i = nI (pe i)) (hpe : ∀ i, i < e → i < pe i ∧ pe i ≤ e)
    (hnest : ∀ i j, i < e → i ≤ j → j < pe i → pe j ≤ pe i) (h0 : fp_bad T pe e → post (-1)) (h1 : ¬ fp_bad T pe e → post (nI (fp_set T e))) :
    ∀ d i cu, i + d = e → ¬ fp_bad T pe i → cu ≤ e → (∀ q, q < i → (T q / 8 = 3 ∨ T q / 8 = 4) → pe q ≤ cu) →
      (cu = 0 ∨ ∃ q, q < i ∧ (T q / 8 = 3 ∨ T q / 8 = 4) ∧ pe q = cu) →
      wX_patternVariables_23 post (nI e) xcc xdr xas xss xnc xdp xoc xrs xrt xrf xrz xA xD xDe xUw xRc xP xPe xPl xO xOl xAr xS xSe xSn xF xNc xNf xNs xNz xCr xCn xCv xOp xRl xTa xUt (d + 1) (nI (fp_set T i)) (nI cu) (nI i) := by
  intro d
  induction d with
  | zero =>
    intro i cu hi hb _ _ _
    have : i = e := by omega
    subst this
    exact br_t (nI_le (Nat.le_refl _) (by omega)) (h1 hb)
  | succ d ih =>
    intro i cu hi hb hcu hA hB
    have hie : i < e := by omega
    have hin : i < n := by omega
    obtain ⟨ht, hx⟩ := hT i hin
    have h48 := fo_tk_le ht
    have bad : (T i / 8 = 5 ∨ (T i / 8 = 1 ∧ ((∃ j, j < i ∧ T j = T i) ∨ ∃ j, j ≤ i ∧ (T j / 8 = 3 ∨ T j / 8 = 4) ∧ i < pe j))) → post (-1) :=
      fun z => h0 ⟨i, hie, z⟩
    have nb : ¬ (T i / 8 = 5 ∨ (T i / 8 = 1 ∧ ((∃ j, j < i ∧ T j = T i) ∨ ∃ j, j ≤ i ∧ (T j / 8 = 3 ∨ T j / 8 = 4) ∧ i < pe j))) → ¬ fp_bad T pe (i + 1) := by
      rintro z ⟨q, hq, w⟩
      by_cases e' : q = i
      · subst e'; exact z w
      · exact hb ⟨q, by omega, w⟩
    refine br_f (nI_ge (by omega) (by omega)) ⟨vp_in_nI (by omega) (by decide), by decide, nm_r (e' := nI (T i / 8)) ?_ ?_⟩
    · rw [nI_clamp (by omega), hx, fo_d8 (by omega)]
    have hor : (T i / 8 = 3 ∨ T i / 8 = 4) → wX_patternVariables_61 post (wX_patternVariables_23 post (nI e) xcc xdr xas xss xnc xdp xoc xrs xrt xrf xrz xA xD xDe xUw xRc xP xPe xPl xO xOl xAr xS xSe xSn xF xNc xNf xNs xNz xCr xCn xCv xOp xRl xTa xUt (d + 1)) (nI e) (nI (fp_set T i)) (nI cu) (nI i) (nI (T i / 8)) xcc xdr xas xss xnc xdp xoc xrs xrt xrf xrz xA xD xDe xUw xRc xP xPe xPl xO xOl xAr xS xSe xSn xF xNc xNf xNs xNz xCr xCn xCv xOp xRl xTa xUt := by
      intro hk
      have hs : fp_set T (i + 1) = fp_set T i := by simp only [fp_set]; rw [if_neg (by omega)]
      refine pk_lt i cu (fun z => x_pv75n (by omega) (by omega) ?_) (fun z => ⟨vp_in_nI (by omega) (by decide), nm_r (e' := nI (pe i)) ?_ (x_pv75n (by omega) (by omega) ?_)⟩)
      · rw [← hs]
        refine ih (i + 1) cu (by omega) (nb (by omega)) hcu ?_ ?_
        · intro q hq hkq
          by_cases e' : q = i
          · subst e'
            rcases hB with g | ⟨q', g1, g2, g3⟩
            · omega
            · have := hnest q' q (by omega) (by omega) (by omega)
              omega
          · exact hA q (by omega) hkq
        · rcases hB with g | ⟨q', g1, g2, g3⟩
          · exact Or.inl g
          · exact Or.inr ⟨q', by omega, g2, g3⟩
      · rw [nI_clamp (by omega), hD i hin]
      · rw [← hs]
        refine ih (i + 1) (pe i) (by omega) (nb (by omega)) (hpe i hie).2 ?_ (Or.inr ⟨i, by omega, hk, rfl⟩)
        intro q hq hkq
        by_cases e' : q = i
        · subst e'; exact Nat.le_refl _
        · have := hA q (by omega) hkq
          have := (hpe i hie).1
          omega
    refine pk_eq (T i / 8) 5 (fun k5 => bad (Or.inl k5)) (fun k5 => pk_eq (T i / 8) 3 (fun k3 => hor (Or.inl k3)) (fun k3 => pk_eq (T i / 8) 4 (fun k4 => hor (Or.inr k4)) (fun k4 => ?_)))
    by_cases k1 : T i / 8 = 1
    · have v4 := fp_v4 ht k1
      have hs16 := fp_set_lt i (fun j hj => fp_v4 (hT j (by omega)).1)
      have hbit := fp_set_bit v4 i (fun j hj => fp_v4 (hT j (by omega)).1)
      have hb2 := fp_bx _ hs16 _ v4
      have hs : fp_set T (i + 1) = fp_set T i ||| 2 ^ (T i % 8) := by simp only [fp_set]; rw [if_pos k1]
      refine br_t (congrArg nI k1) ⟨vp_in_nI (by omega) (by decide), by decide, nm_r (e' := (1 : Int32) <<< (nI (T i % 8) &&& 31)) ?_ ?_⟩
      · rw [nI_clamp (by omega), hx, fo_r8 (by omega)]
      refine pk_lt i cu (fun z => ?_) (fun z => br_c (fun w => ?_) (fun w => ?_))
      · rcases hB with g | ⟨q', g1, g2, g3⟩
        · omega
        · exact bad (Or.inr ⟨k1, Or.inr ⟨q', by omega, g2, by omega⟩⟩)
      · have w' := hb2.1.mp w
        refine nm_r (hb2.2.trans (congrArg nI hs.symm)) (nm_r (nI_1 i) (ih (i + 1) cu (by omega) (nb ?_) hcu ?_ ?_))
        · rintro (g | ⟨_, ⟨j, hj, g⟩ | ⟨j, hj, g1, g2⟩⟩)
          · omega
          · have := hbit.mpr ⟨j, hj, by omega⟩
            rw [w'] at this; exact absurd this (by decide)
          · by_cases e' : j = i
            · subst e'; exact fp_13 k1 g1
            · have := hA j (by omega) g1
              omega
        · intro q hq hkq
          by_cases e' : q = i
          · subst e'; exact (fp_13 k1 hkq).elim
          · exact hA q (by omega) hkq
        · rcases hB with g | ⟨q', g1, g2, g3⟩
          · exact Or.inl g
          · exact Or.inr ⟨q', by omega, g2, g3⟩
      · have w' : (fp_set T i).testBit (T i % 8) = true := by
          cases hz : (fp_set T i).testBit (T i % 8) with
          | true => rfl
          | false => exact absurd (hb2.1.mpr hz) w
        obtain ⟨j, hj, g⟩ := hbit.mp w'
        exact bad (Or.inr ⟨k1, Or.inl ⟨j, hj, by omega⟩⟩)
    · have hs : fp_set T (i + 1) = fp_set T i := by simp only [fp_set]; rw [if_neg k1]
      refine x_pv75n k1 (by omega) ?_
      rw [← hs]
      refine ih (i + 1) cu (by omega) (nb (by omega)) hcu ?_ ?_
      · intro q hq hkq
        by_cases e' : q = i
        · subst e'; exact (hkq.elim k3 k4).elim
        · exact hA q (by omega) hkq
      · rcases hB with g | ⟨q', g1, g2, g3⟩
        · exact Or.inl g
        · exact Or.inr ⟨q', by omega, g2, g3⟩
/-- the pattern's variables, or -1 -/
theorem x_pv {post : Int32 → Prop} {T pe : Nat → Nat} {c n e : Nat} (hn : n ≤ 40) (he3 : e ≤ 1000)
    (hT : ∀ i, i < n → fo_tk c (T i) ∧ xD i = nI (T i)) (hD : ∀ i, i < n → xDe i = nI (pe i)) (hpe : e ≤ n → ∀ i, i < e → i < pe i ∧ pe i ≤ e)
    (hnest : e ≤ n → ∀ i j, i < e → i ≤ j → j < pe i → pe j ≤ pe i) (h0 : ¬ (e ≤ n ∧ e ≤ 12 ∧ ¬ fp_bad T pe e) → post (-1))
    (h1 : e ≤ n → e ≤ 12 → ¬ fp_bad T pe e → post (nI (fp_set T e))) : wpX_patternVariables post (xcc, nI n, xas, xss, xnc, xdp, xoc, xrs, xrt, xrf, xrz, xA, xD, xDe, xUw, xRc, xP, xPe, xPl, xO, xOl, xAr, xS, xSe, xSn, xF, xNc, xNf, xNs, xNz, xCr, xCn, xCv, xOp, xRl, xTa, xUt) (nI e) := by
  refine pk_lt n e (fun z => h0 (by omega)) (fun z => pk_le e 12 (fun w => ?_) (fun w => h0 (by omega)))
  refine ⟨e + 1, x_pv_loop hn z w hT hD (hpe z) (hnest z) (fun b => h0 (fun g => g.2.2 b)) (h1 z w) e 0 0 (by omega) ?_ (by omega) ?_ (Or.inl rfl)⟩
  · rintro ⟨q, hq, _⟩; omega
  · intro q hq; omega
theorem x_io75 {post J : Int32 → Prop} {T : Nat → Nat} {c s i : Nat} (hi : i < 40) (ht : fo_tk c (T i)) (hx : xD i = nI (T i)) (hs : s < 16)
    (h0 : T i / 8 = 1 → s.testBit (T i % 8) = false → post 0) (h1 : (T i / 8 = 1 → s.testBit (T i % 8) = true) → J (nI (i + 1))) :
    wX_isOutcome_75 post J (nI s) (nI i) (nI (T i / 8)) xcc xdr xas xss xnc xdp xoc xrs xrt xrf xrz xA xD xDe xUw xRc xP xPe xPl xO xOl xAr xS xSe xSn xF xNc xNf xNs xNz xCr xCn xCv xOp xRl xTa xUt := by
  have h48 := fo_tk_le ht
  refine pk_eq (T i / 8) 1 (fun k1 => ⟨vp_in_nI hi (by decide), by decide, ?_⟩) (fun k1 => nm_r (nI_1 i) (h1 (fun z => absurd z k1)))
  rw [nI_clamp (by omega), hx, fo_r8 (by omega)]
  have hb := fp_bx s hs _ (fp_v4 ht k1)
  refine br_c (fun w => h0 k1 (hb.1.mp w)) (fun w => nm_r (nI_1 i) (h1 (fun _ => ?_)))
  cases hz : s.testBit (T i % 8) with
  | true => rfl
  | false => exact absurd (hb.1.mpr hz) w
theorem x_io_loop {post : Int32 → Prop} {T : Nat → Nat} {c n s fr : Nat} (hn : n ≤ 40) (hs : s < 16)
    (hT : ∀ i, i < n → fo_tk c (T i) ∧ xD i = nI (T i)) (h0 : ¬ fp_res T s fr n → post 0) (h1 : fp_res T s fr n → post 1) :
    ∀ d i, i + d = n → fr ≤ i → fp_res T s fr i → wX_isOutcome_36 post (nI s) xcc (nI n) xas xss xnc xdp xoc xrs xrt xrf xrz xA xD xDe xUw xRc xP xPe xPl xO xOl xAr xS xSe xSn xF xNc xNf xNs xNz xCr xCn xCv xOp xRl xTa xUt (d + 1) (nI i) := by
  intro d
  induction d with
  | zero =>
    intro i hi _ hr
    have : i = n := by omega
    subst this
    exact br_t (nI_le (Nat.le_refl _) (by omega)) (h1 hr)
  | succ d ih =>
    intro i hi hf hr
    obtain ⟨ht, hx⟩ := hT i (by omega)
    have h48 := fo_tk_le ht
    have no : ¬ ((T i / 8 = 1 ∧ s.testBit (T i % 8) = true) ∨ T i / 8 = 2 ∨ T i / 8 = 5) → post 0 :=
      fun z => h0 (fun g => z (g i hf (by omega)))
    refine br_f (nI_ge (by omega) (by omega)) ⟨vp_in_nI (by omega) (by decide), by decide, nm_r (e' := nI (T i / 8)) ?_ ?_⟩
    · rw [nI_clamp (by omega), hx, fo_d8 (by omega)]
    have yes : (T i / 8 = 1 ∨ T i / 8 = 2 ∨ T i / 8 = 5) → wX_isOutcome_75 post (wX_isOutcome_36 post (nI s) xcc (nI n) xas xss xnc xdp xoc xrs xrt xrf xrz xA xD xDe xUw xRc xP xPe xPl xO xOl xAr xS xSe xSn xF xNc xNf xNs xNz xCr xCn xCv xOp xRl xTa xUt (d + 1)) (nI s) (nI i) (nI (T i / 8)) xcc (nI n) xas xss xnc xdp xoc xrs xrt xrf xrz xA xD xDe xUw xRc xP xPe xPl xO xOl xAr xS xSe xSn xF xNc xNf xNs xNz xCr xCn xCv xOp xRl xTa xUt := by
      intro hk
      refine x_io75 (by omega) ht hx hs (fun k1 z => no ?_) (fun z => ih (i + 1) (by omega) (by omega) ?_)
      · rw [z]
        rintro (⟨_, g⟩ | g | g)
        · cases g
        · omega
        · omega
      · intro j h2 h3
        by_cases e : j = i
        · subst e
          rcases hk with k | k
          · exact Or.inl ⟨k, z k⟩
          · exact Or.inr k
        · exact hr j h2 (by omega)
    exact pk_eq (T i / 8) 1 (fun k1 => yes (Or.inl k1)) (fun k1 => pk_eq (T i / 8) 2 (fun k2 => yes (Or.inr (Or.inl k2))) (fun k2 =>
      pk_eq (T i / 8) 5 (fun k5 => yes (Or.inr (Or.inr k5))) (fun k5 => no (by omega))))
theorem x_io {post : Int32 → Prop} {T pe : Nat → Nat} {c n s fr : Nat} (hn : n ≤ 40) (hs : s < 16) (hf : fr ≤ 1000)
    (hT : ∀ i, i < n → fo_tk c (T i) ∧ xD i = nI (T i)) (hD : ∀ i, i < n → xDe i = nI (pe i)) (hb : ∀ i, i < n → pe i ≤ 1000)
    (h0 : ¬ (fr < n ∧ pe fr = n ∧ n - fr ≤ 12 ∧ fp_res T s fr n) → post 0)
    (h1 : fr < n → pe fr = n → n - fr ≤ 12 → fp_res T s fr n → post 1) : wpX_isOutcome post (xcc, nI n, xas, xss, xnc, xdp, xoc, xrs, xrt, xrf, xrz, xA, xD, xDe, xUw, xRc, xP, xPe, xPl, xO, xOl, xAr, xS, xSe, xSn, xF, xNc, xNf, xNs, xNz, xCr, xCn, xCv, xOp, xRl, xTa, xUt) (nI fr) (nI s) := by
  refine pk_le n fr (fun z => h0 (by omega)) (fun z => ⟨vp_in_nI (by omega) (by decide), ?_⟩)
  rw [nI_clamp (by omega), hD fr z]
  have := hb fr z
  refine pk_eq (pe fr) n (fun w => ?_) (fun w => h0 (fun g => w g.2.1))
  refine pk_le (n - fr) 12 (fun y => ⟨n - fr + 1, ?_⟩) (fun y => h0 (by omega)) (pk_sub (by omega))
  exact x_io_loop hn hs hT (fun g => h0 (fun g2 => g g2.2.2.2)) (h1 z w y) (n - fr) fr (by omega) (Nat.le_refl _) (fun i a b => by omega)
end
