theorem fd_S0 (c s i : Nat) : fd_S c s 0 i = 0 := by
  unfold fd_S fd_dg
  rw [Nat.zero_div, Nat.zero_mod]
/-- the first value that no row takes, up to list j -/
def fd_U (P : Nat → Bool) (c s j : Nat) (U : Nat → Int32) : Prop :=
  ∀ j0, P j0 = true → fd_cn P j0 = 0 → j0 < j → ∀ i, i < s → U i = nI (fd_S c s j0 i)
section
variable {xcc xdr xas xss xnc xdp xoc xrs xrt xrf xrz : Int32} {xA xD xDe xUw xRc xP xPe xPl xO xOl xAr xS xSe xSn xF xNc xNf xNs xNz xCr xCn xCv xOp xRl xTa xUt : Nat → Int32}
theorem x_nl_loop {post : Int32 → SX → Prop} {c s j : Nat} (hc : c ≤ 6) (h0c : 0 < c) (hs : s ≤ 5) (hj : j < c ^ s)
    (h1 : j + 1 < c ^ s → ∀ A, (∀ i, i < s → A i = nI (fd_S c s (j + 1) i)) → post 1 (nI c, xdr, xas, nI s, xnc, xdp, xoc, xrs, xrt, xrf, xrz, xA, xD, xDe, xUw, xRc, xP, xPe, xPl, xO, xOl, xAr, A, xSe, xSn, xF, xNc, xNf, xNs, xNz, xCr, xCn, xCv, xOp, xRl, xTa, xUt))
    (h0 : j + 1 = c ^ s → ∀ A, post 0 (nI c, xdr, xas, nI s, xnc, xdp, xoc, xrs, xrt, xrf, xrz, xA, xD, xDe, xUw, xRc, xP, xPe, xPl, xO, xOl, xAr, A, xSe, xSn, xF, xNc, xNf, xNs, xNz, xCr, xCn, xCv, xOp, xRl, xTa, xUt)) :
    ∀ a A, a ≤ s → (j + 1) / c ^ (s - a) = j / c ^ (s - a) + 1 → (∀ i, a ≤ i → i < s → A i = nI 0 ∧ fd_S c s (j + 1) i = 0) → (∀ i, i < a → A i = nI (fd_S c s j i)) →
      wX_nextList_7 post (nI c) xdr xas (nI s) xnc xdp xoc xrs xrt xrf xrz (a + 1) (nI a + (-1)) xA xD xDe xUw xRc xP xPe xPl xO xOl xAr A xSe xSn xF xNc xNf xNs xNz xCr xCn xCv xOp xRl xTa xUt := by
  intro a
  induction a with
  | zero =>
    intro A _ hq _ _
    exact br_t (by decide) (h0 (fd_end hj hq) A)
  | succ b ih =>
    intro A hb hq hz hl
    have hd := fd_lt h0c j (s - (b + 1))
    have eS : fd_S c s j b = fd_dg c j (s - (b + 1)) := by unfold fd_S; rw [show s - 1 - b = s - (b + 1) by omega]
    have eS' : fd_S c s (j + 1) b = fd_dg c (j + 1) (s - (b + 1)) := by unfold fd_S; rw [show s - 1 - b = s - (b + 1) by omega]
    have low := fd_low h0c hq
    rw [show s - (b + 1) + 1 = s - b by omega] at low
    rw [pk_m1]
    have hin : vp_in (nI b) 40 := vp_in_nI (by omega) (by decide)
    refine br_f (nI_pos (by omega)) ⟨hin, hin, nm_r (e' := upd A b (nI (fd_dg c j (s - (b + 1)) + 1))) ?_ ⟨hin, ?_⟩⟩
    · rw [nI_clamp (by omega), hl b (by omega), nI_1, eS]
    rw [nI_clamp (by omega), pk_us]
    refine pk_le c (fd_dg c j (s - (b + 1)) + 1) (fun z => ⟨hin, nm_r (e' := upd (upd A b (nI (fd_dg c j (s - (b + 1)) + 1))) b 0) rfl (nm_e (ih _ (by omega) (low.2 (by omega)).2 ?_ ?_))⟩) (fun z => h1 (fd_lt0 hj (by omega) (low.1 (by omega)).2) _ ?_)
    · intro i h2 h3
      by_cases e : i = b
      · subst e
        exact ⟨pk_us, by rw [eS']; exact (low.2 (by omega)).1⟩
      · rw [pk_un e, pk_un e]; exact hz i (by omega) h3
    · intro i h2
      rw [pk_un (by omega), pk_un (by omega)]; exact hl i (by omega)
    · intro i hi
      by_cases e : i = b
      · subst e
        rw [pk_us, eS', (low.1 (by omega)).1]
      · rw [pk_un e]
        by_cases g : b < i
        · rw [(hz i (by omega) hi).1, (hz i (by omega) hi).2]
        · rw [hl i (by omega)]
          have := fd_high (low.1 (by omega)).2 (s - 1 - i) (by omega)
          unfold fd_S fd_dg
          rw [this]
theorem x_nl {post : Int32 → SX → Prop} {c s j : Nat} (hc : c ≤ 6) (h0c : 0 < c) (hs : s ≤ 5) (hj : j < c ^ s) (hS : ∀ i, i < s → xS i = nI (fd_S c s j i))
    (h1 : j + 1 < c ^ s → ∀ A, (∀ i, i < s → A i = nI (fd_S c s (j + 1) i)) → post 1 (nI c, xdr, xas, nI s, xnc, xdp, xoc, xrs, xrt, xrf, xrz, xA, xD, xDe, xUw, xRc, xP, xPe, xPl, xO, xOl, xAr, A, xSe, xSn, xF, xNc, xNf, xNs, xNz, xCr, xCn, xCv, xOp, xRl, xTa, xUt))
    (h0 : j + 1 = c ^ s → ∀ A, post 0 (nI c, xdr, xas, nI s, xnc, xdp, xoc, xrs, xrt, xrf, xrz, xA, xD, xDe, xUw, xRc, xP, xPe, xPl, xO, xOl, xAr, A, xSe, xSn, xF, xNc, xNf, xNs, xNz, xCr, xCn, xCv, xOp, xRl, xTa, xUt)) : wpX_nextList post (nI c, xdr, xas, nI s, xnc, xdp, xoc, xrs, xrt, xrf, xrz, xA, xD, xDe, xUw, xRc, xP, xPe, xPl, xO, xOl, xAr, xS, xSe, xSn, xF, xNc, xNf, xNs, xNz, xCr, xCn, xCv, xOp, xRl, xTa, xUt) := by
  refine nm_r (e' := nI s + (-1)) (Int32.sub_eq_add_neg _ _) ⟨s + 1, x_nl_loop hc h0c hs hj h1 h0 s xS (Nat.le_refl _) ?_ (fun i a b => by omega) hS⟩
  rw [Nat.sub_self, Nat.pow_zero, Nat.div_one, Nat.div_one]
theorem x_ku {post : SX → Prop} {s : Nat} (hs : s ≤ 5) (hp : ∀ U, (∀ i, i < s → U i = xS i) → post (xcc, xdr, xas, nI s, xnc, xdp, xoc, xrs, xrt, xrf, xrz, xA, xD, xDe, xUw, xRc, xP, xPe, xPl, xO, xOl, xAr, xS, xSe, xSn, xF, xNc, xNf, xNs, xNz, xCr, xCn, xCv, xOp, xRl, xTa, U)) : wpX_keepUntaken post (xcc, xdr, xas, nI s, xnc, xdp, xoc, xrs, xrt, xrf, xrz, xA, xD, xDe, xUw, xRc, xP, xPe, xPl, xO, xOl, xAr, xS, xSe, xSn, xF, xNc, xNf, xNs, xNz, xCr, xCn, xCv, xOp, xRl, xTa, xUt) := by
  have loop : ∀ d i U, i + d = s → (∀ j, j < i → U j = xS j) → wX_keepUntaken_2 post xcc xdr xas (nI s) xnc xdp xoc xrs xrt xrf xrz (d + 1) (nI i) xA xD xDe xUw xRc xP xPe xPl xO xOl xAr xS xSe xSn xF xNc xNf xNs xNz xCr xCn xCv xOp xRl xTa U := by
    intro d
    induction d with
    | zero =>
      intro i U hi h
      exact br_t (nI_le (by omega) (by omega)) (hp U (fun j hj => h j (by omega)))
    | succ d ih =>
      intro i U hi h
      refine br_f (nI_ge (by omega) (by omega)) ⟨vp_in_nI (by omega) (by decide), vp_in_nI (by omega) (by decide), nm_r (e' := upd U i (xS i)) (by rw [nI_clamp (by omega)]) (nm_r (nI_1 i) (ih (i + 1) _ (by omega) ?_))⟩
      intro j hj
      by_cases e : j = i
      · subst e; exact pk_us
      · rw [pk_un e]; exact h j (by omega)
  exact ⟨s + 1, loop s 0 xUt (by omega) (fun j hj => by omega)⟩
theorem x_sv_loop {post : SX → Prop} {ar rc pl : Nat → Nat} {pat : Nat → Nat → Nat} {c f s : Nat} (hc : c ≤ 6) (ha : ∀ i, ar i ≤ 2) (hf : f < 4) (hrc : rc f ≤ 5) (h1s : 1 ≤ s) (hs : s ≤ 5)
    (hP : ∀ i, i < rc f → fx_pat ar c xP xPe (pat (5 * f + i)) (pl (5 * f + i)) (5 * f + i))
    (hp : ∀ S E F t U, (∀ r, r ≤ 5 → t r = nI (fd_ct ar (fm_row ar pat pl rc f) c s r)) → fd_U (fd_P ar (fm_row ar pat pl rc f) c s 0) c s (c ^ s) U →
      post (nI c, xdr, xas, nI s, xnc, xdp, xoc, xrs, xrt, xrf, xrz, fo_n ar, xD, xDe, xUw, fo_n rc, xP, xPe, fo_n pl, xO, xOl, xAr, S, E, xSn, F, xNc, xNf, xNs, xNz, xCr, xCn, xCv, xOp, xRl, t, U)) :
    ∀ d j (more : Int32) S E F t U, j + d = c ^ s → (d = 0 → more = 0) → (d ≠ 0 → more = 1 ∧ ∀ i, i < s → S i = nI (fd_S c s j i)) →
      (∀ r, r ≤ 5 → t r = nI (fd_cn (fd_P ar (fm_row ar pat pl rc f) c s r) j)) → fd_U (fd_P ar (fm_row ar pat pl rc f) c s 0) c s j U →
      wX_survey_62 post (nI f) (d + 1) more (nI j) (nI c) xdr xas (nI s) xnc xdp xoc xrs xrt xrf xrz (fo_n ar) xD xDe xUw (fo_n rc) xP xPe (fo_n pl) xO xOl xAr S E xSn F xNc xNf xNs xNz xCr xCn xCv xOp xRl t U := by
  have hpow := fd_pow hc hs
  intro d
  induction d with
  | zero =>
    intro j more S E F t U hj hm _ ht hU
    have e : j = c ^ s := by omega
    subst e
    have hpost := hp S E F t U ht hU
    by_cases z : (7776 : Int32) ≤ nI (c ^ s)
    · exact br_t z hpost
    · exact br_f z (br_t (hm rfl) hpost)
  | succ d ih =>
    intro j more S E F t U hj _ hm ht hU
    obtain ⟨hm1, hS⟩ := hm (by omega)
    subst hm1
    have h0c : 0 < c := by
      refine Classical.byContradiction fun z => ?_
      have e : c = 0 := by omega
      rw [e, Nat.zero_pow (by omega)] at hj
      omega
    have hjlt : j < c ^ s := by omega
    -- the next list
    have nxt : ∀ S' E' F' t' U', (∀ i, i < s → S' i = nI (fd_S c s j i)) → (∀ r, r ≤ 5 → t' r = nI (fd_cn (fd_P ar (fm_row ar pat pl rc f) c s r) (j + 1))) →
        fd_U (fd_P ar (fm_row ar pat pl rc f) c s 0) c s (j + 1) U' →
        wX_survey_120 post (wX_survey_62 post (nI f) (d + 1)) (nI f) (nI j) (nI c) xdr xas (nI s) xnc xdp xoc xrs xrt xrf xrz (fo_n ar) xD xDe xUw (fo_n rc) xP xPe (fo_n pl) xO xOl xAr S' E' xSn F' xNc xNf xNs xNz xCr xCn xCv xOp xRl t' U' := by
      intro S' E' F' t' U' a1 a2 a3
      refine x_nl (xS := S') hc h0c hs hjlt a1 (fun z A hA => nm_r (nI_1 j) (ih (j + 1) 1 A E' F' t' U' (by omega) (fun g => by omega) (fun _ => ⟨rfl, hA⟩) a2 a3)) (fun z A => nm_r (nI_1 j) (ih (j + 1) 0 A E' F' t' U' (by omega) (fun _ => rfl) (fun g => by omega) a2 a3))
    have hcn : ∀ r, fd_cn (fd_P ar (fm_row ar pat pl rc f) c s r) j ≤ j := fun r => fd_cn_le _ _
    refine br_f (nI_ge (b := 7776) (by omega) (by decide)) (br_f fo_z1 (x_ms (S := fd_S c s j) hc (by omega) ha (fun i hi => ⟨fd_lt h0c _ _, hS i hi⟩) (fun g D hD => br_t rfl ?_) (fun g1 g2 D hD => br_f fo_z1 ?_)))
    · have nv : ¬ fe_pe (fm_v ar (fd_S c s j)) s 0 = s := fun z => g ⟨by omega, z⟩
      have np : ∀ r, fd_P ar (fm_row ar pat pl rc f) c s r j = false := fun r => by unfold fd_P; rw [decide_eq_false nv]; rfl
      refine nxt S D F t U hS (fun r hr => ?_) (fun j0 b1 b2 b3 => ?_)
      · rw [ht r hr]; simp only [fd_cn]; rw [np r]; rfl
      · by_cases e : j0 = j
        · subst e; rw [np 0] at b1; cases b1
        · exact hU j0 b1 b2 (by omega)
    · have fS : fx_sub ar c s (fd_S c s j) S D := ⟨by omega, ⟨by omega, by omega, g2⟩, fun i hi => ⟨fd_lt h0c _ _, hS i hi, hD i hi⟩⟩
      have pr : ∀ r, fd_P ar (fm_row ar pat pl rc f) c s r j = decide (fm_row ar pat pl rc f (fd_S c s j) s = r) := fun r => by unfold fd_P; rw [decide_eq_true g2]; rfl
      have hwle := fm_row_le ar pat pl rc f (fd_S c s j) s
      -- count it
      have cnt : ∀ (w : Nat) (x5 : Int32) F' U', fm_row ar pat pl rc f (fd_S c s j) s = w → x5 + 1 = nI w → fd_U (fd_P ar (fm_row ar pat pl rc f) c s 0) c s (j + 1) U' →
          wX_survey_107 post (wX_survey_62 post (nI f) (d + 1)) (nI f) (nI j) x5 (nI c) xdr xas (nI s) xnc xdp xoc xrs xrt xrf xrz (fo_n ar) xD xDe xUw (fo_n rc) xP xPe (fo_n pl) xO xOl xAr S D xSn F' xNc xNf xNs xNz xCr xCn xCv xOp xRl t U' := by
        intro w x5 F' U' hw hx hU'
        unfold wX_survey_107
        rw [hx]
        refine ⟨vp_in_nI (by omega) (by decide), vp_in_nI (by omega) (by decide), nm_r (e' := upd t w (nI (fd_cn (fd_P ar (fm_row ar pat pl rc f) c s w) j + 1))) ?_ (nxt S D F' _ U' hS ?_ hU')⟩
        · rw [nI_clamp (by omega), ht w (by omega), nI_1]
        · intro r hr
          simp only [fd_cn]
          rw [pr r, hw]
          by_cases e : r = w
          · subst e; rw [pk_us, decide_eq_true rfl]; rfl
          · rw [pk_un e, decide_eq_false (fun z => e z.symm), ht r hr]; rfl
      refine x_rf (pat := pat) hc ha hf hrc fS hP (fun z F' => br_t rfl ?_) (fun z F' => br_f ?_ (cnt _ _ F' U rfl ?_ ?_))
      · rw [ht 0 (by omega)]
        have p0 : fd_P ar (fm_row ar pat pl rc f) c s 0 j = true := by rw [pr 0, z]; rfl
        have := hcn 0
        refine pk_eq (fd_cn (fd_P ar (fm_row ar pat pl rc f) c s 0) j) 0 (fun q => ?_) (fun q => cnt 0 _ F' U z (by decide) (fun j0 b1 b2 b3 => ?_))
        · refine x_ku (xS := S) hs (fun U' hU' => cnt 0 _ F' U' z (by decide) (fun j0 b1 b2 b3 => ?_))
          have : j0 = j := fd_first _ b1 b2 p0 q
          subst this
          intro i hi
          rw [hU' i hi, hS i hi]
        · by_cases e : j0 = j
          · subst e; exact absurd b2 q
          · exact hU j0 b1 b2 (by omega)
      · exact fun q => absurd (q ▸ nI_pos' (n := fm_row ar pat pl rc f (fd_S c s j) s - 1) (by omega)) (by decide)
      · rw [nI_1]; exact congrArg nI (by omega)
      · intro j0 b1 b2 b3
        by_cases e : j0 = j
        · subst e
          rw [pr 0, decide_eq_false z] at b1
          cases b1
        · exact hU j0 b1 b2 (by omega)
theorem x_sv {post : SX → Prop} {ar rc pl : Nat → Nat} {pat : Nat → Nat → Nat} {c f s : Nat} (hc : c ≤ 6) (ha : ∀ i, ar i ≤ 2) (hf : f < 4) (hrc : rc f ≤ 5) (h1s : 1 ≤ s) (hs : s ≤ 5)
    (hP : ∀ i, i < rc f → fx_pat ar c xP xPe (pat (5 * f + i)) (pl (5 * f + i)) (5 * f + i))
    (hp : ∀ S E F t U, (∀ r, r ≤ 5 → t r = nI (fd_ct ar (fm_row ar pat pl rc f) c s r)) → fd_U (fd_P ar (fm_row ar pat pl rc f) c s 0) c s (c ^ s) U →
      post (nI c, xdr, xas, nI s, xnc, xdp, xoc, xrs, xrt, xrf, xrz, fo_n ar, xD, xDe, xUw, fo_n rc, xP, xPe, fo_n pl, xO, xOl, xAr, S, E, xSn, F, xNc, xNf, xNs, xNz, xCr, xCn, xCv, xOp, xRl, t, U)) :
    wpX_survey post (nI c, xdr, xas, xss, xnc, xdp, xoc, xrs, xrt, xrf, xrz, fo_n ar, xD, xDe, xUw, fo_n rc, xP, xPe, fo_n pl, xO, xOl, xAr, xS, xSe, xSn, xF, xNc, xNf, xNs, xNz, xCr, xCn, xCv, xOp, xRl, xTa, xUt) (nI f) (nI s) := by
  have zero : ∀ d i S t, i + d = s → (∀ j, j < i → S j = nI 0) → (∀ r, r ≤ 5 → t r = nI 0) →
      wX_survey_28 post (nI f) (nI s) (nI c) xdr xas (nI s) xnc xdp xoc xrs xrt xrf xrz (d + 1) (nI i) (fo_n ar) xD xDe xUw (fo_n rc) xP xPe (fo_n pl) xO xOl xAr S xSe xSn xF xNc xNf xNs xNz xCr xCn xCv xOp xRl t xUt := by
    intro d
    induction d with
    | zero =>
      intro i S t hi h1 h2
      have u0 : fd_U (fd_P ar (fm_row ar pat pl rc f) c s 0) c s 0 xUt := fun j0 _ _ h => by omega
      refine br_t (nI_le (by omega) (by omega)) (pk_le c 0 (fun z => ⟨c ^ s + 1, x_sv_loop hc ha hf hrc h1s hs hP hp (c ^ s) 0 0 S xSe xF t xUt (by omega) (fun _ => rfl) (fun g => ?_) h2 u0⟩) (fun z => ⟨c ^ s + 1, x_sv_loop hc ha hf hrc h1s hs hP hp (c ^ s) 0 1 S xSe xF t xUt (by omega) (fun g => ?_) (fun _ => ⟨rfl, fun j hj => ?_⟩) h2 u0⟩))
      · have e : c = 0 := by omega
        rw [e, Nat.zero_pow (by omega)] at g
        exact absurd rfl g
      · have := Nat.pow_pos (n := s) z
        omega
      · rw [h1 j (by omega), fd_S0]
    | succ d ih =>
      intro i S t hi h1 h2
      refine br_f (nI_ge (by omega) (by omega)) ⟨vp_in_nI (by omega) (by decide), nm_r (e' := upd S i (nI 0)) (by rw [nI_clamp (by omega)]; rfl) (nm_r (nI_1 i) (ih (i + 1) _ t (by omega) ?_ h2))⟩
      intro j hj
      by_cases e : j = i
      · subst e; exact pk_us
      · rw [pk_un e]; exact h1 j (by omega)
  have tal : ∀ d i t, i + d = 6 → (∀ r, r < i → t r = nI 0) → wX_survey_2 post (nI f) (nI s) (nI c) xdr xas xss xnc xdp xoc xrs xrt xrf xrz (d + 1) (nI i) (fo_n ar) xD xDe xUw (fo_n rc) xP xPe (fo_n pl) xO xOl xAr xS xSe xSn xF xNc xNf xNs xNz xCr xCn xCv xOp xRl t xUt := by
    intro d
    induction d with
    | zero =>
      intro i t hi h
      exact br_t (nI_le (a := 6) (by omega) (by omega)) ⟨s + 1, zero s 0 xS t (by omega) (fun j hj => by omega) (fun r hr => h r (by omega))⟩
    | succ d ih =>
      intro i t hi h
      refine br_f (nI_ge (b := 6) (by omega) (by decide)) ⟨vp_in_nI (by omega) (by decide), nm_r (e' := upd t i (nI 0)) (by rw [nI_clamp (by omega)]; rfl) (nm_r (nI_1 i) (ih (i + 1) _ (by omega) ?_))⟩
      intro j hj
      by_cases e : j = i
      · subst e; exact pk_us
      · rw [pk_un e]; exact h j (by omega)
  exact ⟨7, tal 6 0 xTa rfl (fun r hr => by omega)⟩
/-- the least size of a value that no row takes, and the first of these -/
def fd_open (ar : Nat → Nat) (rw' : (Nat → Nat) → Nat → Nat) (c : Nat) (z : Nat) (U : Nat → Int32) : Prop :=
  (z = 0 ∧ ∀ s, 1 ≤ s → s ≤ 5 → fd_ct ar rw' c s 0 = 0) ∨
    (1 ≤ z ∧ z ≤ 5 ∧ (∀ s', 1 ≤ s' → s' < z → fd_ct ar rw' c s' 0 = 0) ∧ ∃ j, j < c ^ z ∧ fd_P ar rw' c z 0 j = true ∧ fd_cn (fd_P ar rw' c z 0) j = 0 ∧ ∀ i, i < z → U i = nI (fd_S c z j i))
theorem x_lo {post : Int32 → SX → Prop} {ar rc pl : Nat → Nat} {pat : Nat → Nat → Nat} {c f : Nat} (hc : c ≤ 6) (ha : ∀ i, ar i ≤ 2) (hf : f < 4) (hrc : rc f ≤ 5)
    (hP : ∀ i, i < rc f → fx_pat ar c xP xPe (pat (5 * f + i)) (pl (5 * f + i)) (5 * f + i))
    (hp : ∀ ss S E F t U z, fd_open ar (fm_row ar pat pl rc f) c z U →
      post (nI z) (nI c, xdr, xas, ss, xnc, xdp, xoc, xrs, xrt, xrf, xrz, fo_n ar, xD, xDe, xUw, fo_n rc, xP, xPe, fo_n pl, xO, xOl, xAr, S, E, xSn, F, xNc, xNf, xNs, xNz, xCr, xCn, xCv, xOp, xRl, t, U)) :
    wpX_leastOpenSize post (nI c, xdr, xas, xss, xnc, xdp, xoc, xrs, xrt, xrf, xrz, fo_n ar, xD, xDe, xUw, fo_n rc, xP, xPe, fo_n pl, xO, xOl, xAr, xS, xSe, xSn, xF, xNc, xNf, xNs, xNz, xCr, xCn, xCv, xOp, xRl, xTa, xUt) (nI f) := by
  have loop : ∀ d s ss S E F t U, s + d = 6 → 1 ≤ s → (∀ s', 1 ≤ s' → s' < s → fd_ct ar (fm_row ar pat pl rc f) c s' 0 = 0) →
      wX_leastOpenSize_2 post (nI f) (d + 1) (nI s) (nI c) xdr xas ss xnc xdp xoc xrs xrt xrf xrz (fo_n ar) xD xDe xUw (fo_n rc) xP xPe (fo_n pl) xO xOl xAr S E xSn F xNc xNf xNs xNz xCr xCn xCv xOp xRl t U := by
    intro d
    induction d with
    | zero =>
      intro s ss S E F t U hs h1 h
      exact br_t (nI_lt (a := 5) (by omega) (by omega)) (hp ss S E F t U 0 (Or.inl ⟨rfl, fun s' a b => h s' a (by omega)⟩))
    | succ d ih =>
      intro s ss S E F t U hs h1 h
      refine br_f (nI_nlt (a := 5) (by omega) (by decide)) (x_sv (pat := pat) hc ha hf hrc h1 (by omega) hP (fun S' E' F' t' U' a1 a2 => ?_))
      have hle := fd_cn_le (fd_P ar (fm_row ar pat pl rc f) c s 0) (c ^ s)
      have hpow := fd_pow hc (show s ≤ 5 by omega)
      refine pk_le (fd_ct ar (fm_row ar pat pl rc f) c s 0) 0 (fun z => nm_r (nI_1 s) (ih (s + 1) _ _ _ _ _ _ (by omega) (by omega) (fun s' b1 b2 => ?_))) (fun z => hp _ _ _ _ _ _ s (Or.inr ⟨h1, by omega, h, ?_⟩)) (a1 0 (by omega)) rfl (by unfold fd_ct; omega)
      · by_cases e : s' = s
        · subst e; omega
        · exact h s' b1 (by omega)
      · obtain ⟨j, q1, q2, q3⟩ := fd_fst _ _ z
        exact ⟨j, q1, q2, q3, a2 j q2 q3 q1⟩
  exact ⟨6, loop 5 1 xss xS xSe xF xTa xUt rfl (Nat.le_refl _) (fun s' a b => by omega)⟩
end
