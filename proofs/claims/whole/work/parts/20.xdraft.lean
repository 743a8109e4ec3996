/-- no function's number -/
def fo_no4 (p : Int32) : Prop := p < 0 ∨ nI 4 ≤ p
theorem fo_f4 (p : Int32) : fo_no4 p ∨ ∃ f, f < 4 ∧ p = nI f := by
  rcases pk_ix p (n := 4) (by decide) with h | h | h
  · exact Or.inl (Or.inl h)
  · exact Or.inl (Or.inr h)
  · exact Or.inr h
theorem x_isF0 {post : Int32 → Prop} {p : Int32} (h : fo_no4 p) (h0 : post 0) : wpX_isFunction post p := by
  by_cases z : p < 0
  · exact br_t z h0
  · exact br_f z (br_t (h.resolve_left z) h0)
theorem x_isF1 {post : Int32 → Prop} {f : Nat} (h : f < 4) (h0 : post 1) : wpX_isFunction post (nI f) :=
  br_f (nI_pos (by omega)) (br_f (nI_ge (b := 4) h (by decide)) h0)
theorem y_in0 {post : Int32 → Prop} {p : Int32} (h : fo_no4 p) (h0 : post 0) : wpY_in post p 0 3 := by
  by_cases z : p < 0
  · exact br_t z h0
  · refine br_f z (br_t ?_ h0)
    obtain ⟨j, hj, rfl⟩ := nI_of z
    have h2 := (nI_leI (a := 4) (by decide) hj).mp (h.resolve_left z)
    exact nI_lt (a := 3) (by omega) hj
theorem y_in1 {post : Int32 → Prop} {f : Nat} (h : f < 4) (h0 : post 1) : wpY_in post (nI f) 0 3 :=
  br_f (nI_pos (by omega)) (br_f (nI_nlt (a := 3) (by omega) (by decide)) h0)
section
variable {xcc xdr xas xss xnc xdp xoc xrs xrt xrf xrz : Int32} {xA xD xDe xUw xRc xP xPe xPl xO xOl xAr xS xSe xSn xF xNc xNf xNs xNz xCr xCn xCv xOp xRl xTa xUt : Nat → Int32}
theorem x_ops {post : Int32 → Prop} {ar : Nat → Nat} {c t : Nat} (hc : c ≤ 6) (ht : fo_tk c t) (h : post (nI (fo_op ar t))) :
    wpX_operandsOf post (xcc, xdr, xas, xss, xnc, xdp, xoc, xrs, xrt, xrf, xrz, fo_n ar, xD, xDe, xUw, xRc, xP, xPe, xPl, xO, xOl, xAr, xS, xSe, xSn, xF, xNc, xNf, xNs, xNz, xCr, xCn, xCv, xOp, xRl, xTa, xUt) (nI t) := by
  have h48 := fo_tk_le ht
  refine ⟨by decide, nm_r (fo_d8 (by omega)) ?_⟩
  refine pk_lt (t / 8) 2 (fun z => ?_) (fun z => pk_lt 5 (t / 8) (fun w => ?_) (fun w => pk_eq (t / 8) 2 (fun k2 => ?_) (fun k2 => pk_eq (t / 8) 3 (fun k3 => ?_) (fun k3 => pk_eq (t / 8) 4 (fun k4 => ?_) (fun k4 => pk_eq (t / 8) 5 (fun k5 => ?_) (fun k5 => trivial))))))
  · rw [fo_op01 (by omega)] at h; exact h
  · omega
  · refine ⟨by decide, ?_⟩
    rw [fo_r8 (by omega)]
    unfold fo_tk at ht
    refine ⟨pk_in (t % 8) 6 (by omega), ?_⟩
    rw [nI_clamp (by omega)]
    rw [fo_op2 k2] at h; exact h
  · rw [fo_op3 k3] at h; exact h
  · rw [fo_op45 (Or.inl k4)] at h; exact h
  · rw [fo_op45 (Or.inr k5)] at h; exact h
/-- the ends of the draft's terms: one term -/
theorem x_md_in {post : SX → Prop} {ar T : Nat → Nat} {n i : Nat} (hi : i < n) (hn : n ≤ 40) (ha : ∀ i, ar i ≤ 2)
    {J : Int32 → (Nat → Int32) → (Nat → Int32) → (Nat → Int32) → (Nat → Int32) → (Nat → Int32) → (Nat → Int32) → (Nat → Int32) → (Nat → Int32) → (Nat → Int32) → (Nat → Int32) → (Nat → Int32) → (Nat → Int32) → (Nat → Int32) → (Nat → Int32) → (Nat → Int32) → (Nat → Int32) → (Nat → Int32) → (Nat → Int32) → (Nat → Int32) → (Nat → Int32) → (Nat → Int32) → (Nat → Int32) → (Nat → Int32) → (Nat → Int32) → (Nat → Int32) → (Nat → Int32) → Prop} (hD : ∀ j, i < j → j < n → xDe j = nI (fe_pe (fm_o ar T) n j))
    (hJ : J (nI i + (-1)) xA xD (upd xDe i (nI (fe_pe (fm_o ar T) n i))) xUw xRc xP xPe xPl xO xOl xAr xS xSe xSn xF xNc xNf xNs xNz xCr xCn xCv xOp xRl xTa xUt) :
    ∀ d k e, k + d = fm_o ar T i → e = fe_en (fm_o ar T) (n - (i + 1)) k (i + 1) →
      wX_measureDraft_29 post J (nI i) (nI (fm_o ar T i)) xcc (nI n) xas xss xnc xdp xoc xrs xrt xrf xrz xA xD xDe xUw xRc xP xPe xPl xO xOl xAr xS xSe xSn xF xNc xNf xNs xNz xCr xCn xCv xOp xRl xTa xUt (d + 1) (nI e) (nI k) := by
  have ho : fm_o ar T i ≤ 2 := fo_op_le ha _
  intro d
  induction d with
  | zero =>
    intro k e hk he
    refine br_t (nI_le (by omega) (by omega)) ⟨vp_in_nI (by omega) (by decide), nm_r ?_ (nm_e hJ)⟩
    rw [nI_clamp (by omega), he, fe_pe_def _ hi, show k = fm_o ar T i by omega]
  | succ d ih =>
    intro k e hk he
    have hr := fe_rng (fm_o ar T) (n - (i + 1)) k (i + 1)
    have hs := fe_pe_snoc (fm_o ar T) hi (by omega) k
    rw [← he] at hr hs
    refine br_f (nI_ge (by omega) (by omega)) (pk_le n e (fun h => ?_) (fun h => ⟨vp_in_nI (by omega) (by decide), nm_r (e' := nI (fe_pe (fm_o ar T) n e)) ?_ (nm_r (nI_1 k) ?_)⟩))
    · refine nm_r (nI_1 k) (ih (k + 1) 1000 (by omega) ?_)
      rw [hs, if_neg (by omega)]
    · rw [nI_clamp (by omega), hD e (by omega) h]
    · refine ih (k + 1) _ (by omega) ?_
      rw [hs, if_pos h]
theorem x_md_out {post : SX → Prop} {ar T : Nat → Nat} {c n : Nat} (hc : c ≤ 6) (hn : n ≤ 40) (ha : ∀ i, ar i ≤ 2)
    (hT : ∀ i, i < n → fo_tk c (T i) ∧ xD i = nI (T i))
    (hp : ∀ D, (∀ j, j < n → D j = nI (fe_pe (fm_o ar T) n j)) → post (xcc, nI n, xas, xss, xnc, xdp, xoc, xrs, xrt, xrf, xrz, fo_n ar, xD, D, xUw, xRc, xP, xPe, xPl, xO, xOl, xAr, xS, xSe, xSn, xF, xNc, xNf, xNs, xNz, xCr, xCn, xCv, xOp, xRl, xTa, xUt)) :
    ∀ i D, i ≤ n → (∀ j, i ≤ j → j < n → D j = nI (fe_pe (fm_o ar T) n j)) →
      wX_measureDraft_7 post xcc (nI n) xas xss xnc xdp xoc xrs xrt xrf xrz (i + 1) (nI i + (-1)) (fo_n ar) xD D xUw xRc xP xPe xPl xO xOl xAr xS xSe xSn xF xNc xNf xNs xNz xCr xCn xCv xOp xRl xTa xUt := by
  intro i
  induction i with
  | zero => intro D _ h; exact br_t (by decide) (hp D (fun j hj => h j (by omega) hj))
  | succ k ih =>
    intro D hk h
    rw [pk_m1]
    refine br_f (nI_pos (by omega)) ⟨vp_in_nI (by omega) (by decide), ?_⟩
    rw [nI_clamp (by omega), (hT k (by omega)).2]
    refine x_ops hc (hT k (by omega)).1 (nm_r (nI_1 k) ⟨_, x_md_in (T := T) (by omega) hn ha (fun j h1 h2 => h j (by omega) h2) (ih _ (by omega) ?_) _ 0 (k + 1) (Nat.zero_add _) (by rw [fe_en0])⟩)
    intro j h1 h2
    by_cases e : j = k
    · subst e; exact pk_us
    · rw [pk_un e]; exact h j (by omega) h2
theorem x_md {post : SX → Prop} {ar T : Nat → Nat} {c n : Nat} (hc : c ≤ 6) (hn : n ≤ 40) (ha : ∀ i, ar i ≤ 2)
    (hT : ∀ i, i < n → fo_tk c (T i) ∧ xD i = nI (T i))
    (hp : ∀ D, (∀ j, j < n → D j = nI (fe_pe (fm_o ar T) n j)) → post (xcc, nI n, xas, xss, xnc, xdp, xoc, xrs, xrt, xrf, xrz, fo_n ar, xD, D, xUw, xRc, xP, xPe, xPl, xO, xOl, xAr, xS, xSe, xSn, xF, xNc, xNf, xNs, xNz, xCr, xCn, xCv, xOp, xRl, xTa, xUt)) :
    wpX_measureDraft post (xcc, nI n, xas, xss, xnc, xdp, xoc, xrs, xrt, xrf, xrz, fo_n ar, xD, xDe, xUw, xRc, xP, xPe, xPl, xO, xOl, xAr, xS, xSe, xSn, xF, xNc, xNf, xNs, xNz, xCr, xCn, xCv, xOp, xRl, xTa, xUt) := by
  refine nm_r (e' := nI n + (-1)) (Int32.sub_eq_add_neg _ _) ⟨_, x_md_out hc hn ha hT hp n xDe (Nat.le_refl _) (fun j h1 h2 => by omega)⟩
end
