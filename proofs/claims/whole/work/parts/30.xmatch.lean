/-- the value that rows are tried on -/
def fx_sub (ar : Nat → Nat) (c m : Nat) (S : Nat → Nat) (xs xe : Nat → Int32) : Prop :=
  m ≤ 40 ∧ fe_full (fm_v ar S) m ∧ ∀ i, i < m → S i < c ∧ xs i = nI (S i) ∧ xe i = nI (fe_pe (fm_v ar S) m i)
/-- a row's pattern, as the component holds it -/
def fx_pat (ar : Nat → Nat) (c : Nat) (xp xe : Nat → Int32) (T : Nat → Nat) (n r : Nat) : Prop :=
  n ≤ 12 ∧ fe_full (fm_o ar T) n ∧ ∀ j, j < n → fo_tk c (T j) ∧ T j / 8 < 5 ∧ xp (12 * r + j) = nI (T j) ∧ xe (12 * r + j) = nI (fe_pe (fm_o ar T) n j)
theorem fx_pat_of {ar : Nat → Nat} {c : Nat} {xp xe xo xl yk yw : Nat → Int32} {T : Nat → Nat} {n : Nat} {pre pos : List Nat} {r : Nat}
    (h : fR_row ar c xp xe xo xl yk yw T n pre pos r) : fx_pat ar c xp xe T n r :=
  ⟨h.1, h.2.1, fun j hj => ⟨(h.2.2.1 j hj).1, (h.2.2.1 j hj).2.1, (h.2.2.1 j hj).2.2.1, (h.2.2.1 j hj).2.2.2.1⟩⟩
section
variable {xcc xdr xas xss xnc xdp xoc xrs xrt xrf xrz : Int32} {xA xD xDe xUw xRc xP xPe xPl xO xOl xAr xS xSe xSn xF xNc xNf xNs xNz xCr xCn xCv xOp xRl xTa xUt : Nat → Int32}
/-- the ends of the subject's parts: one part -/
theorem x_ms_in {post : Int32 → SX → Prop} {ar S : Nat → Nat} {c m i : Nat} (hc : c ≤ 6) (hi : i < m) (hm : m ≤ 40) (ha : ∀ i, ar i ≤ 2) (hS : S i < c ∧ xS i = nI (S i))
    {J : Int32 → (Nat → Int32) → (Nat → Int32) → (Nat → Int32) → (Nat → Int32) → (Nat → Int32) → (Nat → Int32) → (Nat → Int32) → (Nat → Int32) → (Nat → Int32) → (Nat → Int32) → (Nat → Int32) → (Nat → Int32) → (Nat → Int32) → (Nat → Int32) → (Nat → Int32) → (Nat → Int32) → (Nat → Int32) → (Nat → Int32) → (Nat → Int32) → (Nat → Int32) → (Nat → Int32) → (Nat → Int32) → (Nat → Int32) → (Nat → Int32) → (Nat → Int32) → (Nat → Int32) → Prop} (hD : ∀ j, i < j → j < m → xSe j = nI (fe_pe (fm_v ar S) m j))
    (hJ : J (nI i + (-1)) (fo_n ar) xD xDe xUw xRc xP xPe xPl xO xOl xAr xS (upd xSe i (nI (fe_pe (fm_v ar S) m i))) xSn xF xNc xNf xNs xNz xCr xCn xCv xOp xRl xTa xUt) :
    ∀ d k e, k + d = fm_v ar S i → e = fe_en (fm_v ar S) (m - (i + 1)) k (i + 1) →
      wX_measureSubject_17 post J (nI i) xcc xdr xas (nI m) xnc xdp xoc xrs xrt xrf xrz (fo_n ar) xD xDe xUw xRc xP xPe xPl xO xOl xAr xS xSe xSn xF xNc xNf xNs xNz xCr xCn xCv xOp xRl xTa xUt (d + 1) (nI e) (nI k) := by
  have ho : fm_v ar S i ≤ 2 := ha _
  intro d
  induction d with
  | zero =>
    intro k e hk he
    refine ⟨vp_in_nI (by omega) (by decide), ?_⟩
    rw [nI_clamp (by omega), hS.2, nI_clamp (by omega)]
    refine ⟨vp_in_nI (by omega) (by decide), br_t (nI_le (a := fm_v ar S i) (by omega) (by omega)) ⟨vp_in_nI (by omega) (by decide), nm_r ?_ (nm_e hJ)⟩⟩
    rw [he, fe_pe_def _ hi, show k = fm_v ar S i by omega]
  | succ d ih =>
    intro k e hk he
    have hr := fe_rng (fm_v ar S) (m - (i + 1)) k (i + 1)
    have hs := fe_pe_snoc (fm_v ar S) hi (by omega) k
    rw [← he] at hr hs
    refine ⟨vp_in_nI (by omega) (by decide), ?_⟩
    rw [nI_clamp (by omega), hS.2, nI_clamp (by omega)]
    refine ⟨vp_in_nI (by omega) (by decide), br_f (nI_ge (b := fm_v ar S i) (by omega) (by omega)) (pk_le m e (fun h => ?_) (fun h => ⟨vp_in_nI (by omega) (by decide), nm_r (e' := nI (fe_pe (fm_v ar S) m e)) ?_ (nm_r (nI_1 k) ?_)⟩))⟩
    · refine nm_r (nI_1 k) (ih (k + 1) 1000 (by omega) ?_)
      rw [hs, if_neg (by omega)]
    · rw [nI_clamp (by omega), hD e (by omega) h]
    · refine ih (k + 1) _ (by omega) ?_
      rw [hs, if_pos h]
theorem x_ms_out {post : Int32 → SX → Prop} {ar S : Nat → Nat} {c m : Nat} (hc : c ≤ 6) (hm : m ≤ 40) (ha : ∀ i, ar i ≤ 2)
    (hS : ∀ i, i < m → S i < c ∧ xS i = nI (S i))
    (h0 : ¬ (0 < m ∧ fe_pe (fm_v ar S) m 0 = m) → ∀ D, (∀ j, j < m → D j = nI (fe_pe (fm_v ar S) m j)) → post 0 (xcc, xdr, xas, nI m, xnc, xdp, xoc, xrs, xrt, xrf, xrz, fo_n ar, xD, xDe, xUw, xRc, xP, xPe, xPl, xO, xOl, xAr, xS, D, xSn, xF, xNc, xNf, xNs, xNz, xCr, xCn, xCv, xOp, xRl, xTa, xUt))
    (h1 : 0 < m → fe_pe (fm_v ar S) m 0 = m → ∀ D, (∀ j, j < m → D j = nI (fe_pe (fm_v ar S) m j)) → post 1 (xcc, xdr, xas, nI m, xnc, xdp, xoc, xrs, xrt, xrf, xrz, fo_n ar, xD, xDe, xUw, xRc, xP, xPe, xPl, xO, xOl, xAr, xS, D, xSn, xF, xNc, xNf, xNs, xNz, xCr, xCn, xCv, xOp, xRl, xTa, xUt)) :
    ∀ i D, i ≤ m → (∀ j, i ≤ j → j < m → D j = nI (fe_pe (fm_v ar S) m j)) →
      wX_measureSubject_7 post xcc xdr xas (nI m) xnc xdp xoc xrs xrt xrf xrz (i + 1) (nI i + (-1)) (fo_n ar) xD xDe xUw xRc xP xPe xPl xO xOl xAr xS D xSn xF xNc xNf xNs xNz xCr xCn xCv xOp xRl xTa xUt := by
  intro i
  induction i with
  | zero =>
    intro D _ h
    have h' : ∀ j, j < m → D j = nI (fe_pe (fm_v ar S) m j) := fun j hj => h j (by omega) hj
    refine br_t (by decide) (pk_le m 0 (fun z => h0 (by omega) D h') (fun z => ?_))
    rw [h' 0 z]
    have hr := fe_pe_rng (fm_v ar S) (n := m) (i := 0) (by omega)
    exact pk_eq (fe_pe (fm_v ar S) m 0) m (fun w => h1 z w D h') (fun w => h0 (fun g => w g.2) D h')
  | succ k ih =>
    intro D hk h
    rw [pk_m1]
    refine br_f (nI_pos (by omega)) (nm_r (nI_1 k) ⟨_, x_ms_in hc (by omega) hm ha (hS k (by omega)) (fun j h1 h2 => h j (by omega) h2) (ih _ (by omega) ?_) _ 0 (k + 1) (Nat.zero_add _) (by rw [fe_en0])⟩)
    intro j h1 h2
    by_cases e : j = k
    · subst e; exact pk_us
    · rw [pk_un e]; exact h j (by omega) h2
theorem x_ms {post : Int32 → SX → Prop} {ar S : Nat → Nat} {c m : Nat} (hc : c ≤ 6) (hm : m ≤ 40) (ha : ∀ i, ar i ≤ 2)
    (hS : ∀ i, i < m → S i < c ∧ xS i = nI (S i))
    (h0 : ¬ (0 < m ∧ fe_pe (fm_v ar S) m 0 = m) → ∀ D, (∀ j, j < m → D j = nI (fe_pe (fm_v ar S) m j)) → post 0 (xcc, xdr, xas, nI m, xnc, xdp, xoc, xrs, xrt, xrf, xrz, fo_n ar, xD, xDe, xUw, xRc, xP, xPe, xPl, xO, xOl, xAr, xS, D, xSn, xF, xNc, xNf, xNs, xNz, xCr, xCn, xCv, xOp, xRl, xTa, xUt))
    (h1 : 0 < m → fe_pe (fm_v ar S) m 0 = m → ∀ D, (∀ j, j < m → D j = nI (fe_pe (fm_v ar S) m j)) → post 1 (xcc, xdr, xas, nI m, xnc, xdp, xoc, xrs, xrt, xrf, xrz, fo_n ar, xD, xDe, xUw, xRc, xP, xPe, xPl, xO, xOl, xAr, xS, D, xSn, xF, xNc, xNf, xNs, xNz, xCr, xCn, xCv, xOp, xRl, xTa, xUt)) :
    wpX_measureSubject post (xcc, xdr, xas, nI m, xnc, xdp, xoc, xrs, xrt, xrf, xrz, fo_n ar, xD, xDe, xUw, xRc, xP, xPe, xPl, xO, xOl, xAr, xS, xSe, xSn, xF, xNc, xNf, xNs, xNz, xCr, xCn, xCv, xOp, xRl, xTa, xUt) :=
  nm_r (e' := nI m + (-1)) (Int32.sub_eq_add_neg _ _) ⟨_, x_ms_out hc hm ha hS h0 h1 m xSe (Nat.le_refl _) (fun j h1 h2 => by omega)⟩
/-- a part of a pattern against a part of the subject -/
theorem x_pf {post : Int32 → Prop} {ar S T : Nat → Nat} {c m n r i p : Nat} (hc : c ≤ 6) (ha : ∀ i, ar i ≤ 2) (hr : r < 20)
    (hS : fx_sub ar c m S xS xSe) (hP : fx_pat ar c xP xPe T n r) (hi : i < n) (hp : p < m)
    (hF : ∀ i' p', i < i' → i' < n → p' < m → xF (i' * 40 + p') = fo_b (fm_F ar T n S m i' p'))
    (h : post (fo_b (fm_F ar T n S m i p))) : wpX_partFits post (xcc, xdr, xas, nI m, xnc, xdp, xoc, xrs, xrt, xrf, xrz, fo_n ar, xD, xDe, xUw, xRc, xP, xPe, xPl, xO, xOl, xAr, xS, xSe, xSn, xF, xNc, xNf, xNs, xNz, xCr, xCn, xCv, xOp, xRl, xTa, xUt) (nI r * 12) (nI i) (nI p) := by
  obtain ⟨hm, fS, hS⟩ := hS
  obtain ⟨hn, fT, hP⟩ := hP
  obtain ⟨t1, t2, t3, t4⟩ := hP i hi
  have h48 := fo_tk_le t1
  have hv := fm_un fT S m hi p
  have ei := fe_full_e fT hi
  have eb : nI r * 12 = nI (12 * r) := (fo_m12 r).trans (congrArg nI (Nat.mul_comm r 12))
  have lk : ∀ (i' p' : Nat), i < i' → i' < n → p' < m → xF (nI (i' * 40) + nI p').toNatClampNeg = fo_b (fm_F ar T n S m i' p') ∧ vp_in (nI (i' * 40) + nI p') 480 := by
    intro i' p' h1 h2 h3
    rw [nI_add]
    exact ⟨by rw [nI_clamp (by omega)]; exact hF i' p' h1 h2 h3, vp_in_nI (by omega) (by decide)⟩
  have e5 : (nI i + 1) * 40 = nI ((i + 1) * 40) := by rw [nI_1, fo_m40]
  rw [eb]
  refine ⟨by rw [nI_add]; exact vp_in_nI (by omega) (by decide), nm_r (e' := nI (T i)) (by rw [nI_add, nI_clamp (by omega), t3]) (nm_r e5 ⟨by decide, nm_r (fo_d8 (by omega)) ?_⟩)⟩
  have second : i + 1 < n → vp_in ((nI (12 * r) + nI i) + 1) 240 ∧ xPe ((nI (12 * r) + nI i) + 1).toNatClampNeg * 40 = nI (fe_pe (fm_o ar T) n (i + 1) * 40) := by
    intro h1
    rw [nI_add, nI_1]
    refine ⟨vp_in_nI (by omega) (by decide), ?_⟩
    rw [nI_clamp (by omega), show 12 * r + i + 1 = 12 * r + (i + 1) by omega, (hP (i + 1) h1).2.2.2, fo_m40]
  refine pk_lt (T i / 8) 2 (fun z => ?_) (fun z => pk_lt 4 (T i / 8) (fun w => by omega) (fun w => pk_eq (T i / 8) 2 (fun k2 => ?_) (fun k2 => pk_eq (T i / 8) 3 (fun k3 => ?_) (fun k3 => pk_eq (T i / 8) 4 (fun k4 => ?_) (fun k4 => trivial)))))
  · rw [if_neg (by omega), if_neg (by omega), if_neg (by omega)] at hv
    rw [hv] at h; exact h
  · rw [if_neg (by omega), if_neg (by omega), if_pos k2] at hv
    obtain ⟨s1, s2, s3⟩ := hS p hp
    refine ⟨vp_in_nI (by omega) (by decide), nm_r (e' := nI (S p)) (by rw [nI_clamp (by omega), s2]) ⟨by decide, ?_⟩⟩
    refine pk_eq (S p) (T i % 8) (fun z1 => ?_) (fun z1 => ?_) rfl (fo_r8 (by omega))
    · have eo : fm_o ar T i = ar (T i % 8) := fo_op2 k2
      have ev : fm_v ar S p = ar (T i % 8) := by show ar (S p) = _; rw [z1]
      have ep := fe_full_e fS hp
      have h2 := ha (T i % 8)
      refine ⟨vp_in_nI (by omega) (by decide), nm_r (e' := nI (ar (T i % 8))) (by rw [nI_clamp (by omega), z1]; rfl) ?_⟩
      refine pk_eq (ar (T i % 8)) 0 (fun a0 => ?_) (fun a0 => ?_)
      · have : fm_F ar T n S m i p = true := by rw [hv]; simp [z1, a0]
        rw [this] at h; exact h
      · have i1 : i + 1 < n ∧ p + 1 < m := by
          by_cases a1 : ar (T i % 8) = 1
          · exact ⟨(fe_pe_c1 _ hi ei.2 fT.2.1 (eo.trans a1)).1, (fe_pe_c1 _ hp ep.2 fS.2.1 (ev.trans a1)).1⟩
          · exact ⟨(fe_pe_c2 _ hi ei.2 fT.2.1 (eo.trans (by omega))).1, (fe_pe_c2 _ hp ep.2 fS.2.1 (ev.trans (by omega))).1⟩
        obtain ⟨l1, l2⟩ := lk (i + 1) (p + 1) (by omega) i1.1 i1.2
        have e1 : (nI ((i + 1) * 40) + nI p) + 1 = nI ((i + 1) * 40) + nI (p + 1) := by rw [nI_add, nI_1, nI_add, Nat.add_assoc]
        rw [e1, l1]
        refine ⟨l2, fo_br (fun b => ?_) (fun b => ?_)⟩
        · have : fm_F ar T n S m i p = false := by rw [hv]; simp [b, a0]
          rw [this] at h; exact h
        · refine pk_eq (ar (T i % 8)) 1 (fun a1 => ?_) (fun a1 => ?_)
          · have : fm_F ar T n S m i p = true := by rw [hv]; simp [b, z1, a1]
            rw [this] at h; exact h
          · have a2 : ar (T i % 8) = 2 := by omega
            obtain ⟨_, c1, c2, _, _⟩ := fe_pe_c2 _ hi ei.2 fT.2.1 (eo.trans a2)
            obtain ⟨_, d1, d2, _, _⟩ := fe_pe_c2 _ hp ep.2 fS.2.1 (ev.trans a2)
            obtain ⟨q1, q2⟩ := second i1.1
            obtain ⟨l3, l4⟩ := lk (fe_pe (fm_o ar T) n (i + 1)) (fe_pe (fm_v ar S) m (p + 1)) (by omega) c2 d2
            have e2 : xSe (nI p + 1).toNatClampNeg = nI (fe_pe (fm_v ar S) m (p + 1)) := by rw [nI_1, nI_clamp (by omega), (hS (p + 1) i1.2).2.2]
            refine ⟨q1, by rw [nI_1]; exact vp_in_nI (by omega) (by decide), ?_⟩
            rw [q2, e2, l3]
            refine ⟨l4, fo_br (fun b2 => ?_) (fun b2 => ?_)⟩
            · have : fm_F ar T n S m i p = false := by rw [hv]; simp [b2, a2]
              rw [this] at h; exact h
            · have : fm_F ar T n S m i p = true := by rw [hv]; simp [b2, b, z1]
              rw [this] at h; exact h
    · have : fm_F ar T n S m i p = false := by rw [hv]; simp [z1]
      rw [this] at h; exact h
  · rw [if_pos k3] at hv
    have eo : fm_o ar T i = 2 := fo_op3 k3
    obtain ⟨c0, c1, c2, _, _⟩ := fe_pe_c2 _ hi ei.2 fT.2.1 eo
    obtain ⟨l1, l2⟩ := lk (i + 1) p (by omega) c0 hp
    rw [l1]
    refine ⟨l2, fo_br (fun b => ?_) (fun b => ?_)⟩
    · obtain ⟨q1, q2⟩ := second c0
      obtain ⟨l3, l4⟩ := lk (fe_pe (fm_o ar T) n (i + 1)) p (by omega) c2 hp
      refine ⟨q1, ?_⟩
      rw [q2, l3]
      refine ⟨l4, fo_br (fun b2 => ?_) (fun b2 => ?_)⟩
      · have : fm_F ar T n S m i p = false := by rw [hv]; simp [b2, b]
        rw [this] at h; exact h
      · have : fm_F ar T n S m i p = true := by rw [hv]; simp [b2]
        rw [this] at h; exact h
    · have : fm_F ar T n S m i p = true := by rw [hv]; simp [b]
      rw [this] at h; exact h
  · rw [if_neg k3, if_pos k4] at hv
    have eo : fm_o ar T i = 1 := fo_op45 (Or.inl k4)
    obtain ⟨c0, _⟩ := fe_pe_c1 _ hi ei.2 fT.2.1 eo
    obtain ⟨l1, l2⟩ := lk (i + 1) p (by omega) c0 hp
    rw [l1]
    refine ⟨l2, fo_br (fun b => ?_) (fun b => ?_)⟩
    · have : fm_F ar T n S m i p = true := by rw [hv]; simp [b]
      rw [this] at h; exact h
    · have : fm_F ar T n S m i p = false := by rw [hv]; simp [b]
      rw [this] at h; exact h
theorem x_mt_in {post : Int32 → SX → Prop} {ar S T : Nat → Nat} {c m n r i : Nat} (hc : c ≤ 6) (ha : ∀ i, ar i ≤ 2) (hr : r < 20)
    (hS : fx_sub ar c m S xS xSe) (hP : fx_pat ar c xP xPe T n r) (hi : i < n)
    {J : Int32 → (Nat → Int32) → (Nat → Int32) → (Nat → Int32) → (Nat → Int32) → (Nat → Int32) → (Nat → Int32) → (Nat → Int32) → (Nat → Int32) → (Nat → Int32) → (Nat → Int32) → (Nat → Int32) → (Nat → Int32) → (Nat → Int32) → (Nat → Int32) → (Nat → Int32) → (Nat → Int32) → (Nat → Int32) → (Nat → Int32) → (Nat → Int32) → (Nat → Int32) → (Nat → Int32) → (Nat → Int32) → (Nat → Int32) → (Nat → Int32) → (Nat → Int32) → (Nat → Int32) → Prop} (hJ : ∀ F, (∀ i' p', i ≤ i' → i' < n → p' < m → F (i' * 40 + p') = fo_b (fm_F ar T n S m i' p')) → J (nI i + (-1)) (fo_n ar) xD xDe xUw xRc xP xPe xPl xO xOl xAr xS xSe xSn F xNc xNf xNs xNz xCr xCn xCv xOp xRl xTa xUt) :
    ∀ p F, p ≤ m → (∀ i' p', i < i' → i' < n → p' < m → F (i' * 40 + p') = fo_b (fm_F ar T n S m i' p')) → (∀ p', p ≤ p' → p' < m → F (i * 40 + p') = fo_b (fm_F ar T n S m i p')) →
      wX_matches_20 post J (nI r) (nI i) xcc xdr xas (nI m) xnc xdp xoc xrs xrt xrf xrz (p + 1) (nI p + (-1)) (fo_n ar) xD xDe xUw xRc xP xPe xPl xO xOl xAr xS xSe xSn F xNc xNf xNs xNz xCr xCn xCv xOp xRl xTa xUt := by
  have hm := hS.1
  have hn := hP.1
  intro p
  induction p with
  | zero =>
    intro F _ h1 h2
    refine br_t (by decide) (nm_e (hJ F (fun i' p' a b d => ?_)))
    by_cases e : i' = i
    · subst e; exact h2 p' (by omega) d
    · exact h1 i' p' (by omega) b d
  | succ p ih =>
    intro F hp h1 h2
    rw [pk_m1]
    refine br_f (nI_pos (by omega)) (x_pf hc ha hr hS hP hi (by omega) h1 ?_)
    refine ⟨by rw [fo_m40, nI_add]; exact vp_in_nI (by omega) (by decide), nm_r (e' := upd F (i * 40 + p) (fo_b (fm_F ar T n S m i p))) ?_ (nm_e (ih _ (by omega) ?_ ?_))⟩
    · rw [fo_m40, nI_add, nI_clamp (by omega), fo_bv]
    · intro i' p' a b d
      rw [pk_un (by omega)]; exact h1 i' p' a b d
    · intro p' a b
      by_cases e : p' = p
      · subst e; exact pk_us
      · rw [pk_un (by omega)]; exact h2 p' (by omega) b
theorem x_mt_out {post : Int32 → SX → Prop} {ar S T : Nat → Nat} {c m n r : Nat} (hc : c ≤ 6) (ha : ∀ i, ar i ≤ 2) (hr : r < 20)
    (hS : fx_sub ar c m S xS xSe) (hP : fx_pat ar c xP xPe T n r) (hp : ∀ F, post (fo_b (fm_F ar T n S m 0 0)) (xcc, xdr, xas, nI m, xnc, xdp, xoc, xrs, xrt, xrf, xrz, fo_n ar, xD, xDe, xUw, xRc, xP, xPe, xPl, xO, xOl, xAr, xS, xSe, xSn, F, xNc, xNf, xNs, xNz, xCr, xCn, xCv, xOp, xRl, xTa, xUt)) :
    ∀ i F, i ≤ n → (∀ i' p', i ≤ i' → i' < n → p' < m → F (i' * 40 + p') = fo_b (fm_F ar T n S m i' p')) →
      wX_matches_9 post (nI r) xcc xdr xas (nI m) xnc xdp xoc xrs xrt xrf xrz (i + 1) (nI i + (-1)) (fo_n ar) xD xDe xUw xRc xP xPe xPl xO xOl xAr xS xSe xSn F xNc xNf xNs xNz xCr xCn xCv xOp xRl xTa xUt := by
  have hn := hP.1
  intro i
  induction i with
  | zero =>
    intro F _ h
    have e : F 0 = fo_b (fm_F ar T n S m 0 0) := h 0 0 (by omega) hP.2.1.1 hS.2.1.1
    refine br_t (by decide) ?_
    rw [e]
    exact ⟨fo_bn _, hp F⟩
  | succ i ih =>
    intro F hi h
    rw [pk_m1]
    refine br_f (nI_pos (by omega)) (nm_r (e' := nI m + (-1)) (Int32.sub_eq_add_neg _ _) ⟨m + 1, x_mt_in hc ha hr hS hP (by omega) (fun F' h' => ih F' (by omega) h') m F (Nat.le_refl _) (fun i' p' a => h i' p' (by omega)) (fun p' a b => by omega)⟩)
theorem x_mt {post : Int32 → SX → Prop} {ar S T : Nat → Nat} {c m n r : Nat} (hc : c ≤ 6) (ha : ∀ i, ar i ≤ 2) (hr : r < 20) {pl : Nat → Nat} (hpl : pl r = n)
    (hS : fx_sub ar c m S xS xSe) (hP : fx_pat ar c xP xPe T n r) (hp : ∀ F, post (fo_b (fm_F ar T n S m 0 0)) (xcc, xdr, xas, nI m, xnc, xdp, xoc, xrs, xrt, xrf, xrz, fo_n ar, xD, xDe, xUw, xRc, xP, xPe, fo_n pl, xO, xOl, xAr, xS, xSe, xSn, F, xNc, xNf, xNs, xNz, xCr, xCn, xCv, xOp, xRl, xTa, xUt)) :
    wpX_matches post (xcc, xdr, xas, nI m, xnc, xdp, xoc, xrs, xrt, xrf, xrz, fo_n ar, xD, xDe, xUw, xRc, xP, xPe, fo_n pl, xO, xOl, xAr, xS, xSe, xSn, xF, xNc, xNf, xNs, xNz, xCr, xCn, xCv, xOp, xRl, xTa, xUt) (nI r) := by
  refine ⟨vp_in_nI hr (by decide), nm_r (e' := nI n + (-1)) ?_ ⟨n + 1, x_mt_out hc ha hr hS hP hp n xF (Nat.le_refl _) (fun i' p' a b => by omega)⟩⟩
  rw [nI_clamp (by omega)]
  show nI (pl r) - 1 = _
  rw [hpl]; exact Int32.sub_eq_add_neg _ _
theorem x_rf_loop {post : Int32 → SX → Prop} {ar S rc pl : Nat → Nat} {pat : Nat → Nat → Nat} {c m f w : Nat} (hc : c ≤ 6) (ha : ∀ i, ar i ≤ 2) (hf : f < 4) (hrc : rc f ≤ 5)
    (hS : fx_sub ar c m S xS xSe) (hP : ∀ i, i < rc f → fx_pat ar c xP xPe (pat (5 * f + i)) (pl (5 * f + i)) (5 * f + i))
    (h0 : w = 0 → ∀ F, post (-1) (xcc, xdr, xas, nI m, xnc, xdp, xoc, xrs, xrt, xrf, xrz, fo_n ar, xD, xDe, xUw, fo_n rc, xP, xPe, fo_n pl, xO, xOl, xAr, xS, xSe, xSn, F, xNc, xNf, xNs, xNz, xCr, xCn, xCv, xOp, xRl, xTa, xUt))
    (h1 : w ≠ 0 → ∀ F, post (nI (w - 1)) (xcc, xdr, xas, nI m, xnc, xdp, xoc, xrs, xrt, xrf, xrz, fo_n ar, xD, xDe, xUw, fo_n rc, xP, xPe, fo_n pl, xO, xOl, xAr, xS, xSe, xSn, F, xNc, xNf, xNs, xNz, xCr, xCn, xCv, xOp, xRl, xTa, xUt)) :
    ∀ d i F, i + d = rc f → w = fm_tk (fun i => fm_F ar (pat (5 * f + i)) (pl (5 * f + i)) S m 0 0) d i →
      wX_rowFor_2 post (nI f) (d + 1) (nI i) xcc xdr xas (nI m) xnc xdp xoc xrs xrt xrf xrz (fo_n ar) xD xDe xUw (fo_n rc) xP xPe (fo_n pl) xO xOl xAr xS xSe xSn F xNc xNf xNs xNz xCr xCn xCv xOp xRl xTa xUt := by
  intro d
  induction d with
  | zero =>
    intro i F hi hw
    refine ⟨vp_in_nI hf (by decide), br_t ?_ (h0 hw F)⟩
    rw [nI_clamp (by omega)]
    exact nI_le (a := rc f) (by omega) (by omega)
  | succ d ih =>
    intro i F hi hw
    refine ⟨vp_in_nI hf (by decide), br_f ?_ ?_⟩
    · rw [nI_clamp (by omega)]
      exact nI_ge (b := rc f) (by omega) (by omega)
    rw [show nI f * 5 + nI i = nI (5 * f + i) by rw [fo_m5, nI_add, Nat.mul_comm]]
    refine x_mt hc ha (by omega) rfl hS (hP i (by omega)) (fun F' => fo_br (fun b => nm_r (nI_1 i) (ih (i + 1) F' (by omega) ?_)) (fun b => ?_))
    · rw [hw]; simp only [fm_tk]; rw [if_neg (by rw [b]; decide)]
    · have e : w = i + 1 := by rw [hw]; simp only [fm_tk]; rw [if_pos b]
      have := h1 (by omega) F'
      rw [show w - 1 = i by omega] at this
      exact this
theorem x_rf {post : Int32 → SX → Prop} {ar S rc pl : Nat → Nat} {pat : Nat → Nat → Nat} {c m f : Nat} (hc : c ≤ 6) (ha : ∀ i, ar i ≤ 2) (hf : f < 4) (hrc : rc f ≤ 5)
    (hS : fx_sub ar c m S xS xSe) (hP : ∀ i, i < rc f → fx_pat ar c xP xPe (pat (5 * f + i)) (pl (5 * f + i)) (5 * f + i))
    (h0 : fm_row ar pat pl rc f S m = 0 → ∀ F, post (-1) (xcc, xdr, xas, nI m, xnc, xdp, xoc, xrs, xrt, xrf, xrz, fo_n ar, xD, xDe, xUw, fo_n rc, xP, xPe, fo_n pl, xO, xOl, xAr, xS, xSe, xSn, F, xNc, xNf, xNs, xNz, xCr, xCn, xCv, xOp, xRl, xTa, xUt))
    (h1 : fm_row ar pat pl rc f S m ≠ 0 → ∀ F, post (nI (fm_row ar pat pl rc f S m - 1)) (xcc, xdr, xas, nI m, xnc, xdp, xoc, xrs, xrt, xrf, xrz, fo_n ar, xD, xDe, xUw, fo_n rc, xP, xPe, fo_n pl, xO, xOl, xAr, xS, xSe, xSn, F, xNc, xNf, xNs, xNz, xCr, xCn, xCv, xOp, xRl, xTa, xUt)) :
    wpX_rowFor post (xcc, xdr, xas, nI m, xnc, xdp, xoc, xrs, xrt, xrf, xrz, fo_n ar, xD, xDe, xUw, fo_n rc, xP, xPe, fo_n pl, xO, xOl, xAr, xS, xSe, xSn, xF, xNc, xNf, xNs, xNz, xCr, xCn, xCv, xOp, xRl, xTa, xUt) (nI f) :=
  ⟨rc f + 1, x_rf_loop hc ha hf hrc hS hP h0 h1 (rc f) 0 xF (by omega) rfl⟩
/-- the argument is seated -/
theorem x_sa_loop {post : SX → Prop} {ar W : Nat → Nat} {c m : Nat} (hc : c ≤ 6) (ha : ∀ i, ar i ≤ 2) (hW : fR_val ar c m W xAr)
    (hp : ∀ s e, fx_sub ar c m W s e → post (xcc, xdr, nI m, nI m, xnc, xdp, xoc, xrs, xrt, xrf, xrz, fo_n ar, xD, xDe, xUw, xRc, xP, xPe, xPl, xO, xOl, xAr, s, e, xSn, xF, xNc, xNf, xNs, xNz, xCr, xCn, xCv, xOp, xRl, xTa, xUt)) :
    ∀ d i s, i + d = m → (∀ j, j < i → s j = nI (W j)) → wX_seatArgument_10 post xcc xdr (nI m) (nI m) xnc xdp xoc xrs xrt xrf xrz (d + 1) (nI i) (fo_n ar) xD xDe xUw xRc xP xPe xPl xO xOl xAr s xSe xSn xF xNc xNf xNs xNz xCr xCn xCv xOp xRl xTa xUt := by
  obtain ⟨w1, w2, w3⟩ := hW
  intro d
  induction d with
  | zero =>
    intro i s hi h
    have : i = m := by omega
    subst this
    refine br_t (nI_le (Nat.le_refl _) (by omega)) (x_ms (S := W) hc w1 ha (fun j hj => ⟨(w3 j hj).1, h j hj⟩) (fun g => absurd ⟨w2.1, w2.2.2⟩ g) (fun _ _ D hD => hp s D ⟨w1, w2, fun j hj => ⟨(w3 j hj).1, h j hj, hD j hj⟩⟩))
  | succ d ih =>
    intro i s hi h
    refine br_f (nI_ge (by omega) (by omega)) ⟨vp_in_nI (by omega) (by decide), vp_in_nI (by omega) (by decide), nm_r (e' := upd s i (nI (W i))) ?_ (nm_r (nI_1 i) (ih (i + 1) _ (by omega) ?_))⟩
    · rw [nI_clamp (by omega), (w3 i (by omega)).2]
    · intro j hj
      by_cases e : j = i
      · subst e; exact pk_us
      · rw [pk_un e]; exact h j (by omega)
theorem x_sa {post : SX → Prop} {ar W : Nat → Nat} {c m : Nat} (hc : c ≤ 6) (ha : ∀ i, ar i ≤ 2) (hW : fR_val ar c m W xAr)
    (hp : ∀ s e, fx_sub ar c m W s e → post (xcc, xdr, nI m, nI m, xnc, xdp, xoc, xrs, xrt, xrf, xrz, fo_n ar, xD, xDe, xUw, xRc, xP, xPe, xPl, xO, xOl, xAr, s, e, xSn, xF, xNc, xNf, xNs, xNz, xCr, xCn, xCv, xOp, xRl, xTa, xUt)) : wpX_seatArgument post (xcc, xdr, nI m, xss, xnc, xdp, xoc, xrs, xrt, xrf, xrz, fo_n ar, xD, xDe, xUw, xRc, xP, xPe, xPl, xO, xOl, xAr, xS, xSe, xSn, xF, xNc, xNf, xNs, xNz, xCr, xCn, xCv, xOp, xRl, xTa, xUt) :=
  ⟨m + 1, x_sa_loop hc ha hW hp m 0 xS (by omega) (fun j hj => by omega)⟩
end
