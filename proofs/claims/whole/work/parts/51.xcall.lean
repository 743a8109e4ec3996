/-- every row is as it must be -/
def fx_rows (ar : Nat → Nat) (c : Nat) (rc pl : Nat → Nat) (pat : Nat → Nat → Nat) (pre pos : Nat → List Nat) (xp xe xo xl yk yw : Nat → Int32) : Prop :=
  ∀ f i, f < 4 → i < rc f → fR_row ar c xp xe xo xl yk yw (pat (5 * f + i)) (pl (5 * f + i)) (pre (5 * f + i)) (pos (5 * f + i)) (5 * f + i)
theorem fx_rowv {ar : Nat → Nat} {c : Nat} {xp xe xo xl yk yw : Nat → Int32} {T : Nat → Nat} {n : Nat} {pre pos : List Nat} {r : Nat}
    (h : fR_row ar c xp xe xo xl yk yw T n pre pos r) : ∀ x, x ∈ pos → (x / 8 = 1 ∧ x % 8 < 4 ∧ ∃ j, j < n ∧ T j = x) ∨ (x / 8 = 2 ∧ x % 8 < c) ∨ (x / 8 = 5 ∧ x % 8 < 4) := by
  intro x hx
  obtain ⟨k, y, e, _, g⟩ := (ff_mem h.2.2.2.2.1).2 x hx
  rw [← e]; exact g
/-- the variables of a new call -/
def fx_ncv (d : Nat) (cv : Nat → Nat) (SN : Nat → Int32) (bd : Nat → Option Nat) : Nat → Nat := fun i => if i < 4 * d then cv i else (SN ((bd (i - 4 * d)).getD 0)).toNatClampNeg
theorem fx_ncv_lo {d : Nat} {cv : Nat → Nat} {SN : Nat → Int32} {bd : Nat → Option Nat} {i : Nat} (h : i < 4 * d) : fx_ncv d cv SN bd i = cv i := if_pos h
theorem fx_ncv_hi {d : Nat} {cv : Nat → Nat} {SN : Nat → Int32} {bd : Nat → Option Nat} {v q : Nat} (h : bd v = some q) : fx_ncv d cv SN bd (4 * d + v) = (SN q).toNatClampNeg := by
  unfold fx_ncv
  rw [if_neg (by omega), show 4 * d + v - 4 * d = v by omega, h]
  rfl
section
variable {xcc xdr xas xss xnc xdp xoc xrs xrt xrf xrz : Int32} {xA xD xDe xUw xRc xP xPe xPl xO xOl xAr xS xSe xSn xF xNc xNf xNs xNz xCr xCn xCv xOp xRl xTa xUt : Nat → Int32}
variable {yk yw : Nat → Int32}
/-- a function is called with the latest operand -/
theorem x_en {post : Int32 → SX → Prop} {ar rc pl : Nat → Nat} {pat : Nat → Nat → Nat} {pre pos : Nat → List Nat} {c f N d oc s : Nat} {dn : Nat → List Nat} {cr cn cv oo : Nat → Nat}
    (hc : c ≤ 6) (ha : ∀ i, ar i ≤ 2) (hf : f < 4) (hrc : ∀ f, rc f ≤ 5) (hR : fx_rows ar c rc pl pat pre pos xP xPe xO xOl yk yw)
    (H : fx_H ar c N xNc xNf xNs xNz dn) (F : fx_FR pos rc N d cr cn cv xCr xCn xCv) (O : ∀ k, k < oc → oo k < N ∧ xOp k = nI (oo k))
    (ho : 1 ≤ oc) (hoc : oc ≤ 1201) (hs : s ≤ 100) (hd : d ≤ s) (hN : N ≤ 1240)
    (hL : s = 100 → post 2 (xcc, xdr, xas, xss, xnc, nI d, nI oc, xrs, nI s, nI f, xrz, fo_n ar, xD, xDe, xUw, fo_n rc, xP, xPe, fo_n pl, xO, xOl, xAr, xS, xSe, xSn, xF, xNc, xNf, xNs, xNz, xCr, xCn, xCv, xOp, xRl, xTa, xUt))
    (hS : s ≠ 100 → fg_row ar pat pl rc f (dn (oo (oc - 1))) = 0 → ∀ ss S E SN Ft, post 1 (xcc, xdr, xas, ss, xnc, nI d, nI (oc - 1), xrs, nI (s + 1), nI f, xrz, fo_n ar, xD, xDe, xUw, fo_n rc, xP, xPe, fo_n pl, xO, xOl, xAr, S, E, SN, Ft, xNc, xNf, xNs, xNz, xCr, xCn, xCv, xOp, xRl, xTa, xUt))
    (hK : s ≠ 100 → fg_row ar pat pl rc f (dn (oo (oc - 1))) ≠ 0 → ∀ ss S E SN Ft CR CN CV cr' cn' cv', fx_FR pos rc N (d + 1) cr' cn' cv' CR CN CV →
      fx_frs pos dn cr' cn' cv' (d + 1) = fg_res ar pat pl rc pos f (dn (oo (oc - 1))) ++ fx_frs pos dn cr cn cv d →
      post (-1) (xcc, xdr, xas, ss, xnc, nI (d + 1), nI (oc - 1), xrs, nI (s + 1), xrf, xrz, fo_n ar, xD, xDe, xUw, fo_n rc, xP, xPe, fo_n pl, xO, xOl, xAr, S, E, SN, Ft, xNc, xNf, xNs, xNz, CR, CN, CV, xOp, xRl, xTa, xUt)) :
    wpX_enter post (xcc, xdr, xas, xss, xnc, nI d, nI oc, xrs, nI s, xrf, xrz, fo_n ar, xD, xDe, xUw, fo_n rc, xP, xPe, fo_n pl, xO, xOl, xAr, xS, xSe, xSn, xF, xNc, xNf, xNs, xNz, xCr, xCn, xCv, xOp, xRl, xTa, xUt) (nI f) := by
  refine pk_eq s 100 (fun z => hL z) (fun z => nm_r (nI_1 s) (nm_r (fo_s1 ho) ⟨vp_in_nI (by omega) (by decide), ?_⟩))
  obtain ⟨o1, o2⟩ := O (oc - 1) (by omega)
  rw [nI_clamp (by omega), o2]
  have HH := fx_HH H
  refine x_sn hc ha H hN o1 (fun S E SN fS fSN => ?_)
  generalize hLL : dn (oo (oc - 1)) = L at *
  refine x_rf (pat := pat) (S := fv_g L) hc ha hf (hrc f) fS (fun i hi => fx_pat_of (hR f i hf hi)) (fun w Ft => br_t rfl (hS z w _ S E SN Ft)) (fun w Ft => br_f ?_ ?_)
  · exact fun q => absurd (q ▸ nI_pos' (n := fm_row ar pat pl rc f (fv_g L) L.length - 1) (by have := fm_row_le ar pat pl rc f (fv_g L) L.length; have := hrc f; omega)) (by decide)
  have hwle := fm_row_le ar pat pl rc f (fv_g L) L.length
  have hrf := hrc f
  have hit := fm_row_hit w
  have hK' := hK z w
  have eres : fg_res ar pat pl rc pos f L = (pos (5 * f + (fm_row ar pat pl rc f (fv_g L) L.length - 1))).map (fg_sb ar (pat (5 * f + (fm_row ar pat pl rc f (fv_g L) L.length - 1))) (pl (5 * f + (fm_row ar pat pl rc f (fv_g L) L.length - 1))) f L) := rfl
  rw [eres] at hK'
  have hrow := hR f (fm_row ar pat pl rc f (fv_g L) L.length - 1) hf (by omega)
  have hrl : fm_row ar pat pl rc f (fv_g L) L.length - 1 < rc f := by omega
  generalize hw : fm_row ar pat pl rc f (fv_g L) L.length - 1 = w' at *
  have e1 : nI f * 5 + nI w' = nI (5 * f + w') := by rw [fo_m5, nI_add, Nat.mul_comm]
  rw [e1]
  refine ⟨vp_in_nI (by omega) (by decide), nm_r (e' := upd xCr d (nI (5 * f + w'))) (by rw [nI_clamp (by omega)]) ⟨vp_in_nI (by omega) (by decide), nm_r (e' := upd xCn d 0) (by rw [nI_clamp (by omega)]) ?_⟩⟩
  refine x_bv (T := pat (5 * f + w')) (S := fv_g L) (n := pl (5 * f + w')) hc ha (by omega) (by omega) rfl pk_us fS (fx_pat_of hrow) hit (fun CV b1 b2 => nm_r (nI_1 d) ?_)
  have hm40 := fS.1
  have chain : fb_CH (fm_F ar (pat (5 * f + w')) (pl (5 * f + w')) (fv_g L) L.length) (fe_pe (fm_o ar (pat (5 * f + w'))) (pl (5 * f + w'))) (fe_pe (fm_v ar (fv_g L)) L.length) (pl (5 * f + w')) L.length 1 0 0 :=
    ⟨hrow.2.1.1, fS.2.1.1, hit, hrow.2.1.2.2⟩
  -- what a variable of the result stands for
  have var : ∀ x, x ∈ pos (5 * f + w') → x / 8 = 1 → x % 8 < 4 ∧ ∃ q, fg_bd ar (pat (5 * f + w')) (pl (5 * f + w')) L (x % 8) = some q ∧ q < L.length := by
    intro x hx h1
    rcases fx_rowv hrow x hx with ⟨_, v4, j, hj, e⟩ | g | g
    · obtain ⟨q, hq⟩ := fb_w_all hrow.2.1 (fe_pe (fm_v ar (fv_g L)) L.length) hrow.2.2.2.1 (fun i hi => (hrow.2.2.1 i hi).2.1) 12 0 0 (fun _ => none) j (by have := hrow.1; omega) (Nat.zero_le _) hj (by rw [e]; exact h1)
      rw [e] at hq
      exact ⟨v4, q, hq, fb_w_lt hrow.2.1 fS.2.1 ha 12 1 0 0 (fun _ => none) chain (fun v q h => by cases h) _ _ hq⟩
    · omega
    · omega
  refine hK' _ S E SN Ft _ _ CV (fo_u cr d (5 * f + w')) (fo_u cn d 0) (fx_ncv d cv SN (fg_bd ar (pat (5 * f + w')) (pl (5 * f + w')) L)) ?_ ?_
  · intro i hi
    by_cases e : i = d
    · subst e
      rw [fo_us, fo_us, pk_us, pk_us]
      refine ⟨rfl, rfl, ⟨f, w', hf, hrl, rfl⟩, Nat.zero_le _, fun x hx h1 => ?_⟩
      rw [List.drop_zero] at hx
      obtain ⟨v4, q, hq, hqm⟩ := var x hx h1
      obtain ⟨q', g1, g2, g3⟩ := fSN q hqm
      rw [fx_ncv_hi hq, b1 (x % 8) q v4 hq, g1, nI_clamp (by omega)]
      exact ⟨v4, g2, rfl⟩
    · have h1 : ∀ j, j < d → fo_u cr d (5 * f + w') j = cr j ∧ fo_u cn d 0 j = cn j ∧ upd xCr d (nI (5 * f + w')) j = xCr j ∧ upd xCn d 0 j = xCn j := fun j hj =>
        ⟨fo_un (by omega), fo_un (by omega), pk_un (by omega), pk_un (by omega)⟩
      exact fx_FR_c F (Nat.le_refl _) h1 (fun j hj => ⟨fx_ncv_lo hj, b2 j hj⟩) i (by omega)
  · show ((pos (fo_u cr d (5 * f + w') d)).drop (fo_u cn d 0 d)).map (fx_tk dn _ d (fo_u cr d (5 * f + w') d / 5)) ++ fx_frs pos dn _ _ _ d = _
    rw [fo_us, fo_us, List.drop_zero, show (5 * f + w') / 5 = f by omega]
    rw [fx_frs_c (dn' := dn) d F (fun _ _ => rfl) (fun i hi => ⟨fo_un (by omega), fo_un (by omega)⟩) (fun i hi => fx_ncv_lo hi)]
    refine congrArg (· ++ _) (List.map_congr_left ?_)
    intro x hx
    unfold fx_tk fg_sb
    by_cases h1 : x / 8 = 1
    · obtain ⟨v4, q, hq, hqm⟩ := var x hx h1
      obtain ⟨q', g1, g2, g3⟩ := fSN q hqm
      rw [if_pos h1, if_pos h1, fx_ncv_hi hq, hq, g1, nI_clamp (by omega), g3]
      rfl
    · rw [if_neg h1, if_neg h1]
end
theorem fg_mk0 {ar : Nat → Nat} {v : Nat} {st : List (List Nat)} (h : ar v = 0) : fg_mk ar v st = [v] := by
  unfold fg_mk; rw [h]; rfl
theorem fg_mk1 {ar : Nat → Nat} {v : Nat} {a : List Nat} {st : List (List Nat)} (h : ar v = 1) : fg_mk ar v (a :: st) = v :: a := by
  unfold fg_mk; rw [h]; simp
theorem fg_mk2 {ar : Nat → Nat} {v : Nat} {a b : List Nat} {st : List (List Nat)} (h : ar v = 2) : fg_mk ar v (b :: a :: st) = v :: (a ++ b) := by
  unfold fg_mk; rw [h]; simp
section
variable {xcc xdr xas xss xnc xdp xoc xrs xrt xrf xrz : Int32} {xA xD xDe xUw xRc xP xPe xPl xO xOl xAr xS xSe xSn xF xNc xNf xNs xNz xCr xCn xCv xOp xRl xTa xUt : Nat → Int32}
/-- a value is made of the latest operands -/
theorem x_bd {post : Int32 → SX → Prop} {ar : Nat → Nat} {c N oc v : Nat} {p1 : Int32} {dn : Nat → List Nat} {oo : Nat → Nat} (hc : c ≤ 6) (ha : ∀ i, ar i ≤ 2) (hv : v < c)
    (H : fx_H ar c N xNc xNf xNs xNz dn) (O : ∀ k, k < oc → oo k < N ∧ xOp k = nI (oo k)) (ho : ar v ≤ oc) (hoc : oc < 1201) (hN : N < 1240)
    (hB : 40 < (fg_mk ar v (fx_stk dn oo oc)).length → post 3 (xcc, xdr, xas, xss, nI N, xdp, nI oc, xrs, xrt, p1, xrz, fo_n ar, xD, xDe, xUw, xRc, xP, xPe, xPl, xO, xOl, xAr, xS, xSe, xSn, xF, xNc, xNf, xNs, xNz, xCr, xCn, xCv, xOp, xRl, xTa, xUt))
    (hK : ¬ 40 < (fg_mk ar v (fx_stk dn oo oc)).length → ∀ NC NF NS NZ, fx_H ar c (N + 1) NC NF NS NZ (fx_up dn N (fg_mk ar v (fx_stk dn oo oc))) →
      post (-1) (xcc, xdr, xas, xss, nI (N + 1), xdp, nI (oc - ar v + 1), xrs, xrt, xrf, xrz, fo_n ar, xD, xDe, xUw, xRc, xP, xPe, xPl, xO, xOl, xAr, xS, xSe, xSn, xF, NC, NF, NS, NZ, xCr, xCn, xCv, upd xOp (oc - ar v) (nI N), xRl, xTa, xUt)) :
    wpX_build post (xcc, xdr, xas, xss, nI N, xdp, nI oc, xrs, xrt, xrf, xrz, fo_n ar, xD, xDe, xUw, xRc, xP, xPe, xPl, xO, xOl, xAr, xS, xSe, xSn, xF, xNc, xNf, xNs, xNz, xCr, xCn, xCv, xOp, xRl, xTa, xUt) (nI v) p1 := by
  have h2 := ha v
  have HH := fx_HH H
  have en : (nI N).toNatClampNeg = N := nI_clamp (by omega)
  have hinN : vp_in (nI N) 1240 := vp_in_nI (by omega) (by decide)
  refine ⟨vp_in_nI (by omega) (by decide), nm_r (e' := nI (ar v)) (by rw [nI_clamp (by omega)]; rfl) (nm_r (pk_sub ho) ?_)⟩
  -- the end of it
  have last : ∀ sz (l r : Nat), sz = (fg_mk ar v (fx_stk dn oo oc)).length → sz < 2 ^ 31 → (1 ≤ ar v → l < N ∧ xOp (oc - ar v) = nI l) → (ar v = 2 → r < N ∧ xOp (oc - ar v + 1) = nI r) →
      ((ar v = 0 ∧ fg_mk ar v (fx_stk dn oo oc) = [v]) ∨ (ar v = 1 ∧ l < N ∧ fg_mk ar v (fx_stk dn oo oc) = v :: dn l) ∨ (ar v = 2 ∧ l < N ∧ r < N ∧ fg_mk ar v (fx_stk dn oo oc) = v :: (dn l ++ dn r))) →
      ∀ g, wX_build_22 post (nI v) p1 (nI (ar v)) (nI (oc - ar v)) xcc xdr xas xss (nI N) xdp (nI oc) xrs xrt xrf xrz (fo_n ar) xD xDe xUw xRc xP xPe xPl xO xOl xAr xS xSe xSn xF xNc xNf xNs xNz xCr xCn xCv xOp xRl xTa xUt (g + 1) (nI sz) (nI oc) := by
    intro sz l r hsz hb hl hr hsh g
    refine br_t (nI_le (Nat.le_refl _) (by omega)) (pk_le sz 40 (fun z => ?_) (fun z => hB (by omega)))
    have HN : ∀ xf xs : Int32, (1 ≤ ar v → xf = nI l) → (ar v = 2 → xs = nI r) → fx_H ar c (N + 1) (upd xNc N (nI v)) (upd xNf N xf) (upd xNs N xs) (upd xNz N (nI (fg_mk ar v (fx_stk dn oo oc)).length)) (fx_up dn N (fg_mk ar v (fx_stk dn oo oc))) :=
      fun xf xs e1 e2 => fx_H_new H e1 e2 ⟨hv, by omega, hsh⟩
    have go : ∀ xf : Int32, (1 ≤ ar v → xf = nI l) → wX_build_113 post (nI (ar v)) (nI (oc - ar v)) xf (nI N) xcc xdr xas xss (nI N) xdp (nI oc) xrs xrt xrf xrz (fo_n ar) xD xDe xUw xRc xP xPe xPl xO xOl xAr xS xSe xSn xF (upd xNc N (nI v)) xNf xNs (upd xNz N (nI (fg_mk ar v (fx_stk dn oo oc)).length)) xCr xCn xCv xOp xRl xTa xUt := by
      intro xf e1
      have fin : ∀ xs : Int32, (ar v = 2 → xs = nI r) → wX_build_140 post (nI (oc - ar v)) xs (nI N) xcc xdr xas xss (nI N) xdp (nI oc) xrs xrt xrf xrz (fo_n ar) xD xDe xUw xRc xP xPe xPl xO xOl xAr xS xSe xSn xF (upd xNc N (nI v)) (upd xNf N xf) xNs (upd xNz N (nI (fg_mk ar v (fx_stk dn oo oc)).length)) xCr xCn xCv xOp xRl xTa xUt := by
        intro xs e2
        refine ⟨hinN, nm_r (e' := upd xNs N xs) (by rw [en]) ⟨vp_in_nI (by omega) (by decide), nm_r (e' := upd xOp (oc - ar v) (nI N)) (by rw [nI_clamp (by omega)]) (nm_r (nI_1 _) (nm_r (nI_1 _) (hK (by omega) _ _ _ _ (HN xf xs e1 e2))))⟩⟩
      refine ⟨hinN, nm_r (e' := upd xNf N xf) (by rw [en]) (pk_eq (ar v) 2 (fun z2 => ⟨by rw [nI_1]; exact vp_in_nI (by omega) (by decide), fin _ (fun _ => ?_)⟩) (fun z2 => fin 0 (fun g => absurd g z2)))⟩
      rw [nI_1, nI_clamp (by omega)]; exact (hr z2).2
    refine ⟨hinN, nm_r (e' := upd xNc N (nI v)) (by rw [en]) ⟨hinN, nm_r (e' := upd xNz N (nI (fg_mk ar v (fx_stk dn oo oc)).length)) (by rw [en, hsz]) (pk_lt (ar v) 1 (fun z1 => go 0 (fun g => by omega)) (fun z1 => ⟨vp_in_nI (by omega) (by decide), go _ (fun _ => ?_)⟩))⟩⟩
    rw [nI_clamp (by omega)]; exact (hl z1).2
  -- one operand's size
  have add : ∀ i sz g, i < oc → (wX_build_22 post (nI v) p1 (nI (ar v)) (nI (oc - ar v)) xcc xdr xas xss (nI N) xdp (nI oc) xrs xrt xrf xrz (fo_n ar) xD xDe xUw xRc xP xPe xPl xO xOl xAr xS xSe xSn xF xNc xNf xNs xNz xCr xCn xCv xOp xRl xTa xUt g (nI (sz + (dn (oo i)).length)) (nI (i + 1))) →
      wX_build_22 post (nI v) p1 (nI (ar v)) (nI (oc - ar v)) xcc xdr xas xss (nI N) xdp (nI oc) xrs xrt xrf xrz (fo_n ar) xD xDe xUw xRc xP xPe xPl xO xOl xAr xS xSe xSn xF xNc xNf xNs xNz xCr xCn xCv xOp xRl xTa xUt (g + 1) (nI sz) (nI i) := by
    intro i sz g hi h
    obtain ⟨o1, o2⟩ := O i hi
    obtain ⟨_, _, _, _, a2, _⟩ := H (oo i) o1
    refine br_f (nI_ge (by omega) (by omega)) ⟨vp_in_nI (by omega) (by decide), ?_⟩
    rw [nI_clamp (by omega), o2]
    refine ⟨vp_in_nI (by omega) (by decide), nm_r (e' := nI (sz + (dn (oo i)).length)) ?_ (nm_r (nI_1 i) h)⟩
    rw [nI_clamp (by omega), a2, nI_add]
  by_cases z0 : ar v = 0
  · have em : fg_mk ar v (fx_stk dn oo oc) = [v] := fg_mk0 z0
    have := last 1 0 0 (by rw [em]; rfl) (by decide) (fun g => by omega) (fun g => by omega) (Or.inl ⟨z0, em⟩) 0
    rw [show oc - ar v = oc by omega] at this ⊢
    exact ⟨1, this⟩
  · obtain ⟨o1, o2⟩ := O (oc - 1) (by omega)
    have l1 := (fv_Hpos HH o1).2
    by_cases z1 : ar v = 1
    · have em : fg_mk ar v (fx_stk dn oo oc) = v :: dn (oo (oc - 1)) := by
        obtain ⟨q, rfl⟩ : ∃ q, oc = q + 1 := ⟨oc - 1, by omega⟩
        exact fg_mk1 z1
      have := last (1 + (dn (oo (oc - 1))).length) (oo (oc - 1)) 0 (by rw [em, List.length_cons]; omega) (by omega) (fun _ => ⟨o1, by rw [show oc - ar v = oc - 1 by omega]; exact o2⟩) (fun g => by omega) (Or.inr (Or.inl ⟨z1, o1, em⟩)) 0
      rw [show oc - ar v = oc - 1 by omega] at this add ⊢
      refine ⟨2, add (oc - 1) 1 1 (by omega) ?_⟩
      rw [show oc - 1 + 1 = oc by omega]
      exact this
    · have z2 : ar v = 2 := by omega
      obtain ⟨o3, o4⟩ := O (oc - 2) (by omega)
      have l2 := (fv_Hpos HH o3).2
      have em : fg_mk ar v (fx_stk dn oo oc) = v :: (dn (oo (oc - 2)) ++ dn (oo (oc - 1))) := by
        obtain ⟨q, rfl⟩ : ∃ q, oc = q + 1 + 1 := ⟨oc - 2, by omega⟩
        exact fg_mk2 z2
      have := last (1 + (dn (oo (oc - 2))).length + (dn (oo (oc - 1))).length) (oo (oc - 2)) (oo (oc - 1)) (by rw [em, List.length_cons, List.length_append]; omega) (by omega) (fun _ => ⟨o3, by rw [show oc - ar v = oc - 2 by omega]; exact o4⟩)
        (fun _ => ⟨o1, by rw [show oc - ar v + 1 = oc - 1 by omega]; exact o2⟩) (Or.inr (Or.inr ⟨z2, o3, o1, em⟩)) 0
      rw [show oc - ar v = oc - 2 by omega] at this add ⊢
      refine ⟨3, add (oc - 2) 1 2 (by omega) (add (oc - 2 + 1) _ 1 (by omega) ?_)⟩
      rw [show oc - 2 + 1 = oc - 1 by omega, show oc - 1 + 1 = oc by omega]
      exact this
end
