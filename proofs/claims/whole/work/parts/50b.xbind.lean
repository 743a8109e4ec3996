section
variable {xcc xdr xas xss xnc xdp xoc xrs xrt xrf xrz : Int32} {xA xD xDe xUw xRc xP xPe xPl xO xOl xAr xS xSe xSn xF xNc xNf xNs xNz xCr xCn xCv xOp xRl xTa xUt : Nat → Int32}
/-- the variables are bound -/
theorem x_bv {post : SX → Prop} {ar S T pl : Nat → Nat} {c m n r d : Nat} (hc : c ≤ 6) (ha : ∀ i, ar i ≤ 2) (hr : r < 20) (hd : d < 100) (hpl : pl r = n) (hcr : xCr d = nI r)
    (hS : fx_sub ar c m S xS xSe) (hP : fx_pat ar c xP xPe T n r) (hm : fm_F ar T n S m 0 0 = true)
    (hp : ∀ CV, (∀ v q, v < 4 → fb_w T (fe_pe (fm_o ar T) n) (fe_pe (fm_v ar S) m) n 12 0 0 (fun _ => none) v = some q → CV (4 * d + v) = xSn q) → (∀ i, i < 4 * d → CV i = xCv i) → post (xcc, xdr, xas, xss, xnc, xdp, xoc, xrs, xrt, xrf, xrz, fo_n ar, xD, xDe, xUw, xRc, xP, xPe, fo_n pl, xO, xOl, xAr, xS, xSe, xSn, xF, xNc, xNf, xNs, xNz, xCr, xCn, CV, xOp, xRl, xTa, xUt)) :
    wpX_bindVariables post (xcc, xdr, xas, xss, xnc, xdp, xoc, xrs, xrt, xrf, xrz, fo_n ar, xD, xDe, xUw, xRc, xP, xPe, fo_n pl, xO, xOl, xAr, xS, xSe, xSn, xF, xNc, xNf, xNs, xNz, xCr, xCn, xCv, xOp, xRl, xTa, xUt) (nI d) := by
  obtain ⟨s1, s2, s3⟩ := hS
  obtain ⟨p1, p2, p3⟩ := hP
  have loop : ∀ g t i p k b CV, t + g = 12 → fb_CH (fm_F ar T n S m) (fe_pe (fm_o ar T) n) (fe_pe (fm_v ar S) m) n m k i p →
      fb_w T (fe_pe (fm_o ar T) n) (fe_pe (fm_v ar S) m) n g i p b = fb_w T (fe_pe (fm_o ar T) n) (fe_pe (fm_v ar S) m) n 12 0 0 (fun _ => none) → i ≤ 12 → p ≤ 40 →
      (∀ v q, v < 4 → b v = some q → CV (4 * d + v) = xSn q) → (∀ i, i < 4 * d → CV i = xCv i) →
      wX_bindVariables_21 post (nI d) (nI r) (nI (12 * r)) xcc xdr xas xss xnc xdp xoc xrs xrt xrf xrz (g + 1) (nI p) (nI i) (nI t) (fo_n ar) xD xDe xUw xRc xP xPe (fo_n pl) xO xOl xAr xS xSe xSn xF xNc xNf xNs xNz xCr xCn CV xOp xRl xTa xUt := by
    intro g
    induction g with
    | zero =>
      intro t i p k b CV ht hch hw _ _ hb hl
      refine br_t (nI_le (a := 12) (by omega) (by omega)) (hp CV (fun v q hv hq => ?_) hl)
      rw [← hw] at hq
      exact hb v q hv hq
    | succ g ih =>
      intro t i p k b CV ht hch hw hi12 hp40 hb hl
      refine br_f (nI_ge (b := 12) (by omega) (by decide)) ⟨vp_in_nI hr (by decide), ?_⟩
      rw [nI_clamp (by omega)]
      show (nI (pl r) ≤ nI i → _) ∧ (¬ nI (pl r) ≤ nI i → _)
      rw [hpl]
      refine pk_le n i (fun z => hp CV (fun v q hv hq => ?_) hl) (fun z => ?_)
      · rw [← hw, fb_w_out (by omega)] at hq
        exact hb v q hv hq
      · cases k with
        | zero => have : i = n := hch
                  omega
        | succ k =>
          obtain ⟨c1, c2, c3, c4⟩ := id hch
          obtain ⟨t1, t2, t3, t4⟩ := p3 i z
          have h48 := fo_tk_le t1
          have ei := fe_full_e p2 z
          have epv := fe_full_e s2 c2
          have ein : nI (12 * r) + nI i = nI (12 * r + i) := nI_add _ _
          have vin : vp_in (nI (12 * r) + nI i) 240 := by rw [ein]; exact vp_in_nI (by omega) (by decide)
          have epe : xPe (nI (12 * r) + nI i).toNatClampNeg = nI (fe_pe (fm_o ar T) n i) := by rw [ein, nI_clamp (by omega), t4]
          have ese : xSe (nI p).toNatClampNeg = nI (fe_pe (fm_v ar S) m p) := by rw [nI_clamp (by omega), (s3 p c2).2.2]
          refine ⟨vin, nm_r (e' := nI (T i)) (by rw [ein, nI_clamp (by omega), t3]) ⟨by decide, nm_r (fo_d8 (by omega)) ?_⟩⟩
          have other : ∀ CV', T i / 8 ≠ 2 → (∀ b', fb_w T (fe_pe (fm_o ar T) n) (fe_pe (fm_v ar S) m) n g (fe_pe (fm_o ar T) n i) (fe_pe (fm_v ar S) m p) b' = fb_w T (fe_pe (fm_o ar T) n) (fe_pe (fm_v ar S) m) n 12 0 0 (fun _ => none) →
              (∀ v q, v < 4 → b' v = some q → CV' (4 * d + v) = xSn q) → (∀ i, i < 4 * d → CV' i = xCv i) →
              wX_bindVariables_84 post (wX_bindVariables_21 post (nI d) (nI r) (nI (12 * r)) xcc xdr xas xss xnc xdp xoc xrs xrt xrf xrz (g + 1)) (nI d) (nI r) (nI (12 * r)) (nI p) (nI i) (nI t) (nI (T i / 8)) xcc xdr xas xss xnc xdp xoc xrs xrt xrf xrz (fo_n ar) xD xDe xUw xRc xP xPe (fo_n pl) xO xOl xAr xS xSe xSn xF xNc xNf xNs xNz xCr xCn CV' xOp xRl xTa xUt) := by
            intro CV' k2 b' h1 h2 h3
            have n2 : ¬ nI (T i / 8) = 2 := fun w => k2 ((nI_eq (b := 2) (by omega) (by decide)).mp w)
            refine br_f n2 ⟨vp_in_nI (by omega) (by decide), ?_⟩
            rw [ese]
            refine br_f n2 ⟨vin, ?_⟩
            rw [epe]
            exact nm_e (nm_r (nI_1 t) (ih (t + 1) _ _ k b' CV' (by omega) c4 h1 (by omega) (by omega) h2 h3))
          refine pk_eq (T i / 8) 1 (fun k1 => ⟨by decide, vp_in_nI (by omega) (by decide), ?_⟩) (fun k1 => ?_)
          · have v4 := fp_v4 t1 k1
            have ex : nI d * 4 + (nI (T i) - nI (T i) / 8 * 8) = nI (4 * d + T i % 8) := by rw [fo_r8 (by omega), fo_m4, nI_add, Nat.mul_comm]
            rw [ex]
            refine ⟨vp_in_nI (by omega) (by decide), nm_r (e' := upd CV (4 * d + T i % 8) (xSn p)) (by rw [nI_clamp (by omega), nI_clamp (by omega)]) (other _ (by omega) (fun v => if v = T i % 8 then some p else b v) ?_ ?_ ?_)⟩
            · rw [← hw, fb_w_var z k1]
            · intro v q hv hq
              by_cases e : v = T i % 8
              · rw [if_pos e] at hq
                have : p = q := Option.some.inj hq
                rw [e, pk_us, this]
              · rw [if_neg e] at hq
                rw [pk_un (by omega)]
                exact hb v q hv hq
            · intro j hj
              rw [pk_un (by omega)]; exact hl j hj
          · by_cases k2 : T i / 8 = 2
            · obtain ⟨q1, q2, q3, q4⟩ := fb_con p2 s2 ha hch k2
              have e2 : nI (T i / 8) = 2 := congrArg nI k2
              refine br_t e2 ?_
              rw [nI_1 p]
              exact br_t e2 (nm_r (nI_1 i) (nm_r (nI_1 t) (ih (t + 1) (i + 1) (p + 1) _ b CV (by omega) q2 (by rw [← hw, fb_w_con z k2]) (by omega) (by omega) hb hl)))
            · exact other CV k2 b (by rw [← hw, fb_w_oth z k2 k1]) hb hl
  refine ⟨vp_in_nI hd (by decide), nm_r (e' := nI r) (by rw [nI_clamp (by omega), hcr]) (nm_r ((fo_m12 r).trans (congrArg nI (Nat.mul_comm r 12))) ⟨13, loop 12 0 0 0 1 (fun _ => none) xCv rfl ⟨p2.1, s2.1, hm, ?_⟩ rfl (by omega) (by omega) (fun v q _ h => by cases h) (fun i _ => rfl)⟩)⟩
  exact p2.2.2
end
