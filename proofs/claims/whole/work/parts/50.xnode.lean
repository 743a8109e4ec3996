theorem fv_drop {l : List Nat} {i : Nat} (h : i < l.length) : l.drop i = fv_g l i :: l.drop (i + 1) := by
  rw [List.drop_eq_getElem_cons h]
  unfold fv_g
  rw [List.getD_eq_getElem?_getD, List.getElem?_eq_getElem h]
  rfl
/-- nodes that wait at their own places of an array -/
def fx_PO (dn : Nat → List Nat) (sn : Nat → Int32) : List Nat → Nat → Prop
  | [], _ => True
  | n :: ns, p => sn p = nI n ∧ fx_PO dn sn ns (p + (dn n).length)
theorem fx_PO_c {dn : Nat → List Nat} {sn sn' : Nat → Int32} : ∀ ns p, (∀ q, p ≤ q → sn' q = sn q) → fx_PO dn sn ns p → fx_PO dn sn' ns p := by
  intro ns
  induction ns with
  | nil => intro p _ _; trivial
  | cons n ns ih =>
    intro p h hp
    exact ⟨by rw [h p (Nat.le_refl _)]; exact hp.1, ih _ (fun q hq => h q (by omega)) hp.2⟩
/-- a seated value: at each place its node -/
def fx_SN (ar : Nat → Nat) (N : Nat) (dn : Nat → List Nat) (L : List Nat) (m : Nat) (SN : Nat → Int32) : Prop :=
  ∀ i, i < m → ∃ q, SN i = nI q ∧ q < N ∧ dn q = fv_sub ar (fv_g L) L.length i
section
variable {xcc xdr xas xss xnc xdp xoc xrs xrt xrf xrz : Int32} {xA xD xDe xUw xRc xP xPe xPl xO xOl xAr xS xSe xSn xF xNc xNf xNs xNz xCr xCn xCv xOp xRl xTa xUt : Nat → Int32}
theorem x_sn93 {post : SX → Prop} {J : Int32 → (Nat → Int32) → (Nat → Int32) → (Nat → Int32) → (Nat → Int32) → (Nat → Int32) → (Nat → Int32) → (Nat → Int32) → (Nat → Int32) → (Nat → Int32) → (Nat → Int32) → (Nat → Int32) → (Nat → Int32) → (Nat → Int32) → (Nat → Int32) → (Nat → Int32) → (Nat → Int32) → (Nat → Int32) → (Nat → Int32) → (Nat → Int32) → (Nat → Int32) → (Nat → Int32) → (Nat → Int32) → (Nat → Int32) → (Nat → Int32) → (Nat → Int32) → (Nat → Int32) → Prop} {p n a : Nat} (ha : a < 2) (h : J (nI (p + 1)) xA xD xDe xUw xRc xP xPe xPl xO xOl xAr xS xSe xSn xF xNc xNf xNs xNz xCr xCn xCv xOp xRl xTa xUt) : wX_seatNode_93 post J (nI p) (nI n) (nI a) xcc xdr xas xss xnc xdp xoc xrs xrt xrf xrz xA xD xDe xUw xRc xP xPe xPl xO xOl xAr xS xSe xSn xF xNc xNf xNs xNz xCr xCn xCv xOp xRl xTa xUt :=
  br_f (fun z => by have := (nI_eq (b := 2) (by omega) (by decide)).mp z; omega) (nm_r (nI_1 p) h)
theorem x_sn_loop {post : SX → Prop} {ar : Nat → Nat} {c N : Nat} {dn : Nat → List Nat} (hc : c ≤ 6) (ha : ∀ i, ar i ≤ 2) (H : fx_H ar c N xNc xNf xNs xNz dn) (hN : N ≤ 1240) {L : List Nat} (hL : L.length ≤ 40)
    (hp : ∀ S E SN, (∀ i, i < L.length → fv_g L i < c ∧ S i = nI (fv_g L i) ∧ E i = nI (fe_pe (fm_v ar (fv_g L)) L.length i)) → fx_SN ar N dn L L.length SN → post (xcc, xdr, xas, nI L.length, xnc, xdp, xoc, xrs, xrt, xrf, xrz, fo_n ar, xD, xDe, xUw, xRc, xP, xPe, xPl, xO, xOl, xAr, S, E, SN, xF, xNc, xNf, xNs, xNz, xCr, xCn, xCv, xOp, xRl, xTa, xUt)) :
    ∀ d p ns S E SN, p + d = L.length → (∀ q, q ∈ ns → q < N) → L.drop p = fv_cc dn ns → fx_PO dn SN ns p →
      (∀ i, i < p → fv_g L i < c ∧ S i = nI (fv_g L i) ∧ E i = nI (fe_pe (fm_v ar (fv_g L)) L.length i)) → fx_SN ar N dn L p SN →
      wX_seatNode_19 post xcc xdr xas (nI L.length) xnc xdp xoc xrs xrt xrf xrz (d + 1) (nI p) (fo_n ar) xD xDe xUw xRc xP xPe xPl xO xOl xAr S E SN xF xNc xNf xNs xNz xCr xCn xCv xOp xRl xTa xUt := by
  have HH := fx_HH H
  intro d
  induction d with
  | zero =>
    intro p ns S E SN hpd hns hd hpo h1 h2
    have e : p = L.length := by omega
    subst e
    exact br_t (nI_le (Nat.le_refl _) (by omega)) (hp S E SN h1 h2)
  | succ d ih =>
    intro p ns S E SN hpd hns hd hpo h1 h2
    cases ns with
    | nil =>
      have := congrArg List.length hd
      rw [List.length_drop] at this
      have e0 : (fv_cc dn []).length = 0 := rfl
      omega
    | cons n ns =>
      have hn : n < N := hns n (List.mem_cons_self ..)
      have hns' : ∀ q, q ∈ ns → q < N := fun q hq => hns q (List.mem_cons_of_mem _ hq)
      obtain ⟨h, l, r, a1, a2, a3, a4, a5⟩ := H n hn
      obtain ⟨q1, q2, q3⟩ := fv_at HH (W := L) (p := p) (tl := fv_cc dn ns) hn hd
      obtain ⟨b1, b2, b3⟩ := a5
      have har := ha h
      have hpos := (fv_Hpos HH hn).1
      have hi40 : vp_in (nI p) 40 := vp_in_nI (by omega) (by decide)
      have hinn : vp_in (nI n) 1240 := vp_in_nI (by omega) (by decide)
      have hg : fv_g L p = h := by
        rcases b3 with ⟨_, e⟩ | ⟨_, _, e⟩ | ⟨_, _, _, e⟩
        · rw [show fv_cc dn (n :: ns) = dn n ++ fv_cc dn ns from rfl, e] at hd; exact (fv_head hd).1
        · rw [show fv_cc dn (n :: ns) = dn n ++ fv_cc dn ns from rfl, e] at hd; exact (fv_head hd).1
        · rw [show fv_cc dn (n :: ns) = dn n ++ fv_cc dn ns from rfl, e] at hd; exact (fv_head hd).1
      have hS' : ∀ i, i < p + 1 → fv_g L i < c ∧ upd S p (nI h) i = nI (fv_g L i) ∧ upd E p (nI (p + (dn n).length)) i = nI (fe_pe (fm_v ar (fv_g L)) L.length i) := by
        intro i hi
        by_cases e : i = p
        · subst e; rw [pk_us, pk_us, hg, q1]; exact ⟨b1, rfl, rfl⟩
        · rw [pk_un e, pk_un e]; exact h1 i (by omega)
      have hSN' : ∀ SN', (∀ i, i ≤ p → SN' i = SN i) → fx_SN ar N dn L (p + 1) SN' := by
        intro SN' hh i hi
        rw [hh i (by omega)]
        by_cases e : i = p
        · subst e; exact ⟨n, hpo.1, hn, q2.symm⟩
        · exact h2 i (by omega)
      refine br_f (nI_ge (by omega) (by omega)) ⟨hi40, nm_r (e' := nI n) (by rw [nI_clamp (by omega)]; exact hpo.1) ⟨hinn, ?_⟩⟩
      have en : (nI n).toNatClampNeg = n := nI_clamp (by omega)
      have ep : (nI p).toNatClampNeg = p := nI_clamp (by omega)
      rw [en, a1]
      refine ⟨vp_in_nI (by omega) (by decide), nm_r (e' := nI (ar h)) (by rw [nI_clamp (by omega)]; rfl) ⟨hinn, hi40, nm_r (e' := upd S p (nI h)) (by rw [ep]) ⟨hinn, hi40, nm_r (e' := upd E p (nI (p + (dn n).length))) (by rw [ep, a2, nI_add]) ?_⟩⟩⟩
      rcases b3 with ⟨e0, e⟩ | ⟨e0, hl, e⟩ | ⟨e0, hl, hr, e⟩
      · rw [e0]
        refine br_t (by decide) (x_sn93 (a := 0) (by omega) (ih (p + 1) ns _ _ SN (by omega) hns' ?_ ?_ hS' (hSN' SN (fun _ _ => rfl))))
        · rw [show fv_cc dn (n :: ns) = dn n ++ fv_cc dn ns from rfl, e] at hd
          exact (fv_head hd).2.1
        · have := hpo.2; rw [e] at this; exact this
      · rw [e0]
        have hlen : (dn n).length = (dn l).length + 1 := by rw [e]; rfl
        have hpl := (fv_Hpos HH hl).1
        refine br_f (by decide) ⟨hinn, by rw [nI_1]; exact vp_in_nI (by omega) (by decide), nm_r (e' := upd SN (p + 1) (nI l)) ?_ (x_sn93 (a := 1) (by omega) (ih (p + 1) (l :: ns) _ _ _ (by omega) ?_ ?_ ?_ hS' (hSN' _ (fun i hi => pk_un (by omega)))))⟩
        · rw [nI_1, nI_clamp (by omega), a3 (by omega)]
        · intro q hq
          rcases List.mem_cons.mp hq with g | g
          · omega
          · exact hns' q g
        · rw [show fv_cc dn (n :: ns) = dn n ++ fv_cc dn ns from rfl, e] at hd
          exact (fv_head hd).2.1
        · refine ⟨pk_us, fx_PO_c ns _ (fun q hq => pk_un (by omega)) ?_⟩
          have := hpo.2; rw [show p + (dn n).length = p + 1 + (dn l).length by omega] at this; exact this
      · rw [e0]
        have hlen : (dn n).length = (dn l).length + (dn r).length + 1 := by rw [e, List.length_cons, List.length_append]
        have hpl := (fv_Hpos HH hl).1
        have hpr := (fv_Hpos HH hr).1
        obtain ⟨_, _, _, _, l2, _⟩ := H l hl
        have ef : xNf n = nI l := a3 (by omega)
        have es : xNs n = nI r := a4 e0
        refine br_f (by decide) ⟨hinn, by rw [nI_1]; exact vp_in_nI (by omega) (by decide), nm_r (e' := upd SN (p + 1) (nI l)) ?_ (br_t rfl ⟨hinn, ?_⟩)⟩
        · rw [nI_1, nI_clamp (by omega), ef]
        · rw [en, ef]
          refine ⟨vp_in_nI (by omega) (by decide), hinn, ?_⟩
          rw [nI_clamp (by omega), l2, nI_1, nI_add, es]
          refine ⟨vp_in_nI (by omega) (by decide), nm_r (e' := upd (upd SN (p + 1) (nI l)) (p + 1 + (dn l).length) (nI r)) (by rw [nI_clamp (by omega)]) (nm_e (ih (p + 1) (l :: r :: ns) _ _ _ (by omega) ?_ ?_ ?_ hS' (hSN' _ (fun i hi => by rw [pk_un (by omega), pk_un (by omega)]))))⟩
          · intro q hq
            rcases List.mem_cons.mp hq with g | g
            · omega
            · rcases List.mem_cons.mp g with g | g
              · omega
              · exact hns' q g
          · rw [show fv_cc dn (n :: ns) = dn n ++ fv_cc dn ns from rfl, e, show (h :: (dn l ++ dn r)) ++ fv_cc dn ns = h :: ((dn l ++ dn r) ++ fv_cc dn ns) from rfl] at hd
            rw [(fv_head hd).2.1, List.append_assoc]
            rfl
          · refine ⟨by rw [pk_un (by omega), pk_us], by rw [pk_us], fx_PO_c ns _ (fun q hq => by rw [pk_un (by omega), pk_un (by omega)]) ?_⟩
            have := hpo.2; rw [show p + (dn n).length = p + 1 + (dn l).length + (dn r).length by omega] at this; exact this
/-- a node is seated -/
theorem x_sn {post : SX → Prop} {ar : Nat → Nat} {c N root : Nat} {dn : Nat → List Nat} (hc : c ≤ 6) (ha : ∀ i, ar i ≤ 2) (H : fx_H ar c N xNc xNf xNs xNz dn) (hN : N ≤ 1240) (hr : root < N)
    (hp : ∀ S E SN, fx_sub ar c (dn root).length (fv_g (dn root)) S E → fx_SN ar N dn (dn root) (dn root).length SN → post (xcc, xdr, xas, nI (dn root).length, xnc, xdp, xoc, xrs, xrt, xrf, xrz, fo_n ar, xD, xDe, xUw, xRc, xP, xPe, xPl, xO, xOl, xAr, S, E, SN, xF, xNc, xNf, xNs, xNz, xCr, xCn, xCv, xOp, xRl, xTa, xUt)) :
    wpX_seatNode post (xcc, xdr, xas, xss, xnc, xdp, xoc, xrs, xrt, xrf, xrz, fo_n ar, xD, xDe, xUw, xRc, xP, xPe, xPl, xO, xOl, xAr, xS, xSe, xSn, xF, xNc, xNf, xNs, xNz, xCr, xCn, xCv, xOp, xRl, xTa, xUt) (nI root) := by
  have HH := fx_HH H
  have h40 := fv_Hpos HH hr
  obtain ⟨h, l, r, a1, a2, a3, a4, a5⟩ := H root hr
  refine ⟨vp_in_nI (by omega) (by decide), nm_r (e' := nI (dn root).length) (by rw [nI_clamp (by omega), a2]) (nm_e ⟨(dn root).length + 1, ?_⟩)⟩
  refine x_sn_loop (L := dn root) hc ha H hN h40.2 (fun S E SN b1 b2 => hp S E SN ⟨h40.2, fv_full HH hr, b1⟩ b2) (dn root).length 0 [root] xS xSe _ (by omega) ?_ ?_ ⟨pk_us, trivial⟩ (fun i hi => by omega) (fun i hi => by omega)
  · intro q hq
    rcases List.mem_cons.mp hq with g | g
    · omega
    · cases g
  · show (dn root).drop 0 = dn root ++ []
    rw [List.drop_zero, List.append_nil]
/-- the variables are bound -/
theorem x_bv {post : SX → Prop} {ar S T pl : Nat → Nat} {c m n r d : Nat} (hc : c ≤ 6) (ha : ∀ i, ar i ≤ 2) (hr : r < 20) (hd : d < 100) (hpl : pl r = n) (hcr : xCr d = nI r)
    (hS : fx_sub ar c m S xS xSe) (hP : fx_pat ar c xP xPe T n r) (hm : fm_F ar T n S m 0 0 = true)
    (hp : ∀ CV, (∀ v q, v < 4 → fb_w T (fe_pe (fm_o ar T) n) (fe_pe (fm_v ar S) m) n 12 0 0 (fun _ => none) v = some q → CV (4 * d + v) = xSn q) → (∀ i, i < 4 * d → CV i = xCv i) → post (xcc, xdr, xas, xss, xnc, xdp, xoc, xrs, xrt, xrf, xrz, fo_n ar, xD, xDe, xUw, xRc, xP, xPe, fo_n pl, xO, xOl, xAr, xS, xSe, xSn, xF, xNc, xNf, xNs, xNz, xCr, xCn, CV, xOp, xRl, xTa, xUt)) :
    wpX_bindVariables post (xcc, xdr, xas, xss, xnc, xdp, xoc, xrs, xrt, xrf, xrz, fo_n ar, xD, xDe, xUw, xRc, xP, xPe, fo_n pl, xO, xOl, xAr, xS, xSe, xSn, xF, xNc, xNf, xNs, xNz, xCr, xCn, xCv, xOp, xRl, xTa, xUt) (nI d) := by
  obtain ⟨s1, s2, s3⟩ := hS
  obtain ⟨p1, p2, p3⟩ := hP
  have loop : ∀ g t i p k b CV, t + g = 12 → fb_CH (fm_F ar T n S m) (fe_pe (fm_o ar T) n) (fe_pe (fm_v ar S) m) n m k i p →
      fb_w T (fe_pe (fm_o ar T) n) (fe_pe (fm_v ar S) m) n g i p b = fb_w T (fe_pe (fm_o ar T) n) (fe_pe (fm_v ar S) m) n 12 0 0 (fun _ => none) → i ≤ 12 → p ≤ 40 →
      (∀ v q, v < 4 → b v = some q → CV (4 * d + v) = xSn q) → (∀ i, i < 4 * d → CV i = xCv i) →
      wX_bindVariables_21 post (nI d) (nI r) (nI (12 * r)) xcc xdr xas xss xnc xdp xoc xrs xrt xrf xrz (g + 1) (nI p) (nI i) (nI t) (fo_n ar) xD xDe xUw xRc xP xPe (fo_n pl) xO xOl xAr xS xSe xSn xF xNc xNf xNs xNz xCr xCn CV xOp xRl xTa xUt := by
    intro g
    induction g with
    | zero =>
      intro t i p k b CV ht hch hw _ _ hb hl
      refine br_t (nI_le (a := 12) (by omega) (by omega)) (hp CV (fun v q hv hq => ?_) hl)
      rw [← hw] at hq
      exact hb v q hv hq
    | succ g ih =>
      intro t i p k b CV ht hch hw hi12 hp40 hb hl
      refine br_f (nI_ge (b := 12) (by omega) (by decide)) ⟨vp_in_nI hr (by decide), ?_⟩
      rw [nI_clamp (by omega)]
      show (nI (pl r) ≤ nI i → _) ∧ (¬ nI (pl r) ≤ nI i → _)
      rw [hpl]
      refine pk_le n i (fun z => hp CV (fun v q hv hq => ?_) hl) (fun z => ?_)
      · rw [← hw, fb_w_out (by omega)] at hq
        exact hb v q hv hq
      · cases k with
        | zero => have : i = n := hch
                  omega
        | succ k =>
          obtain ⟨c1, c2, c3, c4⟩ := id hch
          obtain ⟨t1, t2, t3, t4⟩ := p3 i z
          have h48 := fo_tk_le t1
          have ei := fe_full_e p2 z
          have epv := fe_full_e s2 c2
          have ein : nI (12 * r) + nI i = nI (12 * r + i) := nI_add _ _
          have vin : vp_in (nI (12 * r) + nI i) 240 := by rw [ein]; exact vp_in_nI (by omega) (by decide)
          have epe : xPe (nI (12 * r) + nI i).toNatClampNeg = nI (fe_pe (fm_o ar T) n i) := by rw [ein, nI_clamp (by omega), t4]
          have ese : xSe (nI p).toNatClampNeg = nI (fe_pe (fm_v ar S) m p) := by rw [nI_clamp (by omega), (s3 p c2).2.2]
          refine ⟨vin, nm_r (e' := nI (T i)) (by rw [ein, nI_clamp (by omega), t3]) ⟨by decide, nm_r (fo_d8 (by omega)) ?_⟩⟩
          have other : ∀ CV', T i / 8 ≠ 2 → (∀ b', fb_w T (fe_pe (fm_o ar T) n) (fe_pe (fm_v ar S) m) n g (fe_pe (fm_o ar T) n i) (fe_pe (fm_v ar S) m p) b' = fb_w T (fe_pe (fm_o ar T) n) (fe_pe (fm_v ar S) m) n 12 0 0 (fun _ => none) →
              (∀ v q, v < 4 → b' v = some q → CV' (4 * d + v) = xSn q) → (∀ i, i < 4 * d → CV' i = xCv i) →
              wX_bindVariables_84 post (wX_bindVariables_21 post (nI d) (nI r) (nI (12 * r)) xcc xdr xas xss xnc xdp xoc xrs xrt xrf xrz (g + 1)) (nI d) (nI r) (nI (12 * r)) (nI p) (nI i) (nI t) (nI (T i / 8)) xcc xdr xas xss xnc xdp xoc xrs xrt xrf xrz (fo_n ar) xD xDe xUw xRc xP xPe (fo_n pl) xO xOl xAr xS xSe xSn xF xNc xNf xNs xNz xCr xCn CV' xOp xRl xTa xUt) := by
            intro CV' k2 b' h1 h2 h3
            have n2 : ¬ nI (T i / 8) = 2 := fun w => k2 ((nI_eq (b := 2) (by omega) (by decide)).mp w)
            refine br_f n2 ⟨vp_in_nI (by omega) (by decide), ?_⟩
            rw [ese]
            refine br_f n2 ⟨vin, ?_⟩
            rw [epe]
            exact nm_e (nm_r (nI_1 t) (ih (t + 1) _ _ k b' CV' (by omega) c4 h1 (by omega) (by omega) h2 h3))
          refine pk_eq (T i / 8) 1 (fun k1 => ⟨by decide, vp_in_nI (by omega) (by decide), ?_⟩) (fun k1 => ?_)
          · have v4 := fp_v4 t1 k1
            have ex : nI d * 4 + (nI (T i) - nI (T i) / 8 * 8) = nI (4 * d + T i % 8) := by rw [fo_r8 (by omega), fo_m4, nI_add, Nat.mul_comm]
            rw [ex]
            refine ⟨vp_in_nI (by omega) (by decide), nm_r (e' := upd CV (4 * d + T i % 8) (xSn p)) (by rw [nI_clamp (by omega), nI_clamp (by omega)]) (other _ (by omega) (fun v => if v = T i % 8 then some p else b v) ?_ ?_ ?_)⟩
            · rw [← hw, fb_w_var z k1]
            · intro v q hv hq
              by_cases e : v = T i % 8
              · rw [if_pos e] at hq
                have : p = q := Option.some.inj hq
                rw [e, pk_us, this]
              · rw [if_neg e] at hq
                rw [pk_un (by omega)]
                exact hb v q hv hq
            · intro j hj
              rw [pk_un (by omega)]; exact hl j hj
          · by_cases k2 : T i / 8 = 2
            · obtain ⟨q1, q2, q3, q4⟩ := fb_con p2 s2 ha hch k2
              have e2 : nI (T i / 8) = 2 := congrArg nI k2
              refine br_t e2 (br_t e2 ?_)
              rw [nI_1, nI_1]
              exact nm_e (nm_r (nI_1 t) (ih (t + 1) (i + 1) (p + 1) _ b CV (by omega) q2 (by rw [← hw, fb_w_con z k2]) (by omega) (by omega) hb hl))
            · exact other CV k2 b (by rw [← hw, fb_w_oth z k2 k1]) hb hl
  refine ⟨vp_in_nI hd (by decide), nm_r (e' := nI r) (by rw [nI_clamp (by omega), hcr]) (nm_r ((fo_m12 r).trans (congrArg nI (Nat.mul_comm r 12))) ⟨13, loop 12 0 0 0 1 (fun _ => none) xCv rfl ⟨p2.1, s2.1, hm, ?_⟩ rfl (by omega) (by omega) (fun v q _ h => by cases h) (fun i _ => rfl)⟩)⟩
  exact p2.2.2
end
