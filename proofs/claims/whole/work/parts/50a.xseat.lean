theorem fv_drop {l : List Nat} {i : Nat} (h : i < l.length) : l.drop i = fv_g l i :: l.drop (i + 1) := by
  rw [List.drop_eq_getElem_cons h]
  unfold fv_g
  rw [List.getD_eq_getElem?_getD, List.getElem?_eq_getElem h]
  rfl
/-- nodes that wait at their own places of an array -/
def fx_PO (dn : Nat → List Nat) (sn : Nat → Int32) : List Nat → Nat → Prop
  | [], _ => True
  | n :: ns, p => sn p = nI n ∧ fx_PO dn sn ns (p + (dn n).length)
theorem fx_PO_c {dn : Nat → List Nat} {sn sn' : Nat → Int32} : ∀ ns p, (∀ q, p ≤ q → sn' q = sn q) → fx_PO dn sn ns p → fx_PO dn sn' ns p := by
  intro ns
  induction ns with
  | nil => intro p _ _; trivial
  | cons n ns ih =>
    intro p h hp
    exact ⟨by rw [h p (Nat.le_refl _)]; exact hp.1, ih _ (fun q hq => h q (by omega)) hp.2⟩
/-- a seated value: at each place its node -/
def fx_SN (ar : Nat → Nat) (N : Nat) (dn : Nat → List Nat) (L : List Nat) (m : Nat) (SN : Nat → Int32) : Prop :=
  ∀ i, i < m → ∃ q, SN i = nI q ∧ q < N ∧ dn q = fv_sub ar (fv_g L) L.length i
section
variable {xcc xdr xas xss xnc xdp xoc xrs xrt xrf xrz : Int32} {xA xD xDe xUw xRc xP xPe xPl xO xOl xAr xS xSe xSn xF xNc xNf xNs xNz xCr xCn xCv xOp xRl xTa xUt : Nat → Int32}
theorem x_sn93 {post : SX → Prop} {J : Int32 → (Nat → Int32) → (Nat → Int32) → (Nat → Int32) → (Nat → Int32) → (Nat → Int32) → (Nat → Int32) → (Nat → Int32) → (Nat → Int32) → (Nat → Int32) → (Nat → Int32) → (Nat → Int32) → (Nat → Int32) → (Nat → Int32) → (Nat → Int32) → (Nat → Int32) → (Nat → Int32) → (Nat → Int32) → (Nat → Int32) → (Nat → Int32) → (Nat → Int32) → (Nat → Int32) → (Nat → Int32) → (Nat → Int32) → (Nat → Int32) → (Nat → Int32) → (Nat → Int32) → Prop} {p n a : Nat} (ha : a < 2) (h : J (nI (p + 1)) xA xD xDe xUw xRc xP xPe xPl xO xOl xAr xS xSe xSn xF xNc xNf xNs xNz xCr xCn xCv xOp xRl xTa xUt) : wX_seatNode_93 post J (nI p) (nI n) (nI a) xcc xdr xas xss xnc xdp xoc xrs xrt xrf xrz xA xD xDe xUw xRc xP xPe xPl xO xOl xAr xS xSe xSn xF xNc xNf xNs xNz xCr xCn xCv xOp xRl xTa xUt :=
  br_f (fun z => by have := (nI_eq (b := 2) (by omega) (by decide)).mp z; omega) (nm_r (nI_1 p) h)
theorem x_sn_loop {post : SX → Prop} {ar : Nat → Nat} {c N : Nat} {dn : Nat → List Nat} (hc : c ≤ 6) (ha : ∀ i, ar i ≤ 2) (H : fx_H ar c N xNc xNf xNs xNz dn) (hN : N ≤ 1240) {L : List Nat} (hL : L.length ≤ 40)
    (hp : ∀ S E SN, (∀ i, i < L.length → fv_g L i < c ∧ S i = nI (fv_g L i) ∧ E i = nI (fe_pe (fm_v ar (fv_g L)) L.length i)) → fx_SN ar N dn L L.length SN → post (xcc, xdr, xas, nI L.length, xnc, xdp, xoc, xrs, xrt, xrf, xrz, fo_n ar, xD, xDe, xUw, xRc, xP, xPe, xPl, xO, xOl, xAr, S, E, SN, xF, xNc, xNf, xNs, xNz, xCr, xCn, xCv, xOp, xRl, xTa, xUt)) :
    ∀ d p ns S E SN, p + d = L.length → (∀ q, q ∈ ns → q < N) → L.drop p = fv_cc dn ns → fx_PO dn SN ns p →
      (∀ i, i < p → fv_g L i < c ∧ S i = nI (fv_g L i) ∧ E i = nI (fe_pe (fm_v ar (fv_g L)) L.length i)) → fx_SN ar N dn L p SN →
      wX_seatNode_19 post xcc xdr xas (nI L.length) xnc xdp xoc xrs xrt xrf xrz (d + 1) (nI p) (fo_n ar) xD xDe xUw xRc xP xPe xPl xO xOl xAr S E SN xF xNc xNf xNs xNz xCr xCn xCv xOp xRl xTa xUt := by
  have HH := fx_HH H
  intro d
  induction d with
  | zero =>
    intro p ns S E SN hpd hns hd hpo h1 h2
    have e : p = L.length := by omega
    subst e
    exact br_t (nI_le (Nat.le_refl _) (by omega)) (hp S E SN h1 h2)
  | succ d ih =>
    intro p ns S E SN hpd hns hd hpo h1 h2
    cases ns with
    | nil =>
      have := congrArg List.length hd
      rw [List.length_drop] at this
      have e0 : (fv_cc dn []).length = 0 := rfl
      omega
    | cons n ns =>
      have hn : n < N := hns n (List.mem_cons_self ..)
      have hns' : ∀ q, q ∈ ns → q < N := fun q hq => hns q (List.mem_cons_of_mem _ hq)
      obtain ⟨h, l, r, a1, a2, a3, a4, a5⟩ := H n hn
      obtain ⟨q1, q2, q3⟩ := fv_at HH (W := L) (p := p) (tl := fv_cc dn ns) hn hd
      obtain ⟨b1, b2, b3⟩ := a5
      have har := ha h
      have hpos := (fv_Hpos HH hn).1
      have hi40 : vp_in (nI p) 40 := vp_in_nI (by omega) (by decide)
      have hinn : vp_in (nI n) 1240 := vp_in_nI (by omega) (by decide)
      have hg : fv_g L p = h := by
        rcases b3 with ⟨_, e⟩ | ⟨_, _, e⟩ | ⟨_, _, _, e⟩
        · rw [show fv_cc dn (n :: ns) = dn n ++ fv_cc dn ns from rfl, e] at hd; exact (fv_head hd).1
        · rw [show fv_cc dn (n :: ns) = dn n ++ fv_cc dn ns from rfl, e] at hd; exact (fv_head hd).1
        · rw [show fv_cc dn (n :: ns) = dn n ++ fv_cc dn ns from rfl, e] at hd; exact (fv_head hd).1
      have hS' : ∀ i, i < p + 1 → fv_g L i < c ∧ upd S p (nI h) i = nI (fv_g L i) ∧ upd E p (nI (p + (dn n).length)) i = nI (fe_pe (fm_v ar (fv_g L)) L.length i) := by
        intro i hi
        by_cases e : i = p
        · subst e; rw [pk_us, pk_us, hg, q1]; exact ⟨b1, rfl, rfl⟩
        · rw [pk_un e, pk_un e]; exact h1 i (by omega)
      have hSN' : ∀ SN', (∀ i, i ≤ p → SN' i = SN i) → fx_SN ar N dn L (p + 1) SN' := by
        intro SN' hh i hi
        rw [hh i (by omega)]
        by_cases e : i = p
        · subst e; exact ⟨n, hpo.1, hn, q2.symm⟩
        · exact h2 i (by omega)
      refine br_f (nI_ge (by omega) (by omega)) ⟨hi40, nm_r (e' := nI n) (by rw [nI_clamp (by omega)]; exact hpo.1) ⟨hinn, ?_⟩⟩
      have en : (nI n).toNatClampNeg = n := nI_clamp (by omega)
      have ep : (nI p).toNatClampNeg = p := nI_clamp (by omega)
      rw [en, a1]
      refine ⟨vp_in_nI (by omega) (by decide), nm_r (e' := nI (ar h)) (by rw [nI_clamp (by omega)]; rfl) ⟨hinn, hi40, nm_r (e' := upd S p (nI h)) (by rw [ep]) ⟨hinn, hi40, nm_r (e' := upd E p (nI (p + (dn n).length))) (by rw [ep, a2, nI_add]) ?_⟩⟩⟩
      rcases b3 with ⟨e0, e⟩ | ⟨e0, hl, e⟩ | ⟨e0, hl, hr, e⟩
      · rw [e0]
        refine br_t (by decide) (x_sn93 (a := 0) (by omega) (ih (p + 1) ns _ _ SN (by omega) hns' ?_ ?_ hS' (hSN' SN (fun _ _ => rfl))))
        · rw [show fv_cc dn (n :: ns) = dn n ++ fv_cc dn ns from rfl, e] at hd
          exact (fv_head hd).2.1
        · have := hpo.2; rw [e] at this; exact this
      · rw [e0]
        have hlen : (dn n).length = (dn l).length + 1 := by rw [e]; rfl
        have hpl := (fv_Hpos HH hl).1
        refine br_f (by decide) ⟨hinn, by rw [nI_1]; exact vp_in_nI (by omega) (by decide), nm_r (e' := upd SN (p + 1) (nI l)) ?_ (x_sn93 (a := 1) (by omega) (ih (p + 1) (l :: ns) _ _ _ (by omega) ?_ ?_ ?_ hS' (hSN' _ (fun i hi => pk_un (by omega)))))⟩
        · rw [nI_1, nI_clamp (by omega), a3 (by omega)]
        · intro q hq
          rcases List.mem_cons.mp hq with g | g
          · omega
          · exact hns' q g
        · rw [show fv_cc dn (n :: ns) = dn n ++ fv_cc dn ns from rfl, e] at hd
          exact (fv_head hd).2.1
        · refine ⟨pk_us, fx_PO_c ns _ (fun q hq => pk_un (by omega)) ?_⟩
          have := hpo.2; rw [show p + (dn n).length = p + 1 + (dn l).length by omega] at this; exact this
      · rw [e0]
        have hlen : (dn n).length = (dn l).length + (dn r).length + 1 := by rw [e, List.length_cons, List.length_append]
        have hpl := (fv_Hpos HH hl).1
        have hpr := (fv_Hpos HH hr).1
        obtain ⟨_, _, _, _, l2, _⟩ := H l hl
        have ef : xNf n = nI l := a3 (by omega)
        have es : xNs n = nI r := a4 e0
        refine br_f (by decide) ⟨hinn, by rw [nI_1]; exact vp_in_nI (by omega) (by decide), nm_r (e' := upd SN (p + 1) (nI l)) ?_ (br_t rfl ⟨hinn, ?_⟩)⟩
        · rw [nI_1, nI_clamp (by omega), ef]
        · rw [en, ef]
          refine ⟨vp_in_nI (by omega) (by decide), hinn, ?_⟩
          rw [nI_clamp (by omega), l2, nI_1, nI_add, es]
          refine ⟨vp_in_nI (by omega) (by decide), nm_r (e' := upd (upd SN (p + 1) (nI l)) (p + 1 + (dn l).length) (nI r)) (by rw [nI_clamp (by omega)]) (nm_e (ih (p + 1) (l :: r :: ns) _ _ _ (by omega) ?_ ?_ ?_ hS' (hSN' _ (fun i hi => by rw [pk_un (by omega), pk_un (by omega)]))))⟩
          · intro q hq
            rcases List.mem_cons.mp hq with g | g
            · omega
            · rcases List.mem_cons.mp g with g | g
              · omega
              · exact hns' q g
          · rw [show fv_cc dn (n :: ns) = dn n ++ fv_cc dn ns from rfl, e, show (h :: (dn l ++ dn r)) ++ fv_cc dn ns = h :: ((dn l ++ dn r) ++ fv_cc dn ns) from rfl] at hd
            rw [(fv_head hd).2.1, List.append_assoc]
            rfl
          · refine ⟨by rw [pk_un (by omega), pk_us], by rw [pk_us], fx_PO_c ns _ (fun q hq => by rw [pk_un (by omega), pk_un (by omega)]) ?_⟩
            have := hpo.2; rw [show p + (dn n).length = p + 1 + (dn l).length + (dn r).length by omega] at this; exact this
/-- a node is seated -/
theorem x_sn {post : SX → Prop} {ar : Nat → Nat} {c N root : Nat} {dn : Nat → List Nat} (hc : c ≤ 6) (ha : ∀ i, ar i ≤ 2) (H : fx_H ar c N xNc xNf xNs xNz dn) (hN : N ≤ 1240) (hr : root < N)
    (hp : ∀ S E SN, fx_sub ar c (dn root).length (fv_g (dn root)) S E → fx_SN ar N dn (dn root) (dn root).length SN → post (xcc, xdr, xas, nI (dn root).length, xnc, xdp, xoc, xrs, xrt, xrf, xrz, fo_n ar, xD, xDe, xUw, xRc, xP, xPe, xPl, xO, xOl, xAr, S, E, SN, xF, xNc, xNf, xNs, xNz, xCr, xCn, xCv, xOp, xRl, xTa, xUt)) :
    wpX_seatNode post (xcc, xdr, xas, xss, xnc, xdp, xoc, xrs, xrt, xrf, xrz, fo_n ar, xD, xDe, xUw, xRc, xP, xPe, xPl, xO, xOl, xAr, xS, xSe, xSn, xF, xNc, xNf, xNs, xNz, xCr, xCn, xCv, xOp, xRl, xTa, xUt) (nI root) := by
  have HH := fx_HH H
  have h40 := fv_Hpos HH hr
  obtain ⟨h, l, r, a1, a2, a3, a4, a5⟩ := H root hr
  refine ⟨vp_in_nI (by omega) (by decide), nm_r (e' := nI (dn root).length) (by rw [nI_clamp (by omega), a2]) (nm_e ⟨(dn root).length + 1, ?_⟩)⟩
  refine x_sn_loop (L := dn root) hc ha H hN h40.2 (fun S E SN b1 b2 => hp S E SN ⟨h40.2, fv_full HH hr, b1⟩ b2) (dn root).length 0 [root] xS xSe _ (by omega) ?_ ?_ ⟨pk_us, trivial⟩ (fun i hi => by omega) (fun i hi => by omega)
  · intro q hq
    rcases List.mem_cons.mp hq with g | g
    · omega
    · cases g
  · show (dn root).drop 0 = dn root ++ []
    rw [List.drop_zero, List.append_nil]
end
