section
variable {xcc xdr xas xss xnc xdp xoc xrs xrt xrf xrz : Int32} {xA xD xDe xUw xRc xP xPe xPl xO xOl xAr xS xSe xSn xF xNc xNf xNs xNz xCr xCn xCv xOp xRl xTa xUt : Nat → Int32}
/-- the nodes of the argument -/
theorem x_st {post : SX → Prop} {ar W : Nat → Nat} {c m : Nat} (hc : c ≤ 6) (ha : ∀ i, ar i ≤ 2) (hW : fR_val ar c m W xAr)
    (hp : ∀ S E NC NF NS NZ, fx_H ar c m NC NF NS NZ (fun i => fv_sub ar W m i) →
      post (xcc, xdr, nI m, nI m, nI m, 0, 1, xrs, 0, -1, 0, fo_n ar, xD, xDe, xUw, xRc, xP, xPe, xPl, xO, xOl, xAr, S, E, xSn, xF, NC, NF, NS, NZ, xCr, xCn, xCv, upd xOp 0 0, xRl, xTa, xUt)) :
    wpX_startRun post (xcc, xdr, nI m, xss, xnc, xdp, xoc, xrs, xrt, xrf, xrz, fo_n ar, xD, xDe, xUw, xRc, xP, xPe, xPl, xO, xOl, xAr, xS, xSe, xSn, xF, xNc, xNf, xNs, xNz, xCr, xCn, xCv, xOp, xRl, xTa, xUt) := by
  unfold wpX_startRun
  refine x_sa hc ha hW (fun S E fS => ?_)
  obtain ⟨hm, f, g⟩ := fS
  have loop : ∀ d i NC NF NS NZ, i + d = m → (∀ q, q < i → NC q = nI (W q) ∧ NZ q = nI (fe_pe (fm_v ar W) m q - q) ∧ NF q = nI (q + 1) ∧ (ar (W q) = 2 → NS q = nI (fe_pe (fm_v ar W) m (q + 1)))) →
      wX_startRun_6 post xcc xdr (nI m) (nI m) xnc xdp xoc xrs xrt xrf xrz (d + 1) (nI i) (fo_n ar) xD xDe xUw xRc xP xPe xPl xO xOl xAr S E xSn xF NC NF NS NZ xCr xCn xCv xOp xRl xTa xUt := by
    intro d
    induction d with
    | zero =>
      intro i NC NF NS NZ hi h
      have e : i = m := by omega
      subst e
      refine br_t (nI_le (Nat.le_refl _) (by omega)) (nm_e (hp S E NC NF NS NZ (fun q hq => ?_)))
      obtain ⟨b1, b2, b3, b4⟩ := h q hq
      have h2 := ha (W q)
      have hw := (g q hq).1
      have hlen : (fv_sub ar W i q).length ≤ 40 := by
        rw [fv_sub_len]
        have := fe_full_e f hq
        omega
      refine ⟨W q, q + 1, fe_pe (fm_v ar W) i (q + 1), b1, by rw [b2]; exact congrArg nI (fv_sub_len ar W i q).symm, fun _ => b3, b4, hw, hlen, ?_⟩
      by_cases z0 : ar (W q) = 0
      · exact Or.inl ⟨z0, fv_sub_s0 hq z0⟩
      · by_cases z1 : ar (W q) = 1
        · obtain ⟨u1, u2⟩ := fv_sub_s1 f hq z1
          exact Or.inr (Or.inl ⟨z1, u1, u2⟩)
        · obtain ⟨u1, u2, u3, u4⟩ := fv_sub_s2 f hq (show ar (W q) = 2 by omega)
          exact Or.inr (Or.inr ⟨by omega, u1, u3, u4⟩)
    | succ d ih =>
      intro i NC NF NS NZ hi h
      obtain ⟨g1, g2, g3⟩ := g i (by omega)
      have ei := fe_full_e f (show i < m by omega)
      have e1 : (nI i).toNatClampNeg = i := nI_clamp (by omega)
      have h40 : vp_in (nI i) 40 := vp_in_nI (by omega) (by decide)
      have h1240 : vp_in (nI i) 1240 := vp_in_nI (by omega) (by decide)
      refine br_f (nI_ge (by omega) (by omega)) ⟨h40, h1240, nm_r (e' := upd NC i (nI (W i))) (by rw [e1, g2]) ⟨h40, h1240, nm_r (e' := upd NZ i (nI (fe_pe (fm_v ar W) m i - i))) (by rw [e1, g3, pk_sub (by omega)]) ⟨h1240, nm_r (e' := upd NF i (nI (i + 1))) (by rw [e1, nI_1]) ⟨h40, ?_⟩⟩⟩⟩
      rw [e1, g2]
      refine ⟨vp_in_nI (by omega) (by decide), ?_⟩
      rw [nI_clamp (by omega)]
      have h2 := ha (W i)
      have step : ∀ x, (ar (W i) = 2 → x = nI (fe_pe (fm_v ar W) m (i + 1))) → ∀ q, q < i + 1 → upd NC i (nI (W i)) q = nI (W q) ∧ upd NZ i (nI (fe_pe (fm_v ar W) m i - i)) q = nI (fe_pe (fm_v ar W) m q - q) ∧ upd NF i (nI (i + 1)) q = nI (q + 1) ∧
          (ar (W q) = 2 → upd NS i x q = nI (fe_pe (fm_v ar W) m (q + 1))) := by
        intro x hx q hq
        by_cases e : q = i
        · subst e; rw [pk_us, pk_us, pk_us, pk_us]; exact ⟨rfl, rfl, rfl, hx⟩
        · rw [pk_un e, pk_un e, pk_un e, pk_un e]; exact h q (by omega)
      refine pk_eq (ar (W i)) 2 (fun z => ?_) (fun z => ⟨h1240, nm_r (e' := upd NS i 0) rfl (nm_r (nI_1 i) (ih (i + 1) _ _ _ _ (by omega) (step 0 (fun q => absurd q z))))⟩)
      obtain ⟨u1, _⟩ := fe_pe_c2 (fm_v ar W) (show i < m by omega) ei.2 f.2.1 z
      refine ⟨by rw [nI_1]; exact vp_in_nI (by omega) (by decide), h1240, nm_r (e' := upd NS i (nI (fe_pe (fm_v ar W) m (i + 1)))) ?_ (nm_r (nI_1 i) (ih (i + 1) _ _ _ _ (by omega) (step _ (fun _ => rfl))))⟩
      rw [nI_1, nI_clamp (by omega), (g (i + 1) u1).2.2]
  exact ⟨m + 1, loop m 0 xNc xNf xNs xNz (by omega) (fun q hq => by omega)⟩
/-- what the run gave is kept -/
theorem x_ko {post : SX → Prop} {ar : Nat → Nat} {c N root : Nat} {dn : Nat → List Nat} (hc : c ≤ 6) (ha : ∀ i, ar i ≤ 2) (H : fx_H ar c N xNc xNf xNs xNz dn) (hN : N ≤ 1240) (hr : root < N) (ho : xOp 0 = nI root)
    (hp : ∀ ss S E SN, post (xcc, xdr, xas, ss, xnc, xdp, xoc, xrs, xrt, xrf, nI (dn root).length, fo_n ar, xD, xDe, xUw, xRc, xP, xPe, xPl, xO, xOl, xAr, S, E, SN, xF, xNc, xNf, xNs, xNz, xCr, xCn, xCv, xOp, fo_cp xRl (fo_n (fv_g (dn root))) (dn root).length, xTa, xUt)) :
    wpX_keepOutcome post (xcc, xdr, xas, xss, xnc, xdp, xoc, xrs, xrt, xrf, xrz, fo_n ar, xD, xDe, xUw, xRc, xP, xPe, xPl, xO, xOl, xAr, xS, xSe, xSn, xF, xNc, xNf, xNs, xNz, xCr, xCn, xCv, xOp, xRl, xTa, xUt) := by
  unfold wpX_keepOutcome
  refine fo_ih (P := fun z => wpX_seatNode _ _ z) ho ?_
  refine x_sn hc ha H hN hr (fun S E SN fS fSN => ?_)
  obtain ⟨h40, _, hS⟩ := fS
  have loop : ∀ d i B, i + d = (dn root).length → B = fo_cp xRl (fo_n (fv_g (dn root))) i →
      wX_keepOutcome_20 post xcc xdr xas (nI (dn root).length) xnc xdp xoc xrs xrt xrf (nI (dn root).length) (d + 1) (nI i) (fo_n ar) xD xDe xUw xRc xP xPe xPl xO xOl xAr S E SN xF xNc xNf xNs xNz xCr xCn xCv xOp B xTa xUt := by
    intro d
    induction d with
    | zero =>
      intro i B hi hB
      subst hB
      have e : i = (dn root).length := by omega
      rw [e]
      exact br_t (nI_le (Nat.le_refl _) (by omega)) (hp _ S E SN)
    | succ d ih =>
      intro i B hi hB
      subst hB
      refine br_f (nI_ge (by omega) (by omega)) ⟨vp_in_nI (by omega) (by decide), vp_in_nI (by omega) (by decide), nm_e (nm_r (nI_1 i) (ih (i + 1) _ (by omega) ?_))⟩
      rw [nI_clamp (by omega), (hS i (by omega)).2.1, ← fo_cpS]
      rfl
  exact ⟨(dn root).length + 1, loop (dn root).length 0 xRl (by omega) (fo_cp0 _ _).symm⟩
end
section
variable {xcc xdr xas xss xnc xdp xoc xrs xrt xrf xrz : Int32} {xA xD xDe xUw xRc xP xPe xPl xO xOl xAr xS xSe xSn xF xNc xNf xNs xNz xCr xCn xCv xOp xRl xTa xUt : Nat → Int32}
variable {yk yw : Nat → Int32}
/-- the whole run from a state in the midst of it -/
theorem x_rl {post : Int32 → SX → Prop} {ar rc pl : Nat → Nat} {pat : Nat → Nat → Nat} {pre pos : Nat → List Nat} {c : Nat}
    (hc : c ≤ 6) (ha : ∀ i, ar i ≤ 2) (hrc : ∀ f, rc f ≤ 5) (hR : fx_rows ar c rc pl pat pre pos xP xPe xO xOl yk yw) {R : Nat × Nat × Nat × List Nat}
    (hO : R.1 = 0 → (∀ (ss nc dp oc : Int32) (S E SN Ft NC NF NS NZ CR CN CV OP : Nat → Int32), post 0 (xcc, xdr, xas, ss, nc, dp, oc, 0, nI R.2.1, -1, nI R.2.2.2.length, fo_n ar, xD, xDe, xUw, fo_n rc, xP, xPe, fo_n pl, xO, xOl, xAr, S, E, SN, Ft, NC, NF, NS, NZ, CR, CN, CV, OP, fo_cp xRl (fo_n (fv_g R.2.2.2)) R.2.2.2.length, xTa, xUt)))
    (hB : (1 ≤ R.1 ∧ R.1 ≤ 3) → (∀ (ss nc dp oc : Int32) (S E SN Ft NC NF NS NZ CR CN CV OP : Nat → Int32), post (nI R.1) (xcc, xdr, xas, ss, nc, dp, oc, nI R.1, nI R.2.1, nI (R.2.2.1 - 1), 0, fo_n ar, xD, xDe, xUw, fo_n rc, xP, xPe, fo_n pl, xO, xOl, xAr, S, E, SN, Ft, NC, NF, NS, NZ, CR, CN, CV, OP, xRl, xTa, xUt))) :
    ∀ K n s d oc N t g (dn : Nat → List Nat) (cr cn cv oo : Nat → Nat) (ss : Int32) (S E SN Ft NC NF NS NZ CR CN CV OP : Nat → Int32),
      2 * (12 * (100 - s) + (fx_frs pos dn cr cn cv d).length) + d < K → K ≤ g → t + K ≤ 900000 → 12 * (100 - s) + (fx_frs pos dn cr cn cv d).length < n → 1 ≤ d → d ≤ s → s ≤ 100 →
      N + (12 * (100 - s) + (fx_frs pos dn cr cn cv d).length) ≤ 1240 → oc + (12 * (100 - s) + (fx_frs pos dn cr cn cv d).length) ≤ 1200 →
      fx_H ar c N NC NF NS NZ dn → fx_FR pos rc N d cr cn cv CR CN CV → (∀ k, k < oc → oo k < N ∧ OP k = nI (oo k)) → fx_bal ar oc (fx_frs pos dn cr cn cv d) →
      fg_go ar (fg_row ar pat pl rc) (fg_res ar pat pl rc pos) n s (fx_stk dn oo oc) (fx_frs pos dn cr cn cv d) = R →
      wX_run_28 post (g + 1) (-1) (nI t) xcc xdr xas ss (nI N) (nI d) (nI oc) xrs (nI s) (-1) 0 (fo_n ar) xD xDe xUw (fo_n rc) xP xPe (fo_n pl) xO xOl xAr S E SN Ft NC NF NS NZ CR CN CV OP xRl xTa xUt := by
  intro K
  induction K with
  | zero => intro n s d oc N t g dn cr cn cv oo ss S E SN Ft NC NF NS NZ CR CN CV OP h; omega
  | succ K ih =>
    intro n s d oc N t g dn cr cn cv oo ss S E SN Ft NC NF NS NZ CR CN CV OP hK hg ht hn h1d hds hs hN hoc H F O B hgo
    obtain ⟨g, rfl⟩ : ∃ g', g = g' + 1 := ⟨g - 1, by omega⟩
    obtain ⟨n, rfl⟩ : ∃ n', n = n' + 1 := ⟨n - 1, by omega⟩
    obtain ⟨d, rfl⟩ : ∃ d', d = d' + 1 := ⟨d - 1, by omega⟩
    refine br_f (nI_ge (b := 1000000) (by omega) (by decide)) (br_t rfl ?_)
    -- an end that is no value
    have stop : ∀ code, (1 ≤ code ∧ code ≤ 3) → R.1 = code → ∀ (rf : Int32) (rt : Int32), rf = nI (R.2.2.1 - 1) → rt = nI R.2.1 → ∀ (ss nc dp oc : Int32) (S E SN Ft NC NF NS NZ CR CN CV OP : Nat → Int32),
        wX_run_28 post (g + 1) (nI code) (nI (t + 1)) xcc xdr xas ss nc dp oc xrs rt rf 0 (fo_n ar) xD xDe xUw (fo_n rc) xP xPe (fo_n pl) xO xOl xAr S E SN Ft NC NF NS NZ CR CN CV OP xRl xTa xUt := by
      intro code hcode hRc rf rt hrf hrt ss nc dp oc S E SN Ft NC NF NS NZ CR CN CV OP
      have n1 : ¬ nI code = -1 := fun q => absurd (q ▸ nI_pos' (n := code) (by omega)) (by decide)
      refine br_f (nI_ge (b := 1000000) (by omega) (by decide)) (br_f n1 (br_f (nI_ne0 (by omega) (by omega)) ?_))
      rw [hrf, hrt, ← hRc]
      exact hB (by omega) ss nc dp oc S E SN Ft NC NF NS NZ CR CN CV OP
    obtain ⟨f1, f2, ⟨f, r, hf, hr, hcr⟩, f4, f5⟩ := F d (by omega)
    have hr5 := hrc f
    have hrow := hR f r hf hr
    rw [← hcr] at hrow
    have hlen := (ff_len hrow.2.2.2.2.1).1
    have hl12 := hrow.2.2.2.2.2.1
    have hinD : vp_in (nI d) 100 := vp_in_nI (by omega) (by decide)
    have eD : (nI d).toNatClampNeg = d := nI_clamp (by omega)
    have eR : (nI (cr d)).toNatClampNeg = cr d := nI_clamp (by omega)
    unfold wpX_workOn
    refine nm_r (nI_pred d) ⟨hinD, nm_r (e' := nI (cr d)) (by rw [eD, f1]) ⟨hinD, vp_in_nI (by omega) (by decide), ?_⟩⟩
    rw [eD, eR, f2, hrow.2.2.2.2.2.2.1]
    refine pk_eq (cn d) (pos (cr d)).length (fun z => nm_r (nI_pred d) ?_) (fun z => ?_)
    · -- the call comes back
      have erest : fx_frs pos dn cr cn cv (d + 1) = fx_frs pos dn cr cn cv d := by
        show ((pos (cr d)).drop (cn d)).map _ ++ _ = _
        rw [z, List.drop_length]; rfl
      rw [erest] at hK hn hN hoc B hgo
      refine pk_eq d 0 (fun z0 => ?_) (fun z0 => nm_r (nI_1 t) ?_)
      · subst z0
        have hb1 : oc = 1 := B
        subst hb1
        rw [show fx_frs pos dn cr cn cv 0 = [] from rfl, fg_go_nil] at hgo
        refine nm_r (nI_1 t) (br_f (nI_ge (b := 1000000) (by omega) (by decide)) (br_f (by decide) (br_t rfl ?_)))
        obtain ⟨o1, o2⟩ := O 0 (by omega)
        refine x_ko hc ha H (by omega) o1 o2 (fun ss' S' E' SN' => ?_)
        have := hO (by rw [← hgo]) ss' (nI N) 0 (nI 1) S' E' SN' Ft NC NF NS NZ CR CN CV OP
        rw [← hgo] at this
        exact this
      · refine ih (n + 1) s d oc N (t + 1) g dn cr cn cv oo ss S E SN Ft NC NF NS NZ CR CN CV OP ?_ (by omega) (by omega) hn (by omega) (by omega) hs hN hoc H (fun i hi => F i (by omega)) O B hgo
        rw [erest] at *
        omega
    · -- a token
      have hi : cn d < (pos (cr d)).length := by omega
      have edrop := fv_drop hi
      have hmem : fv_g (pos (cr d)) (cn d) ∈ pos (cr d) := fv_gmem hi
      have kinds := fx_rowv hrow _ hmem
      generalize hx : fv_g (pos (cr d)) (cn d) = x at *
      have hx48 : x < 48 := by omega
      -- the calls, one token on
      have F1 : ∀ N', N ≤ N' → fx_FR pos rc N' (d + 1) cr (fo_u cn d (cn d + 1)) cv CR (upd CN d (nI (cn d + 1))) CV := by
        intro N' hN' i hi'
        by_cases e : i = d
        · subst e
          rw [fo_us, pk_us]
          refine ⟨f1, rfl, ⟨f, r, hf, hr, hcr⟩, by omega, fun y hy h1 => ?_⟩
          obtain ⟨q1, q2, q3⟩ := f5 y (by rw [edrop]; exact List.mem_cons_of_mem _ hy) h1
          exact ⟨q1, by omega, q3⟩
        · obtain ⟨a1, a2, a3, a4, a5⟩ := F i hi'
          rw [fo_un e, pk_un e]
          exact ⟨a1, a2, a3, a4, fun y hy h1 => ⟨(a5 y hy h1).1, by have := (a5 y hy h1).2.1; omega, (a5 y hy h1).2.2⟩⟩
      have frs1 : ∀ dn', (∀ q, q < N → dn' q = dn q) → fx_tk dn cv d (cr d / 5) x :: fx_frs pos dn' cr (fo_u cn d (cn d + 1)) cv (d + 1) = fx_frs pos dn cr cn cv (d + 1) := by
        intro dn' hdn
        show fx_tk dn cv d (cr d / 5) x :: (((pos (cr d)).drop (fo_u cn d (cn d + 1) d)).map (fx_tk dn' cv d (cr d / 5)) ++ fx_frs pos dn' cr (fo_u cn d (cn d + 1)) cv d) = ((pos (cr d)).drop (cn d)).map (fx_tk dn cv d (cr d / 5)) ++ fx_frs pos dn cr cn cv d
        rw [fo_us, edrop, List.map_cons, List.cons_append]
        rw [fx_frs_c d (fun i hi' => F i (by omega)) hdn (fun i hi' => ⟨rfl, fo_un (by omega)⟩) (fun _ _ => rfl)]
        refine congrArg (fun l => fx_tk dn cv d (cr d / 5) x :: (l ++ _)) (List.map_congr_left (fun y hy => ?_))
        unfold fx_tk
        by_cases h1 : y / 8 = 1
        · obtain ⟨q1, q2, q3⟩ := f5 y (by rw [edrop]; exact List.mem_cons_of_mem _ hy) h1
          rw [if_pos h1, if_pos h1, hdn _ q2]
        · rw [if_neg h1, if_neg h1]
      have eo : nI (cr d) * 12 + nI (cn d) = nI (12 * cr d + cn d) := by rw [fo_m12, nI_add, Nat.mul_comm]
      have exo : xO (12 * cr d + cn d) = nI x := by rw [hrow.2.2.2.2.2.2.2.1 (cn d) hi, hx]
      refine ⟨hinD, ?_⟩
      rw [eo]
      refine ⟨vp_in_nI (by omega) (by decide), nm_r (e' := nI x) (by rw [nI_clamp (by omega), exo]) ⟨by decide, nm_r (fo_r8 (by omega)) ⟨hinD, hinD, nm_r (e' := upd CN d (nI (cn d + 1))) (by rw [nI_1]) ⟨by decide, nm_r (fo_d8 (by omega)) ?_⟩⟩⟩⟩
      have f01 := frs1 dn (fun _ _ => rfl)
      refine pk_eq (x / 8) 2 (fun k2 => ⟨by decide, ?_⟩) (fun k2 => pk_eq (x / 8) 5 (fun k5 => ?_) (fun k5 => ?_))
      · -- a constructor
        have etk : fx_tk dn cv d (cr d / 5) x = Sum.inr (2, x % 8, cr d / 5) := by unfold fx_tk; rw [if_neg (by omega), k2]
        rw [etk] at f01
        rw [← f01] at hK hn hN hoc B hgo
        rw [List.length_cons] at hK hn hN hoc
        have hk2 : fg_k ar (Sum.inr (2, x % 8, cr d / 5)) = ar (x % 8) := rfl
        obtain ⟨B1, B2⟩ := B
        rw [hk2] at B1 B2
        have vc : x % 8 < c := by omega
        have e5 : nI (cr d) / 5 = nI (f) := by rw [fo_d5 (by omega)]; exact congrArg nI (by omega)
        have e5' : cr d / 5 = f := by omega
        rw [e5]
        refine x_bd hc ha vc H O B1 (by omega) (by omega) (fun big => ?_) (fun big NC' NF' NS' NZ' H' => ?_)
        · rw [fg_go_big big] at hgo
          exact nm_r (nI_1 t) (stop 3 (by omega) (by rw [← hgo]) _ _ (by rw [← hgo, e5']; rfl) (by rw [← hgo]) _ _ _ _ _ _ _ _ _ _ _ _ _ _ _ _)
        · rw [fg_go_con big] at hgo
          have hup : ∀ q, q < N → fx_up dn N (fg_mk ar (x % 8) (fx_stk dn oo oc)) q = dn q := fun q hq => fx_up_n hq
          have f02 := frs1 _ hup
          rw [etk] at f02
          have f03 : fx_frs pos (fx_up dn N (fg_mk ar (x % 8) (fx_stk dn oo oc))) cr (fo_u cn d (cn d + 1)) cv (d + 1) = fx_frs pos dn cr (fo_u cn d (cn d + 1)) cv (d + 1) := (List.cons.inj (f02.trans f01.symm)).2
          refine nm_r (nI_1 t) (ih n s (d + 1) (oc - ar (x % 8) + 1) (N + 1) (t + 1) g (fx_up dn N (fg_mk ar (x % 8) (fx_stk dn oo oc))) cr (fo_u cn d (cn d + 1)) cv (fo_u oo (oc - ar (x % 8)) N) _ _ _ _ _ NC' NF' NS' NZ' _ _ _ _ ?_ (by omega) (by omega) ?_ (by omega) hds hs ?_ ?_ H' (F1 (N + 1) (by omega)) ?_ ?_ ?_)
          · rw [f03]; omega
          · rw [f03]; omega
          · rw [f03]; omega
          · rw [f03]; omega
          · intro k hk
            by_cases e : k = oc - ar (x % 8)
            · subst e; rw [fo_us, pk_us]; exact ⟨by omega, rfl⟩
            · rw [fo_un e, pk_un e]
              obtain ⟨o1, o2⟩ := O k (by omega)
              exact ⟨by omega, o2⟩
          · rw [f03]; exact B2
          · rw [f03, ← hgo]
            refine congrArg (fun st => fg_go ar (fg_row ar pat pl rc) (fg_res ar pat pl rc pos) n s st _) ?_
            show fx_up dn N _ (fo_u oo (oc - ar (x % 8)) N (oc - ar (x % 8))) :: fx_stk _ _ (oc - ar (x % 8)) = _
            rw [fo_us, fx_up_s, fx_stk_drop dn oo oc (ar (x % 8)) B1]
            refine congrArg (List.cons (fg_mk ar (x % 8) (fx_stk dn oo oc))) (fx_stk_c _ (fun i hi' => ?_))
            obtain ⟨o1, _⟩ := O i (by omega)
            rw [fo_un (by omega), fx_up_n o1]
      · -- a call
        have etk : fx_tk dn cv d (cr d / 5) x = Sum.inr (5, x % 8, cr d / 5) := by unfold fx_tk; rw [if_neg (by omega), k5]
        rw [etk] at f01
        rw [← f01] at hK hn hN hoc B hgo
        rw [List.length_cons] at hK hn hN hoc
        have hk5 : fg_k ar (Sum.inr (5, x % 8, cr d / 5)) = 1 := rfl
        obtain ⟨B1, B2⟩ := B
        rw [hk5] at B1 B2
        have vf : x % 8 < 4 := by omega
        obtain ⟨oc, rfl⟩ : ∃ o, oc = o + 1 := ⟨oc - 1, by omega⟩
        have est : (fx_stk dn oo (oc + 1)).headD [] = dn (oo oc) := rfl
        refine x_en hc ha vf hrc hR H (F1 N (Nat.le_refl _)) O (by omega) (by omega) hs hds (by omega) (fun z100 => ?_) (fun z100 w ss' S' E' SN' Ft' => ?_) (fun z100 w ss' S' E' SN' Ft' CR' CN' CV' cr' cn' cv' F' e' => ?_)
        · rw [fg_go_long z100] at hgo
          exact nm_r (nI_1 t) (stop 2 (by omega) (by rw [← hgo]) _ _ (by rw [← hgo]; rfl) (by rw [← hgo]) _ _ _ _ _ _ _ _ _ _ _ _ _ _ _ _)
        · rw [fg_go_stuck z100 w] at hgo
          exact nm_r (nI_1 t) (stop 1 (by omega) (by rw [← hgo]) _ _ (by rw [← hgo]; rfl) (by rw [← hgo]) _ _ _ _ _ _ _ _ _ _ _ _ _ _ _ _)
        · rw [fg_go_call z100 w, est] at hgo
          rw [Nat.add_sub_cancel] at e' w
          have hwle := fm_row_le ar pat pl rc (x % 8) (fv_g (dn (oo oc))) (dn (oo oc)).length
          have hrv := hrc (x % 8)
          have hwn : fm_row ar pat pl rc (x % 8) (fv_g (dn (oo oc))) (dn (oo oc)).length ≠ 0 := w
          have hrow2 := hR (x % 8) (fm_row ar pat pl rc (x % 8) (fv_g (dn (oo oc))) (dn (oo oc)).length - 1) vf (by omega)
          have hll : (fg_res ar pat pl rc pos (x % 8) (dn (oo oc))).length ≤ 12 := by
            have e1 := (ff_len hrow2.2.2.2.2.1).1
            have e2 := hrow2.2.2.2.2.2.1
            unfold fg_res
            rw [List.length_map]
            show (pos (5 * (x % 8) + (fm_row ar pat pl rc (x % 8) (fv_g (dn (oo oc))) (dn (oo oc)).length - 1))).length ≤ 12
            omega
          have hs99 : s < 100 := by omega
          refine nm_r (nI_1 t) (ih n (s + 1) (d + 1 + 1) oc N (t + 1) g dn cr' cn' cv' oo ss' S' E' SN' Ft' _ _ _ _ CR' CN' CV' _ ?_ (by omega) (by omega) ?_ (by omega) (by omega) (by omega) ?_ ?_ H F' (fun k hk => O k (by omega)) ?_ ?_)
          · rw [e', List.length_append]; omega
          · rw [e', List.length_append]; omega
          · rw [e', List.length_append]; omega
          · rw [e', List.length_append]; omega
          · rw [e']
            rw [show oc + 1 - 1 + 1 = oc + 1 by omega] at B2
            exact fx_bal_app (fg_PF (dn (oo oc)) vf hrow2.2.2.2.2.1) oc _ B2
          · rw [e']
            exact hgo
      · -- a variable
        have k1 : x / 8 = 1 := by omega
        have etk : fx_tk dn cv d (cr d / 5) x = Sum.inl (dn (cv (4 * d + x % 8))) := by unfold fx_tk; rw [if_pos k1]
        rw [etk] at f01
        rw [← f01] at hK hn hN hoc B hgo
        rw [List.length_cons] at hK hn hN hoc
        obtain ⟨B1, B2⟩ := B
        obtain ⟨q1, q2, q3⟩ := f5 x (by rw [edrop]; exact List.mem_cons_self ..) k1
        rw [fg_go_val] at hgo
        have ev : nI d * 4 + nI (x % 8) = nI (4 * d + x % 8) := by rw [fo_m4, nI_add, Nat.mul_comm]
        rw [ev]
        refine ⟨vp_in_nI (by omega) (by decide), vp_in_nI (by omega) (by decide), nm_r (e' := upd OP oc (nI (cv (4 * d + x % 8)))) (by rw [nI_clamp (by omega), nI_clamp (by omega), q3]) (nm_r (nI_1 oc) (nm_r (nI_1 t) (ih n s (d + 1) (oc + 1) N (t + 1) g dn cr (fo_u cn d (cn d + 1)) cv (fo_u oo oc (cv (4 * d + x % 8))) _ _ _ _ _ _ _ _ _ _ _ _ _ (by omega) (by omega) (by omega) (by omega) (by omega) hds hs (by omega) (by omega) H (F1 N (Nat.le_refl _)) ?_ ?_ ?_)))⟩
        · intro k hk
          by_cases e : k = oc
          · subst e; rw [fo_us, pk_us]; exact ⟨q2, rfl⟩
          · rw [fo_un e, pk_un e]; exact O k (by omega)
        · exact B2
        · rw [← hgo]
          refine congrArg (fun st => fg_go ar (fg_row ar pat pl rc) (fg_res ar pat pl rc pos) n s st _) ?_
          show dn (fo_u oo oc (cv (4 * d + x % 8)) oc) :: fx_stk dn _ oc = _
          rw [fo_us]
          exact congrArg (List.cons (dn (cv (4 * d + x % 8)))) (fx_stk_c oc (fun i hi' => by rw [fo_un (by omega)]))
end
