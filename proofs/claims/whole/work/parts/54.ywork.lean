/-- where the places stand -/
def fy_PL (pe E : Nat → Nat) (PC : Nat → Int32) : Nat → Nat → Nat → Prop
  | 0, _, _ => True
  | k + 1, i, p => PC i = nI p ∧ fy_PL pe E PC k (pe i) (E p)
theorem fy_PL_c {fit : Nat → Nat → Bool} {pe E : Nat → Nat} {PC PC' : Nat → Int32} {n m : Nat} (hpe : ∀ i, i < n → i < pe i) : ∀ k i p, (∀ q, i ≤ q → PC' q = PC q) →
    fb_CH fit pe E n m k i p → fy_PL pe E PC k i p → fy_PL pe E PC' k i p := by
  intro k
  induction k with
  | zero => intro i p _ _ h; trivial
  | succ k ih =>
    intro i p h hc hp
    obtain ⟨a, b, c, d⟩ := hc
    have := hpe i a
    exact ⟨by rw [h i (Nat.le_refl _)]; exact hp.1, ih _ _ (fun q hq => h q (by omega)) d hp.2⟩
theorem fo_by {i come gone : Nat} (h : gone ≤ i + come) : nI i + (nI come - nI gone) = nI (i + come - gone) := by
  rw [← pk_sub h, ← nI_add i come]
  generalize nI i = a
  generalize nI come = b
  generalize nI gone = d
  grind
theorem fo_cle {come gone : Nat} (h1 : come < 2 ^ 30) (h2 : gone < 2 ^ 30) (h : come ≤ gone) : nI come - nI gone ≤ 0 := by
  rw [Int32.le_iff_toInt_le, pk_sub_toInt h1 h2, show (0 : Int32).toInt = 0 from by decide]
  omega
section
variable {ycc ydr ynd yln yal ygl yst ybl yhw yrn ywk : Int32} {yA yDk yDw yK yW yPl yRl yRc yHd yLf yRg ySz yLi ySk ySt yAr yGv yF yEn yPc yBd yWk yWw yOw yCt yOz yOp yKn : Nat → Int32}
theorem y_bi {post : SY → Prop} {ar S T pl : Nat → Nat} {c m n r : Nat} (hc : c ≤ 6) (ha : ∀ i, ar i ≤ 2) (hr : r < 20) (hpl : pl r = n)
    (hS : fx_sub ar c m S yLi yEn) (hP : fy_pat ar c yK yW T n r) (hm : fm_F ar T n S m 0 0 = true)
    (hp : ∀ PC BD, (∀ v q, v < 4 → fb_w T (fe_pe (fm_o ar T) n) (fe_pe (fm_v ar S) m) n 12 0 0 (fun _ => none) v = some q → BD v = ySt q) → post (ycc, ydr, ynd, yln, yal, ygl, yst, ybl, yhw, yrn, ywk, fo_n ar, yDk, yDw, yK, yW, fo_n pl, yRl, yRc, yHd, yLf, yRg, ySz, yLi, ySk, ySt, yAr, yGv, yF, yEn, PC, BD, yWk, yWw, yOw, yCt, yOz, yOp, yKn)) :
    wpY_bind post (ycc, ydr, ynd, yln, yal, ygl, yst, ybl, yhw, yrn, ywk, fo_n ar, yDk, yDw, yK, yW, fo_n pl, yRl, yRc, yHd, yLf, yRg, ySz, yLi, ySk, ySt, yAr, yGv, yF, yEn, yPc, yBd, yWk, yWw, yOw, yCt, yOz, yOp, yKn) (nI r) := by
  obtain ⟨s1, s2, s3⟩ := hS
  have hP' := hP
  obtain ⟨p1, p2, p3⟩ := hP
  have hpe : ∀ i, i < n → i < fe_pe (fm_o ar T) n i := fun i hi => (fe_full_e p2 hi).1
  have loop : ∀ g i p k b PC BD, n ≤ i + g → i ≤ 12 → fb_CH (fm_F ar T n S m) (fe_pe (fm_o ar T) n) (fe_pe (fm_v ar S) m) n m k i p → fy_PL (fe_pe (fm_o ar T) n) (fe_pe (fm_v ar S) m) PC k i p →
      fb_w T (fe_pe (fm_o ar T) n) (fe_pe (fm_v ar S) m) n g i p b = fb_w T (fe_pe (fm_o ar T) n) (fe_pe (fm_v ar S) m) n 12 0 0 (fun _ => none) →
      (∀ v q, v < 4 → b v = some q → BD v = ySt q) →
      wY_bind_14 post (nI r) (nI (24 * r)) ycc ydr ynd yln yal ygl yst ybl yhw yrn ywk (g + 1) (nI i) (fo_n ar) yDk yDw yK yW (fo_n pl) yRl yRc yHd yLf yRg ySz yLi ySk ySt yAr yGv yF yEn PC BD yWk yWw yOw yCt yOz yOp yKn := by
    intro g
    induction g with
    | zero =>
      intro i p k b PC BD hg hi12 hch _ hw hb
      refine ⟨vp_in_nI hr (by decide), br_t ?_ (hp PC BD (fun v q hv hq => ?_))⟩
      · rw [nI_clamp (by omega)]
        show nI (pl r) ≤ nI i
        rw [hpl]; exact nI_le (by omega) (by omega)
      · rw [← hw] at hq; exact hb v q hv hq
    | succ g ih =>
      intro i p k b PC BD hg hi12 hch hPL hw hb
      refine ⟨vp_in_nI hr (by decide), ?_⟩
      rw [nI_clamp (by omega)]
      show (nI (pl r) ≤ nI i → _) ∧ (¬ nI (pl r) ≤ nI i → _)
      rw [hpl]
      refine pk_le n i (fun z => hp PC BD (fun v q hv hq => ?_)) (fun z => ?_)
      · rw [← hw, fb_w_out (by omega)] at hq; exact hb v q hv hq
      · cases k with
        | zero => have : i = n := hch
                  omega
        | succ k =>
          obtain ⟨c1, c2, c3, c4⟩ := id hch
          obtain ⟨t1, t2, t3, t4⟩ := p3 i z
          have h48 := fo_tk_le t1
          have ei := fe_full_e p2 z
          have ein : nI (24 * r) + nI i = nI (24 * r + i) := nI_add _ _
          have vin : vp_in (nI (24 * r) + nI i) 480 := by rw [ein]; exact vp_in_nI (by omega) (by decide)
          have eci : (nI (24 * r) + nI i).toNatClampNeg = 24 * r + i := by rw [ein]; exact nI_clamp (by omega)
          have v12 : vp_in (nI i) 12 := vp_in_nI (by omega) (by decide)
          have e_i : (nI i).toNatClampNeg = i := nI_clamp (by omega)
          refine ⟨vin, nm_r (e' := nI (T i / 8)) (by rw [eci, t3]) ?_⟩
          -- one that is no constructor: on to its end
          have plain : ∀ BD' b', T i / 8 ≠ 2 → fb_w T (fe_pe (fm_o ar T) n) (fe_pe (fm_v ar S) m) n g (fe_pe (fm_o ar T) n i) (fe_pe (fm_v ar S) m p) b' = fb_w T (fe_pe (fm_o ar T) n) (fe_pe (fm_v ar S) m) n 12 0 0 (fun _ => none) →
              (∀ v q, v < 4 → b' v = some q → BD' v = ySt q) →
              wY_bind_64 post (wY_bind_14 post (nI r) (nI (24 * r)) ycc ydr ynd yln yal ygl yst ybl yhw yrn ywk (g + 1)) (nI r) (nI (24 * r)) (nI i) (nI (T i / 8)) ycc ydr ynd yln yal ygl yst ybl yhw yrn ywk (fo_n ar) yDk yDw yK yW (fo_n pl) yRl yRc yHd yLf yRg ySz yLi ySk ySt yAr yGv yF yEn PC BD' yWk yWw yOw yCt yOz yOp yKn := by
            intro BD' b' k2 h1 h2
            have n2 : ¬ nI (T i / 8) = 2 := fun w => k2 ((nI_eq (b := 2) (by omega) (by decide)).mp w)
            have next := ih (fe_pe (fm_o ar T) n i) (fe_pe (fm_v ar S) m p) k b' PC BD' (by omega) (by omega) c4 hPL.2 h1 h2
            have skip : (T i / 8 = 3 ∨ T i / 8 = 4) → wY_bind_76 post (wY_bind_14 post (nI r) (nI (24 * r)) ycc ydr ynd yln yal ygl yst ybl yhw yrn ywk (g + 1)) (nI r) (nI (24 * r)) (nI i) (nI (T i / 8)) ycc ydr ynd yln yal ygl yst ybl yhw yrn ywk (fo_n ar) yDk yDw yK yW (fo_n pl) yRl yRc yHd yLf yRg ySz yLi ySk ySt yAr yGv yF yEn PC BD' yWk yWw yOw yCt yOz yOp yKn := by
              intro _
              unfold wY_bind_76
              rw [ein]
              refine y_pe (T := T) hc ha hr hP' z (nm_r (e' := nI (fe_pe (fm_o ar T) n i - 1)) ?_ (br_f n2 (nm_r (e' := nI (fe_pe (fm_o ar T) n i)) ?_ next)))
              · rw [pk_sub (by omega), fo_s1 (by omega)]
                exact congrArg nI (by omega)
              · rw [nI_1]; exact congrArg nI (by omega)
            refine pk_eq (T i / 8) 3 (fun k3 => skip (Or.inl k3)) (fun k3 => pk_eq (T i / 8) 4 (fun k4 => skip (Or.inr k4)) (fun k4 => br_f n2 (nm_r (e' := nI (fe_pe (fm_o ar T) n i)) ?_ next)))
            rw [nI_1, fe_pe_c0 (fm_o ar T) z (fo_op01 (by omega))]
          refine pk_eq (T i / 8) 1 (fun k1 => ⟨vin, v12, ?_⟩) (fun k1 => ?_)
          · have v4 := fp_v4 t1 k1
            rw [e_i, hPL.1, eci, t4 (Or.inl k1)]
            refine ⟨vp_in_nI (by omega) (by decide), vp_in_nI v4 (by decide), nm_r (e' := upd BD (T i % 8) (ySt p)) (by rw [nI_clamp (by omega), nI_clamp (by omega)]) (plain _ (fun v => if v = T i % 8 then some p else b v) (by omega) ?_ ?_)⟩
            · rw [← hw, fb_w_var z k1]
            · intro v q hv hq
              by_cases e : v = T i % 8
              · rw [if_pos e] at hq
                have : p = q := Option.some.inj hq
                rw [e, pk_us, this]
              · rw [if_neg e] at hq
                rw [pk_un e]; exact hb v q hv hq
          · by_cases k2 : T i / 8 = 2
            · obtain ⟨q1, q2, q3, q4⟩ := fb_con p2 s2 ha hch k2
              have h2 := ha (T i % 8)
              have t1' := t1
              unfold fo_tk at t1'
              have vc : T i % 8 < c := by omega
              have n3 : ¬ nI (T i / 8) = 3 := fun w => by have := (nI_eq (b := 3) (by omega) (by decide)).mp w; omega
              have n4 : ¬ nI (T i / 8) = 4 := fun w => by have := (nI_eq (b := 4) (by omega) (by decide)).mp w; omega
              have next := fun PC' hpl' => ih (i + 1) (p + 1) (ar (T i % 8) + k) b PC' BD (by omega) (by omega) q2 hpl' (by rw [← hw, fb_w_con z k2]) hb
              have epv := fe_full_e s2 c2
              have eo : fm_o ar T i = ar (T i % 8) := fo_op2 k2
              have ev : fm_v ar S p = ar (T i % 8) := by show ar (S p) = _; rw [q1]
              refine br_f n3 (br_f n4 (br_t (congrArg nI k2) ⟨vin, ?_⟩))
              rw [eci, t4 (Or.inr k2)]
              refine ⟨vp_in_nI (by omega) (by decide), nm_r (e' := nI (ar (T i % 8))) (by rw [nI_clamp (by omega)]; rfl) ?_⟩
              by_cases z0 : ar (T i % 8) = 0
              · refine pk_le (ar (T i % 8)) 0 (fun _ => pk_le (ar (T i % 8)) 1 (fun _ => nm_r (nI_1 i) (next PC ?_)) (fun q => by omega)) (fun q => by omega)
                have := hPL.2
                rw [fe_pe_c0 _ z (eo.trans z0), fe_pe_c0 _ c2 (ev.trans z0)] at this
                rw [z0, Nat.zero_add]; exact this
              · obtain ⟨i1, m1⟩ := q3 (by omega)
                refine pk_le (ar (T i % 8)) 0 (fun q => by omega) (fun _ => ⟨v12, by rw [nI_1]; exact vp_in_nI (by omega) (by decide), nm_r (e' := upd PC (i + 1) (nI (p + 1))) (by rw [nI_1, nI_clamp (by omega), e_i, hPL.1, nI_1]) ?_⟩)
                by_cases z1 : ar (T i % 8) = 1
                · refine pk_le (ar (T i % 8)) 1 (fun _ => nm_r (nI_1 i) (next _ ?_)) (fun q => by omega)
                  obtain ⟨_, d1⟩ := fe_pe_c1 _ z ei.2 p2.2.1 (eo.trans z1)
                  obtain ⟨_, d2⟩ := fe_pe_c1 _ c2 epv.2 s2.2.1 (ev.trans z1)
                  have i2 := fe_full_e p2 i1
                  have tl := hPL.2
                  rw [d1, d2] at tl c4
                  rw [z1, show 1 + k = k + 1 by omega]
                  exact ⟨pk_us, fy_PL_c hpe k _ _ (fun q hq => pk_un (by omega)) c4 tl⟩
                · have z2 : ar (T i % 8) = 2 := by omega
                  obtain ⟨d0, d1, d2, d3, d4⟩ := fe_pe_c2 _ z ei.2 p2.2.1 (eo.trans z2)
                  obtain ⟨g0, g1, g2, g3, g4⟩ := fe_pe_c2 _ c2 epv.2 s2.2.1 (ev.trans z2)
                  refine pk_le (ar (T i % 8)) 1 (fun q => by omega) (fun _ => ?_)
                  rw [ein, nI_1 (24 * r + i)]
                  refine y_pe (T := T) hc ha hr hP' (i := i + 1) i1 ?_
                  refine ⟨v12, ?_⟩
                  rw [e_i, pk_un (show i ≠ i + 1 by omega), hPL.1, nI_1 p, pk_sub (by omega)]
                  rw [show 24 * r + fe_pe (fm_o ar T) n (i + 1) - 24 * r = fe_pe (fm_o ar T) n (i + 1) by omega]
                  refine ⟨vp_in_nI (by omega) (by decide), vp_in_nI (by omega) (by decide), nm_r (e' := upd (upd PC (i + 1) (nI (p + 1))) (fe_pe (fm_o ar T) n (i + 1)) (nI (fe_pe (fm_v ar S) m (p + 1)))) ?_ (nm_r (nI_1 i) (next _ ?_))⟩
                  · rw [nI_clamp (by omega), nI_clamp (by omega), (s3 (p + 1) m1).2.2]
                  · have tl := hPL.2
                    rw [d3, g3] at tl c4
                    have i3 := fe_full_e p2 d2
                    rw [z2, show 2 + k = (k + 1) + 1 by omega]
                    exact ⟨by rw [pk_un (by omega), pk_us], pk_us, fy_PL_c hpe k _ _ (fun q hq => by rw [pk_un (by omega), pk_un (by omega)]) c4 tl⟩
            · exact plain BD b k2 (by rw [← hw, fb_w_oth z k2 k1]) hb
  refine nm_r (fo_24m r) (nm_e ⟨13, loop 12 0 0 1 (fun _ => none) _ yBd (by omega) (by omega) ⟨p2.1, s2.1, hm, p2.2.2⟩ ⟨pk_us, trivial⟩ rfl (fun v q _ h => by cases h)⟩)
/-- is a token ready -/
theorem y_rd46 {post J : Int32 → Prop} {i a : Nat} (ha : a ≤ 2) (hi : i < 1290) (h0 : (¬ ∀ j, j < a → yWk (i + 1 + j) = 6) → J (nI (i + 1))) (h1 : (∀ j, j < a → yWk (i + 1 + j) = 6) → post (nI i)) :
    ∀ d k b, k + d = a + 1 → 1 ≤ k → (b = true ↔ ∀ j, j + 1 < k → yWk (i + 1 + j) = 6) → wY_ready_46 post J (nI i) (nI a) ycc ydr ynd yln yal ygl yst ybl yhw yrn ywk yA yDk yDw yK yW yPl yRl yRc yHd yLf yRg ySz yLi ySk ySt yAr yGv yF yEn yPc yBd yWk yWw yOw yCt yOz yOp yKn (d + 1) (fo_b b) (nI k) := by
  intro d
  induction d with
  | zero =>
    intro k b hk _ hb
    have e : k = a + 1 := by omega
    subst e
    refine br_t (nI_lt (by omega) (by omega)) (fo_br (fun z => nm_r (nI_1 i) (h0 (fun g => ?_))) (fun z => h1 (fun j hj => hb.mp z j (by omega))))
    have := hb.mpr (fun j hj => g j (by omega))
    rw [z] at this; cases this
  | succ d ih =>
    intro k b hk h1k hb
    refine br_f (nI_nlt (by omega) (by omega)) (fo_br (fun z => nm_r (nI_1 k) (ih (k + 1) false (by omega) (by omega) ?_)) (fun z => ?_))
    · constructor
      · intro q; cases q
      · intro q
        have := hb.mpr (fun j hj => q j (by omega))
        rw [z] at this; exact this
    · rw [nI_add]
      refine ⟨vp_in_nI (by omega) (by decide), ?_⟩
      rw [nI_clamp (by omega)]
      refine br_c (fun w => nm_r (nI_1 k) (ih (k + 1) true (by omega) (by omega) ?_)) (fun w => nm_r (nI_1 k) (ih (k + 1) false (by omega) (by omega) ?_))
      · refine ⟨fun _ j hj => ?_, fun _ => rfl⟩
        by_cases e : j + 1 = k
        · rw [show i + 1 + j = i + k by omega]; exact w
        · exact hb.mp z j (by omega)
      · constructor
        · intro q; cases q
        · intro q
          refine absurd ?_ w
          have := q (k - 1) (by omega)
          rw [show i + 1 + (k - 1) = i + k by omega] at this
          exact this
theorem y_rd {post : Int32 → Prop} {ar : Nat → Nat} {c N w : Nat} {dn : Nat → List Nat} (hc : c ≤ 6) (ha : ∀ i, ar i ≤ 2) (hw : w ≤ 1290) (hN : N < 2 ^ 31) (W : fy_W c N w yWk yWw yOw)
    (h1 : ∀ q, fy_rdy ar (fy_tok dn yWk yWw yOw) w q → post (nI q)) (h0 : (∀ q, ¬ fy_rdy ar (fy_tok dn yWk yWw yOw) w q) → (∀ i, i < w → fg_V (fy_tok dn yWk yWw yOw i)) → post (-1))
    (hx : (∃ q, fy_rdy ar (fy_tok dn yWk yWw yOw) w q) ∨ ∀ i, i < w → fg_V (fy_tok dn yWk yWw yOw i)) : wpY_ready post (ycc, ydr, ynd, yln, yal, ygl, yst, ybl, yhw, yrn, nI w, fo_n ar, yDk, yDw, yK, yW, yPl, yRl, yRc, yHd, yLf, yRg, ySz, yLi, ySk, ySt, yAr, yGv, yF, yEn, yPc, yBd, yWk, yWw, yOw, yCt, yOz, yOp, yKn) := by
  have step : ∀ (J : Int32 → Prop) i, i < w → ¬ fg_V (fy_tok dn yWk yWw yOw i) → ((¬ ∀ j, j < fg_k ar (fy_tok dn yWk yWw yOw i) → fg_V (fy_tok dn yWk yWw yOw (i + 1 + j))) → J (nI (i + 1))) →
      ((∀ j, j < fg_k ar (fy_tok dn yWk yWw yOw i) → fg_V (fy_tok dn yWk yWw yOw (i + 1 + j))) → post (nI i)) →
      wpY_operands (fun r_6 => ∃ n46 : Nat, wY_ready_46 post J (nI i) r_6 ycc ydr ynd yln yal ygl yst ybl yhw yrn (nI w) (fo_n ar) yDk yDw yK yW yPl yRl yRc yHd yLf yRg ySz yLi ySk ySt yAr yGv yF yEn yPc yBd yWk yWw yOw yCt yOz yOp yKn n46 1 1) (ycc, ydr, ynd, yln, yal, ygl, yst, ybl, yhw, yrn, nI w, fo_n ar, yDk, yDw, yK, yW, yPl, yRl, yRc, yHd, yLf, yRg, ySz, yLi, ySk, ySt, yAr, yGv, yF, yEn, yPc, yBd, yWk, yWw, yOw, yCt, yOz, yOp, yKn) (yWk i) (yWw i) := by
    intro J i hi hv hj hpost
    rcases W i hi with ⟨a, _⟩ | ⟨k', v', o', a, b, d, e, f⟩
    · exact absurd (fy_tok_V.mpr a) hv
    · have etok : fy_tok dn yWk yWw yOw i = Sum.inr (k', v', o') := fy_tok_t a b d (by omega) (by omega) (by omega)
      rw [etok] at hj hpost
      have go : ∀ x : Nat, x = fg_k ar (Sum.inr (k', v', o')) → x ≤ 2 → ∃ n46 : Nat, wY_ready_46 post J (nI i) (nI x) ycc ydr ynd yln yal ygl yst ybl yhw yrn (nI w) (fo_n ar) yDk yDw yK yW yPl yRl yRc yHd yLf yRg ySz yLi ySk ySt yAr yGv yF yEn yPc yBd yWk yWw yOw yCt yOz yOp yKn n46 1 1 := by
        intro x hx2 hx3
        refine ⟨x + 1, y_rd46 hx3 (by omega) (fun g => hj (fun g2 => g (fun j hj2 => ?_))) (fun g => hpost (fun j hj2 => fy_tok_V.mpr (g j (by omega)))) x 1 true (by omega) (by omega) ⟨fun _ j hj2 => by omega, fun _ => rfl⟩⟩
        exact fy_tok_V.mp (g2 j (by omega))
      rw [a, b]
      rcases e with ⟨e1, e2⟩ | ⟨e1, e2⟩
      · subst e1
        refine br_t rfl ⟨vp_in_nI (by omega) (by decide), ?_⟩
        rw [nI_clamp (by omega)]
        exact go (ar v') rfl (ha v')
      · subst e1
        exact br_f (by decide) (br_f (by decide) (br_f (by decide) (br_t rfl (go 1 rfl (by omega)))))
  rcases hx with ⟨q, hq⟩ | hall
  · obtain ⟨q1, q2, q3, q4, q5⟩ := id hq
    have loop : ∀ d i, i + d = q → wY_ready_2 post ycc ydr ynd yln yal ygl yst ybl yhw yrn (nI w) (fo_n ar) yDk yDw yK yW yPl yRl yRc yHd yLf yRg ySz yLi ySk ySt yAr yGv yF yEn yPc yBd yWk yWw yOw yCt yOz yOp yKn (d + 1) (nI i) := by
      intro d
      induction d with
      | zero =>
        intro i hi
        have e : i = q := by omega
        subst e
        refine br_f (nI_ge (by omega) (by omega)) ⟨vp_in_nI (by omega) (by decide), ?_⟩
        rw [nI_clamp (by omega)]
        exact br_f (fun z => q2 (fy_tok_V.mpr z)) ⟨vp_in_nI (by omega) (by decide), vp_in_nI (by omega) (by decide), step _ i (by omega) q2 (fun g => absurd q4 g) (fun _ => h1 i hq)⟩
      | succ d ih =>
        intro i hi
        refine br_f (nI_ge (by omega) (by omega)) ⟨vp_in_nI (by omega) (by decide), ?_⟩
        rw [nI_clamp (by omega)]
        refine br_c (fun z => nm_r (nI_1 i) (ih (i + 1) (by omega))) (fun z => ⟨vp_in_nI (by omega) (by decide), vp_in_nI (by omega) (by decide), step _ i (by omega) (fun g => z (fy_tok_V.mp g)) (fun _ => ih (i + 1) (by omega)) (fun g => ?_)⟩)
        rcases q5 i (by omega) with g2 | ⟨j, g2, g3⟩
        · exact absurd (fy_tok_V.mp g2) z
        · exact absurd (g j g2) g3
    exact ⟨q + 1, loop q 0 (by omega)⟩
  · have none : ∀ q, ¬ fy_rdy ar (fy_tok dn yWk yWw yOw) w q := fun q h => h.2.1 (hall q h.1)
    have loop : ∀ d i, i + d = w → wY_ready_2 post ycc ydr ynd yln yal ygl yst ybl yhw yrn (nI w) (fo_n ar) yDk yDw yK yW yPl yRl yRc yHd yLf yRg ySz yLi ySk ySt yAr yGv yF yEn yPc yBd yWk yWw yOw yCt yOz yOp yKn (d + 1) (nI i) := by
      intro d
      induction d with
      | zero => intro i hi; exact br_t (nI_le (by omega) (by omega)) (h0 none hall)
      | succ d ih =>
        intro i hi
        refine br_f (nI_ge (by omega) (by omega)) ⟨vp_in_nI (by omega) (by decide), ?_⟩
        rw [nI_clamp (by omega)]
        exact br_t (fy_tok_V.mp (hall i (by omega))) (nm_r (nI_1 i) (ih (i + 1) (by omega)))
    exact ⟨w + 1, loop w 0 (by omega)⟩
theorem y_sh {post : SY → Prop} {a b : Nat} (h1 : a < 1300) (h2 : b < 1300) (hp : post (ycc, ydr, ynd, yln, yal, ygl, yst, ybl, yhw, yrn, ywk, yA, yDk, yDw, yK, yW, yPl, yRl, yRc, yHd, yLf, yRg, ySz, yLi, ySk, ySt, yAr, yGv, yF, yEn, yPc, yBd, upd yWk b (yWk a), upd yWw b (yWw a), upd yOw b (yOw a), yCt, yOz, yOp, yKn)) : wpY_shift post (ycc, ydr, ynd, yln, yal, ygl, yst, ybl, yhw, yrn, ywk, yA, yDk, yDw, yK, yW, yPl, yRl, yRc, yHd, yLf, yRg, ySz, yLi, ySk, ySt, yAr, yGv, yF, yEn, yPc, yBd, yWk, yWw, yOw, yCt, yOz, yOp, yKn) (nI a) (nI b) := by
  have ea : (nI a).toNatClampNeg = a := nI_clamp (by omega)
  have eb : (nI b).toNatClampNeg = b := nI_clamp (by omega)
  have va : vp_in (nI a) 1300 := vp_in_nI h1 (by decide)
  have vb : vp_in (nI b) 1300 := vp_in_nI h2 (by decide)
  exact ⟨va, vb, nm_r (by rw [ea, eb]) ⟨va, vb, nm_r (by rw [ea, eb]) ⟨va, vb, nm_r (by rw [ea, eb]) hp⟩⟩⟩
theorem y_pt {post : SY → Prop} {a : Nat} {k v o : Int32} (h1 : a < 1300) (hp : post (ycc, ydr, ynd, yln, yal, ygl, yst, ybl, yhw, yrn, ywk, yA, yDk, yDw, yK, yW, yPl, yRl, yRc, yHd, yLf, yRg, ySz, yLi, ySk, ySt, yAr, yGv, yF, yEn, yPc, yBd, upd yWk a k, upd yWw a v, upd yOw a o, yCt, yOz, yOp, yKn)) : wpY_put post (ycc, ydr, ynd, yln, yal, ygl, yst, ybl, yhw, yrn, ywk, yA, yDk, yDw, yK, yW, yPl, yRl, yRc, yHd, yLf, yRg, ySz, yLi, ySk, ySt, yAr, yGv, yF, yEn, yPc, yBd, yWk, yWw, yOw, yCt, yOz, yOp, yKn) (nI a) k v o := by
  have ea : (nI a).toNatClampNeg = a := nI_clamp (by omega)
  have va : vp_in (nI a) 1300 := vp_in_nI h1 (by decide)
  exact ⟨va, nm_r (by rw [ea]) ⟨va, nm_r (by rw [ea]) ⟨va, nm_r (by rw [ea]) hp⟩⟩⟩
/-- a piece of the work list is replaced -/
theorem y_rp {post : SY → Prop} {q gone come z : Nat} (hg : 1 ≤ gone) (hb : q + gone + z + come ≤ 1290)
    (hp : ∀ K W O, (∀ j, j < q → K j = yWk j ∧ W j = yWw j ∧ O j = yOw j) → (∀ j, j < z → K (q + come + j) = yWk (q + gone + j) ∧ W (q + come + j) = yWw (q + gone + j) ∧ O (q + come + j) = yOw (q + gone + j)) →
      post (ycc, ydr, ynd, yln, yal, ygl, yst, ybl, yhw, yrn, nI (q + come + z), yA, yDk, yDw, yK, yW, yPl, yRl, yRc, yHd, yLf, yRg, ySz, yLi, ySk, ySt, yAr, yGv, yF, yEn, yPc, yBd, K, W, O, yCt, yOz, yOp, yKn)) : wpY_replace post (ycc, ydr, ynd, yln, yal, ygl, yst, ybl, yhw, yrn, nI (q + gone + z), yA, yDk, yDw, yK, yW, yPl, yRl, yRc, yHd, yLf, yRg, ySz, yLi, ySk, ySt, yAr, yGv, yF, yEn, yPc, yBd, yWk, yWw, yOw, yCt, yOz, yOp, yKn) (nI q) (nI gone) (nI come) := by
  have eend : nI (q + gone + z) + (nI come - nI gone) = nI (q + come + z) := by
    rw [fo_by (by omega)]; exact congrArg nI (by omega)
  refine nm_e (br_c (fun c1 => ?_) (fun c1 => ?_))
  · have hle : come ≤ gone := by
      refine Classical.byContradiction fun g => ?_
      rw [pk_sub (by omega)] at c1
      exact nI_nle (by omega) (by omega) c1
    have loop : ∀ d i K W O, i + d = z → (∀ j, j < q → K j = yWk j ∧ W j = yWw j ∧ O j = yOw j) →
        (∀ j, j < i → K (q + come + j) = yWk (q + gone + j) ∧ W (q + come + j) = yWw (q + gone + j) ∧ O (q + come + j) = yOw (q + gone + j)) →
        (∀ j, i ≤ j → j < z → K (q + gone + j) = yWk (q + gone + j) ∧ W (q + gone + j) = yWw (q + gone + j) ∧ O (q + gone + j) = yOw (q + gone + j)) →
        wY_replace_51 post (nI come - nI gone) (d + 1) (nI (q + gone + i)) ycc ydr ynd yln yal ygl yst ybl yhw yrn (nI (q + gone + z)) yA yDk yDw yK yW yPl yRl yRc yHd yLf yRg ySz yLi ySk ySt yAr yGv yF yEn yPc yBd K W O yCt yOz yOp yKn := by
      intro d
      induction d with
      | zero =>
        intro i K W O hi a1 a2 a3
        have e : i = z := by omega
        subst e
        exact br_t (nI_le (Nat.le_refl _) (by omega)) (nm_r eend (hp K W O a1 a2))
      | succ d ih =>
        intro i K W O hi a1 a2 a3
        refine br_f (nI_ge (by omega) (by omega)) ?_
        rw [fo_by (by omega), show q + gone + i + come - gone = q + come + i by omega]
        obtain ⟨s1, s2, s3⟩ := a3 i (Nat.le_refl _) (by omega)
        refine y_sh (by omega) (by omega) (nm_r (nI_1 _) (ih (i + 1) _ _ _ (by omega) ?_ ?_ ?_))
        · intro j hj
          rw [pk_un (by omega), pk_un (by omega), pk_un (by omega)]; exact a1 j hj
        · intro j hj
          by_cases e : j = i
          · subst e; rw [pk_us, pk_us, pk_us]; exact ⟨s1, s2, s3⟩
          · rw [pk_un (by omega), pk_un (by omega), pk_un (by omega)]; exact a2 j (by omega)
        · intro j h1 h2
          rw [pk_un (by omega), pk_un (by omega), pk_un (by omega)]; exact a3 j (by omega) h2
    exact nm_r (nI_add _ _) ⟨z + 1, loop z 0 yWk yWw yOw (by omega) (fun j _ => ⟨rfl, rfl, rfl⟩) (fun j hj => by omega) (fun j _ _ => ⟨rfl, rfl, rfl⟩)⟩
  · have hlt : gone < come := by
      refine Classical.byContradiction fun g => c1 (fo_cle (by omega) (by omega) (by omega))
    have loop : ∀ i K W O, i ≤ z → (∀ j, j < q → K j = yWk j ∧ W j = yWw j ∧ O j = yOw j) →
        (∀ j, i ≤ j → j < z → K (q + come + j) = yWk (q + gone + j) ∧ W (q + come + j) = yWw (q + gone + j) ∧ O (q + come + j) = yOw (q + gone + j)) →
        (∀ j, j < i → K (q + gone + j) = yWk (q + gone + j) ∧ W (q + gone + j) = yWw (q + gone + j) ∧ O (q + gone + j) = yOw (q + gone + j)) →
        wY_replace_18 post (nI q) (nI gone) (nI come - nI gone) (i + 1) (nI (q + gone + i) + (-1)) ycc ydr ynd yln yal ygl yst ybl yhw yrn (nI (q + gone + z)) yA yDk yDw yK yW yPl yRl yRc yHd yLf yRg ySz yLi ySk ySt yAr yGv yF yEn yPc yBd K W O yCt yOz yOp yKn := by
      intro i
      induction i with
      | zero =>
        intro K W O _ a1 a2 a3
        refine br_t ?_ (nm_r eend (hp K W O a1 (fun j hj => a2 j (by omega) hj)))
        rw [fo_p1 (by omega), nI_add]
        exact nI_lt (by omega) (by omega)
      | succ i ih =>
        intro K W O hi a1 a2 a3
        rw [show nI (q + gone + (i + 1)) + (-1) = nI (q + gone + i) from pk_m1 _]
        refine br_f (by rw [nI_add]; exact nI_nlt (by omega) (by omega)) ?_
        rw [fo_by (by omega), show q + gone + i + come - gone = q + come + i by omega]
        obtain ⟨s1, s2, s3⟩ := a3 i (by omega)
        refine y_sh (by omega) (by omega) (nm_e (ih _ _ _ (by omega) ?_ ?_ ?_))
        · intro j hj
          rw [pk_un (by omega), pk_un (by omega), pk_un (by omega)]; exact a1 j hj
        · intro j h1 h2
          by_cases e : j = i
          · subst e; rw [pk_us, pk_us, pk_us]; exact ⟨s1, s2, s3⟩
          · rw [pk_un (by omega), pk_un (by omega), pk_un (by omega)]; exact a2 j (by omega) h2
        · intro j hj
          rw [pk_un (by omega), pk_un (by omega), pk_un (by omega)]; exact a3 j (by omega)
    exact nm_r (e' := nI (q + gone + z) + (-1)) (Int32.sub_eq_add_neg _ _) ⟨z + 1, loop z yWk yWw yOw (Nat.le_refl _) (fun j _ => ⟨rfl, rfl, rfl⟩) (fun j h1 h2 => by omega) (fun j _ => ⟨rfl, rfl, rfl⟩)⟩
end
