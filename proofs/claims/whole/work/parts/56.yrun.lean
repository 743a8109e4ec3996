theorem fy_uni {ar : Nat → Nat} {tok : Nat → fg_T} {w q q' : Nat} (h : fy_rdy ar tok w q) (h' : fy_rdy ar tok w q') : q = q' := by
  have key : ∀ a b, fy_rdy ar tok w a → fy_rdy ar tok w b → ¬ a < b := by
    intro a b ha hb hlt
    rcases hb.2.2.2.2 a hlt with g | ⟨j, g1, g2⟩
    · exact ha.2.1 g
    · exact g2 (ha.2.2.2.1 j g1)
  have := key q q' h h'
  have := key q' q h' h
  omega
theorem fy_ex {ar : Nat → Nat} {c : Nat} {tok : Nat → fg_T} {w : Nat} : ∀ (rest : List fg_T) (st : List (List Nat)), ff_PF (fg_rt ar c) 1 (fe_sl tok 0 w) (st.reverse.map Sum.inl ++ rest) →
    (∃ q, fy_rdy ar tok w q) ∨ ∀ i, i < w → fg_V (tok i) := by
  intro rest
  induction rest with
  | nil =>
    intro st h
    rw [List.append_nil] at h
    obtain ⟨h1, L, h2, _⟩ := fy_done h
    right
    intro i hi
    have : i = 0 := by omega
    subst this
    exact ⟨L, h2⟩
  | cons t rest ih =>
    intro st h
    cases t with
    | inl L =>
      refine ih (L :: st) ?_
      rw [List.reverse_cons, List.map_append, List.append_assoc]
      exact h
    | inr t =>
      obtain ⟨q, _, hq, _⟩ := fy_ctx h (fun ⟨L, e⟩ => by cases e)
      exact Or.inl ⟨q, hq⟩
section
variable {ycc ydr ynd yln yal ygl yst ybl yhw yrn ywk : Int32} {yA yDk yDw yK yW yPl yRl yRc yHd yLf yRg ySz yLi ySk ySt yAr yGv yF yEn yPc yBd yWk yWw yOw yCt yOz yOp yKn : Nat → Int32}
variable {xp xe xo : Nat → Int32}
theorem y_rl {post : Int32 → SY → Prop} {ar rc pl : Nat → Nat} {pat : Nat → Nat → Nat} {pre pos : Nat → List Nat} {c : Nat}
    (hc : c ≤ 6) (ha : ∀ i, ar i ≤ 2) (hrc : ∀ f, rc f ≤ 5) (hR : fx_rows ar c rc pl pat pre pos xp xe xo yRl yK yW) {R : Nat × Nat × Nat × List Nat}
    (hO : R.1 = 0 → R.2.2.2.length ≤ 40 → fe_full (fm_v ar (fv_g R.2.2.2)) R.2.2.2.length → (∀ i, i < R.2.2.2.length → fv_g R.2.2.2 i < c) →
      (∀ (nd ln hw wk : Int32) (HD LF RG SZ LI SK ST Ft D PC BD K WW O : Nat → Int32), post 0 (ycc, ydr, nd, ln, yal, nI R.2.2.2.length, nI R.2.1, -1, hw, yrn, wk, fo_n ar, yDk, yDw, yK, yW, fo_n pl, yRl, fo_n rc, HD, LF, RG, SZ, LI, SK, ST, yAr, fo_cp yGv (fo_n (fv_g R.2.2.2)) R.2.2.2.length, Ft, D, PC, BD, K, WW, O, yCt, yOz, yOp, yKn)))
    (hB : (1 ≤ R.1 ∧ R.1 ≤ 3) → (∀ (nd ln hw wk : Int32) (HD LF RG SZ LI SK ST Ft D PC BD K WW O : Nat → Int32), post (nI R.1) (ycc, ydr, nd, ln, yal, 0, nI R.2.1, nI (R.2.2.1 - 1), hw, yrn, wk, fo_n ar, yDk, yDw, yK, yW, fo_n pl, yRl, fo_n rc, HD, LF, RG, SZ, LI, SK, ST, yAr, yGv, Ft, D, PC, BD, K, WW, O, yCt, yOz, yOp, yKn))) :
    ∀ n s st rest w N g x3 (dn : Nat → List Nat) (ln bl : Int32) (HD LF RG SZ LI SK ST Ft D PC BD K WW O : Nat → Int32), 12 * (100 - s) + rest.length < n → n ≤ g → s ≤ 100 → w + 12 * (100 - s) ≤ 1202 →
      N + (12 * (100 - s) + rest.length) ≤ 1241 → ff_PF (fg_rt ar c) 1 (fe_sl (fy_tok dn K WW O) 0 w) (st.reverse.map Sum.inl ++ rest) → fy_H ar c N HD LF RG SZ dn → fy_W c N w K WW O →
      ((∃ q, fy_rdy ar (fy_tok dn K WW O) w q ∧ x3 = nI q) ∨ ((∀ i, i < w → fg_V (fy_tok dn K WW O i)) ∧ x3 = -1)) →
      fg_go ar (fg_row ar pat pl rc) (fg_res ar pat pl rc pos) n s st rest = R →
      wY_run_91 post (g + 1) x3 ycc ydr (nI N) ln yal 0 (nI s) bl 0 yrn (nI w) (fo_n ar) yDk yDw yK yW (fo_n pl) yRl (fo_n rc) HD LF RG SZ LI SK ST yAr yGv Ft D PC BD K WW O yCt yOz yOp yKn := by
  intro n
  induction n with
  | zero => intro s st rest w N g x3 dn ln bl HD LF RG SZ LI SK ST Ft D PC BD K WW O h; omega
  | succ n ih =>
    intro s st rest w N g x3 dn ln bl HD LF RG SZ LI SK ST Ft D PC BD K WW O hn hg hs hw hN PF H W hx3 hgo
    cases rest with
    | nil =>
      rw [List.append_nil] at PF
      obtain ⟨w1, L, t0, est⟩ := fy_done PF
      subst w1
      subst est
      rw [fg_go_nil] at hgo
      have hv : fg_V (fy_tok dn K WW O 0) := ⟨L, t0⟩
      have e3 : x3 = -1 := by
        rcases hx3 with ⟨q, hq, _⟩ | ⟨_, e⟩
        · have := hq.1
          have q0 : q = 0 := by omega
          subst q0
          exact absurd hv hq.2.1
        · exact e
      subst e3
      obtain ⟨root, r1, r2⟩ : ∃ root, root < N ∧ WW 0 = nI root := by
        rcases W 0 (by omega) with ⟨_, m, a, b⟩ | ⟨k', v', o', a, b, d, e, _⟩
        · exact ⟨m, a, b⟩
        · rw [fy_tok_t a b d (by omega) (by omega) (by omega)] at t0; cases t0
      have ek : K 0 = 6 := fy_tok_V.mp hv
      have eL : dn root = L := by
        rw [fy_tok_v ek r2 (by omega)] at t0
        exact Sum.inl.inj t0
      refine br_t (by decide) (br_t rfl ?_)
      have HH := fy_HH H
      have h40 := fv_Hpos HH r1
      have hfl := fv_full HH r1
      have hcn := fv_con HH _ root (Nat.le_refl _) r1
      refine fo_ih (P := fun z => wpY_spell _ _ z) r2 ?_
      refine y_sp hc ha H (by omega) r1 (fun LI' SK' ST' b1 b2 => ⟨(dn root).length + 1, ?_⟩)
      have loop : ∀ d i B, i + d = (dn root).length → B = fo_cp yGv (fo_n (fv_g (dn root))) i →
          wY_run_186 post ycc ydr (nI N) (nI (dn root).length) yal (nI (dn root).length) (nI s) (-1) 0 yrn (nI 1) (d + 1) (nI i) (fo_n ar) yDk yDw yK yW (fo_n pl) yRl (fo_n rc) HD LF RG SZ LI' SK' ST' yAr B Ft D PC BD K WW O yCt yOz yOp yKn := by
        intro d
        induction d with
        | zero =>
          intro i B hi hB'
          subst hB'
          have e : i = (dn root).length := by omega
          rw [e]
          refine br_t (nI_le (Nat.le_refl _) (by omega)) ?_
          have eR : R = (0, s, 0, dn root) := by rw [← hgo, eL]; rfl
          subst eR
          exact hO rfl h40.2 hfl (fun i hi => hcn _ (fv_gmem hi)) _ _ _ _ _ _ _ _ _ _ _ _ _ _ _ _ _ _
        | succ d ih' =>
          intro i B hi hB'
          subst hB'
          refine br_f (nI_ge (by omega) (by omega)) ⟨vp_in_nI (by omega) (by decide), vp_in_nI (by omega) (by decide), nm_e (nm_r (nI_1 i) (ih' (i + 1) _ (by omega) ?_))⟩
          rw [nI_clamp (by omega), (b1 i (by omega)).2, ← fo_cpS]
          rfl
      exact loop (dn root).length 0 yGv (by omega) (fo_cp0 _ _).symm
    | cons t rest =>
      rw [List.length_cons] at hn hN
      cases t with
      | inl L =>
        rw [fg_go_val] at hgo
        refine ih s (L :: st) rest w N g x3 dn ln bl HD LF RG SZ LI SK ST Ft D PC BD K WW O (by omega) (by omega) hs hw (by omega) ?_ H W hx3 hgo
        rw [List.reverse_cons, List.map_append, List.append_assoc]
        exact PF
      | inr t =>
        obtain ⟨k, v, o⟩ := t
        obtain ⟨q, z, hq, tq, ok, ew, hk, hA, hcx⟩ := fy_ctx PF (fun ⟨L, e⟩ => by cases e)
        have e3 : x3 = nI q := by
          rcases hx3 with ⟨q', hq', e⟩ | ⟨hall, _⟩
          · rw [fy_uni hq hq']; exact e
          · exact absurd (hall q hq.1) hq.2.1
        subst e3
        have hqw := hq.1
        obtain ⟨w1, w2, w3⟩ : K q = nI k ∧ WW q = nI v ∧ O q = nI o := by
          rcases W q hqw with ⟨a, m, _, b⟩ | ⟨k', v', o', a, b, d, e, f⟩
          · exact absurd (fy_tok_V.mpr a) hq.2.1
          · rw [fy_tok_t a b d (by omega) (by omega) (by omega)] at tq
            have e' := Sum.inr.inj tq
            cases e'
            exact ⟨a, b, d⟩
        obtain ⟨g, rfl⟩ : ∃ g', g = g' + 1 := ⟨g - 1, by omega⟩
        -- an end that is no value
        have stop : ∀ code, (1 ≤ code ∧ code ≤ 3) → R.1 = code → ∀ (st' bl' : Int32), st' = nI R.2.1 → bl' = nI (R.2.2.1 - 1) → ∀ (nd ln wk : Int32) (HD LF RG SZ LI SK ST Ft D PC BD K WW O : Nat → Int32),
            wY_run_126 post (wY_run_91 post (g + 1)) (nI code) ycc ydr nd ln yal 0 st' bl' 0 yrn wk (fo_n ar) yDk yDw yK yW (fo_n pl) yRl (fo_n rc) HD LF RG SZ LI SK ST yAr yGv Ft D PC BD K WW O yCt yOz yOp yKn := by
          intro code hcode hRc st' bl' e1 e2 nd ln wk HD LF RG SZ LI SK ST Ft D PC BD K WW O
          have hne : ¬ nI code = 0 := nI_ne0 (by omega) (by omega)
          refine br_f hne (br_t (by decide) (br_f hne ?_))
          rw [e1, e2, ← hRc]
          exact hB (by omega) nd ln _ wk HD LF RG SZ LI SK ST Ft D PC BD K WW O
        -- on
        have cont : ∀ s' st' rest' w' N' (dn' : Nat → List Nat) (ln' bl' : Int32) (HD' LF' RG' SZ' LI' SK' ST' Ft' D' PC' BD' K' WW' O' : Nat → Int32), 12 * (100 - s') + rest'.length < n → s' ≤ 100 → w' + 12 * (100 - s') ≤ 1202 →
            N' + (12 * (100 - s') + rest'.length) ≤ 1241 → ff_PF (fg_rt ar c) 1 (fe_sl (fy_tok dn' K' WW' O') 0 w') (st'.reverse.map Sum.inl ++ rest') → fy_H ar c N' HD' LF' RG' SZ' dn' → fy_W c N' w' K' WW' O' →
            fg_go ar (fg_row ar pat pl rc) (fg_res ar pat pl rc pos) n s' st' rest' = R →
            wY_run_126 post (wY_run_91 post (g + 1)) 0 ycc ydr (nI N') ln' yal 0 (nI s') bl' 0 yrn (nI w') (fo_n ar) yDk yDw yK yW (fo_n pl) yRl (fo_n rc) HD' LF' RG' SZ' LI' SK' ST' yAr yGv Ft' D' PC' BD' K' WW' O' yCt yOz yOp yKn := by
          intro s' st' rest' w' N' dn' ln' bl' HD' LF' RG' SZ' LI' SK' ST' Ft' D' PC' BD' K' WW' O' a1 a2 a3 a4 a5 a6 a7 a8
          refine br_t rfl (y_rd (dn := dn') hc ha (by omega) (by omega) a7 (fun q' hq' => ?_) (fun hno hall => ?_) (fy_ex rest' st' a5))
          · exact ih s' st' rest' w' N' g _ dn' ln' bl' HD' LF' RG' SZ' LI' SK' ST' Ft' D' PC' BD' K' WW' O' a1 (by omega) a2 a3 a4 a5 a6 a7 (Or.inl ⟨q', hq', rfl⟩) a8
          · exact ih s' st' rest' w' N' g _ dn' ln' bl' HD' LF' RG' SZ' LI' SK' ST' Ft' D' PC' BD' K' WW' O' a1 (by omega) a2 a3 a4 a5 a6 a7 (Or.inr ⟨hall, rfl⟩) a8
        refine br_f (nI_pos (by omega)) (br_t rfl ⟨vp_in_nI (by omega) (by decide), ?_⟩)
        rw [nI_clamp (by omega), w1]
        obtain ⟨okk, oko⟩ := id ok
        rcases okk with ⟨k2, vc⟩ | ⟨k5, vf⟩
        · -- a constructor
          subst k2
          have hkk : fg_k ar (Sum.inr (2, v, o)) = ar v := rfl
          rw [hkk] at ew hk hA hcx
          refine br_f (by decide) ?_
          subst ew
          refine y_mk (A := (st.take (ar v)).reverse) hc ha vc oko H (by omega) W (by omega) w2 w3 hA (fun big nd HD' LF' RG' SZ' => ?_) (fun big HD' LF' RG' SZ' K' WW' O' H' W' e' => ?_)
          · rw [fg_go_big (show 40 < (fg_mk ar v st).length from big)] at hgo
            exact stop 3 (by omega) (by rw [← hgo]) _ _ (by rw [← hgo]) (by rw [← hgo]; rfl) _ _ _ _ _ _ _ _ _ _ _ _ _ _ _ _ _
          · rw [fg_go_con (show ¬ 40 < (fg_mk ar v st).length from big)] at hgo
            refine cont s (fg_mk ar v st :: st.drop (ar v)) rest (q + 1 + z) (N + 1) _ _ _ _ _ _ _ _ _ _ _ _ _ _ _ _ _ (by omega) hs (by omega) (by omega) ?_ H' W' hgo
            rw [e']
            have := hcx [Sum.inl (fg_mk ar v st)] [Sum.inl (fg_mk ar v st)] (ff_leaf ⟨rfl, rfl, trivial⟩)
            rw [List.reverse_cons, List.map_append, List.append_assoc]
            exact this
        · -- a call
          subst k5
          have hkk : fg_k ar (Sum.inr (5, v, o)) = 1 := rfl
          rw [hkk] at ew hk hA hcx
          refine br_t rfl ?_
          cases st with
          | nil => exact absurd hk (by decide)
          | cons L st =>
            have t1 : fy_tok dn K WW O (q + 1) = Sum.inl L := (List.cons.inj (show [fy_tok dn K WW O (q + 1)] = [Sum.inl L] from hA)).1
            have ew' : w = q + 2 + z := by omega
            subst ew'
            obtain ⟨root, r1, r2, r3⟩ : ∃ root, root < N ∧ WW (q + 1) = nI root ∧ dn root = L := by
              rcases W (q + 1) (by omega) with ⟨a, m, b, d⟩ | ⟨k', v', o', a, b, d, e, _⟩
              · rw [fy_tok_v a d (by omega)] at t1
                exact ⟨m, b, d, Sum.inl.inj t1⟩
              · rw [fy_tok_t a b d (by omega) (by omega) (by omega)] at t1; cases t1
            refine y_cl hc ha vf hrc hR H (by omega) W (by omega) hs w2 r1 r2 (fun z100 => ?_) (fun z100 hrow ln' LI' SK' ST' D' Ft' => ?_) (fun z100 hrow w' ln' LI' SK' ST' D' Ft' PC' BD' K' WW' O' hw' W' e' => ?_)
            · rw [fg_go_long z100] at hgo
              exact stop 2 (by omega) (by rw [← hgo]) _ _ (by rw [← hgo]) (by rw [← hgo]; rfl) _ _ _ _ _ _ _ _ _ _ _ _ _ _ _ _ _
            · rw [r3] at hrow
              rw [fg_go_stuck z100 (show fg_row ar pat pl rc v L = 0 from hrow)] at hgo
              exact stop 1 (by omega) (by rw [← hgo]) _ _ (by rw [← hgo]) (by rw [← hgo]; rfl) _ _ _ _ _ _ _ _ _ _ _ _ _ _ _ _ _
            · rw [r3] at hrow e'
              rw [fg_go_call z100 (show fg_row ar pat pl rc v L ≠ 0 from hrow)] at hgo
              have hwle := fm_row_le ar pat pl rc v (fv_g L) L.length
              have hrv := hrc v
              have hwn : fm_row ar pat pl rc v (fv_g L) L.length ≠ 0 := hrow
              have hrow2 := hR v (fm_row ar pat pl rc v (fv_g L) L.length - 1) vf (by omega)
              have hll : (fg_res ar pat pl rc pos v L).length ≤ 12 := by
                have e1 := (ff_len hrow2.2.2.2.2.1).1
                have e2 := hrow2.2.2.2.2.2.1
                unfold fg_res
                rw [List.length_map]
                show (pos (5 * v + (fm_row ar pat pl rc v (fv_g L) L.length - 1))).length ≤ 12
                omega
              refine cont (s + 1) st (fg_res ar pat pl rc pos v L ++ rest) w' N dn ln' _ _ _ _ _ LI' SK' ST' Ft' D' PC' BD' K' WW' O' ?_ (by omega) (by omega) ?_ ?_ H W' hgo
              · rw [List.length_append]; omega
              · rw [List.length_append]; omega
              · rw [e']
                exact hcx _ _ (fg_PF L vf hrow2.2.2.2.2.1)
end
