section
variable {ycc ydr ynd yln yal ygl yst ybl yhw yrn ywk : Int32} {yA yDk yDw yK yW yPl yRl yRc yHd yLf yRg ySz yLi ySk ySt yAr yGv yF yEn yPc yBd yWk yWw yOw yCt yOz yOp yKn : Nat → Int32}
variable {xp xe xo : Nat → Int32}
/-- a call of the reference -/
theorem y_cl {post : Int32 → SY → Prop} {ar rc pl : Nat → Nat} {pat : Nat → Nat → Nat} {pre pos : Nat → List Nat} {c f N q z s root : Nat} {dn : Nat → List Nat}
    (hc : c ≤ 6) (ha : ∀ i, ar i ≤ 2) (hf : f < 4) (hrc : ∀ f, rc f ≤ 5) (hR : fx_rows ar c rc pl pat pre pos xp xe xo yRl yK yW)
    (H : fy_H ar c N yHd yLf yRg ySz dn) (hN : N ≤ 1300) (W : fy_W c N (q + 2 + z) yWk yWw yOw) (hb : q + 2 + z ≤ 1270) (hs : s ≤ 100)
    (hw : yWw q = nI f) (hroot : root < N) (hw2 : yWw (q + 1) = nI root)
    (hL : s = 100 → post 2 (ycc, ydr, ynd, yln, yal, ygl, nI s, nI f, yhw, yrn, nI (q + 2 + z), fo_n ar, yDk, yDw, yK, yW, fo_n pl, yRl, fo_n rc, yHd, yLf, yRg, ySz, yLi, ySk, ySt, yAr, yGv, yF, yEn, yPc, yBd, yWk, yWw, yOw, yCt, yOz, yOp, yKn))
    (hS : s ≠ 100 → fg_row ar pat pl rc f (dn root) = 0 → ∀ ln LI SK ST D Ft, post 1 (ycc, ydr, ynd, ln, yal, ygl, nI (s + 1), nI f, yhw, yrn, nI (q + 2 + z), fo_n ar, yDk, yDw, yK, yW, fo_n pl, yRl, fo_n rc, yHd, yLf, yRg, ySz, LI, SK, ST, yAr, yGv, Ft, D, yPc, yBd, yWk, yWw, yOw, yCt, yOz, yOp, yKn))
    (hK : s ≠ 100 → fg_row ar pat pl rc f (dn root) ≠ 0 → ∀ w' ln LI SK ST D Ft PC BD K WW O, w' ≤ q + 12 + z → fy_W c N w' K WW O →
      fe_sl (fy_tok dn K WW O) 0 w' = fe_sl (fy_tok dn yWk yWw yOw) 0 q ++ (fg_res ar pat pl rc pre f (dn root) ++ fe_sl (fy_tok dn yWk yWw yOw) (q + 2) z) →
      post 0 (ycc, ydr, ynd, ln, yal, ygl, nI (s + 1), nI f, yhw, yrn, nI w', fo_n ar, yDk, yDw, yK, yW, fo_n pl, yRl, fo_n rc, yHd, yLf, yRg, ySz, LI, SK, ST, yAr, yGv, Ft, D, PC, BD, K, WW, O, yCt, yOz, yOp, yKn)) :
    wpY_call post (ycc, ydr, ynd, yln, yal, ygl, nI s, ybl, yhw, yrn, nI (q + 2 + z), fo_n ar, yDk, yDw, yK, yW, fo_n pl, yRl, fo_n rc, yHd, yLf, yRg, ySz, yLi, ySk, ySt, yAr, yGv, yF, yEn, yPc, yBd, yWk, yWw, yOw, yCt, yOz, yOp, yKn) (nI q) := by
  have HH := fy_HH H
  refine ⟨vp_in_nI (by omega) (by decide), nm_r (e' := nI f) (by rw [nI_clamp (by omega), hw]) (pk_eq s 100 (fun z => hL z) (fun z100 => nm_r (nI_1 s) ⟨by rw [nI_1]; exact vp_in_nI (by omega) (by decide), ?_⟩))⟩
  rw [nI_1 q, nI_clamp (by omega), hw2]
  have hlen := fv_Hpos HH hroot
  refine y_sp hc ha H hN hroot (fun LI SK ST b1 b2 => ?_)
  have hfull := fv_full HH hroot
  generalize hLL : dn root = L at *
  refine y_tk (pat := pat) (S := fv_g L) hc ha hf (hrc f) hlen.2 hfull b1 (fun i hi => fy_pat_of (hR f i hf hi)) (fun w D Ft _ => br_f (by decide) (hS z100 w _ LI SK ST D Ft)) (fun w D Ft fS => br_t ?_ ?_)
  · exact nI_pos' (by have := fm_row_le ar pat pl rc f (fv_g L) L.length; have := hrc f; omega)
  have hwle := fm_row_le ar pat pl rc f (fv_g L) L.length
  have hrf := hrc f
  have hit := fm_row_hit w
  have hK' := hK z100 w
  have eres : fg_res ar pat pl rc pre f L = (pre (5 * f + (fm_row ar pat pl rc f (fv_g L) L.length - 1))).map (fg_sb ar (pat (5 * f + (fm_row ar pat pl rc f (fv_g L) L.length - 1))) (pl (5 * f + (fm_row ar pat pl rc f (fv_g L) L.length - 1))) f L) := rfl
  rw [eres] at hK'
  have hrow := hR f (fm_row ar pat pl rc f (fv_g L) L.length - 1) hf (by omega)
  have hrl : fm_row ar pat pl rc f (fv_g L) L.length - 1 < rc f := by omega
  generalize hww : fm_row ar pat pl rc f (fv_g L) L.length - 1 = w' at *
  refine nm_r (e' := nI (5 * f + w')) (by rw [fo_5m, nI_add]) (y_bi (T := pat (5 * f + w')) (S := fv_g L) (n := pl (5 * f + w')) hc ha (by omega) rfl fS (fy_pat_of hrow) hit (fun PC BD hBD => ⟨vp_in_nI (by omega) (by decide), ?_⟩))
  have hlp := (ff_len hrow.2.2.2.2.1).1
  have h12 := hrow.2.2.2.2.2.1
  have e_rl : yRl (nI (5 * f + w')).toNatClampNeg = nI (pre (5 * f + w')).length := by rw [nI_clamp (by omega), hrow.2.2.2.2.2.2.1, ← hlp]
  rw [e_rl]
  have chain : fb_CH (fm_F ar (pat (5 * f + w')) (pl (5 * f + w')) (fv_g L) L.length) (fe_pe (fm_o ar (pat (5 * f + w'))) (pl (5 * f + w'))) (fe_pe (fm_v ar (fv_g L)) L.length) (pl (5 * f + w')) L.length 1 0 0 :=
    ⟨hrow.2.1.1, fS.2.1.1, hit, hrow.2.1.2.2⟩
  have toks : ∀ x, x ∈ pre (5 * f + w') → (x / 8 = 1 ∧ x % 8 < 4 ∧ ∃ j, j < pl (5 * f + w') ∧ pat (5 * f + w') j = x) ∨ (x / 8 = 2 ∧ x % 8 < c) ∨ (x / 8 = 5 ∧ x % 8 < 4) := by
    intro x hx
    obtain ⟨k, y, e, _, g⟩ := (ff_mem hrow.2.2.2.2.1).1 x hx
    exact g
  have var : ∀ x, x ∈ pre (5 * f + w') → x / 8 = 1 → x % 8 < 4 ∧ ∃ p n', fg_bd ar (pat (5 * f + w')) (pl (5 * f + w')) L (x % 8) = some p ∧ BD (x % 8) = nI n' ∧ n' < N ∧ dn n' = fv_sub ar (fv_g L) L.length p := by
    intro x hx h1
    rcases toks x hx with ⟨_, v4, j, hj, e⟩ | g | g
    · obtain ⟨p, hp⟩ := fb_w_all hrow.2.1 (fe_pe (fm_v ar (fv_g L)) L.length) hrow.2.2.2.1 (fun i hi => (hrow.2.2.1 i hi).2.1) 12 0 0 (fun _ => none) j (by have := hrow.1; omega) (Nat.zero_le _) hj (by rw [e]; exact h1)
      rw [e] at hp
      have hpm := fb_w_lt hrow.2.1 fS.2.1 ha 12 1 0 0 (fun _ => none) chain (fun v q h => by cases h) _ _ hp
      obtain ⟨n', g1, g2, g3⟩ := b2 p hpm
      exact ⟨v4, p, n', hp, by rw [hBD (x % 8) p v4 hp]; exact g1, g2, g3⟩
    · omega
    · omega
  generalize hPR : pre (5 * f + w') = PR at *
  refine y_rp (gone := 2) (come := PR.length) (z := z) (by omega) (by omega) (fun K0 W0 O0 c1 c2 => ?_)
  -- the new tokens
  have loop : ∀ d i K WW O, i + d = PR.length → (∀ j, (j < q ∨ q + PR.length ≤ j) → K j = K0 j ∧ WW j = W0 j ∧ O j = O0 j) →
      (∀ j, j < i → (K (q + j) = if fv_g PR j / 8 = 1 then 6 else nI (fv_g PR j / 8)) ∧ (WW (q + j) = if fv_g PR j / 8 = 1 then BD (fv_g PR j % 8) else nI (fv_g PR j % 8)) ∧ O (q + j) = nI f) →
      wY_call_86 post (nI q) (nI f) (nI (5 * f + w')) (d + 1) (nI i) ycc ydr ynd (nI L.length) yal ygl (nI (s + 1)) (nI f) yhw yrn (nI (q + PR.length + z)) (fo_n ar) yDk yDw yK yW (fo_n pl) yRl (fo_n rc) yHd yLf yRg ySz LI SK ST yAr yGv Ft D PC BD K WW O yCt yOz yOp yKn := by
    intro d
    induction d with
    | zero =>
      intro i K WW O hi d1 d2
      have e : i = PR.length := by omega
      subst e
      refine ⟨vp_in_nI (by omega) (by decide), br_t (by rw [e_rl]; exact nI_le (Nat.le_refl _) (by omega)) (hK' _ _ LI SK ST D Ft PC BD K WW O (by omega) ?_ ?_)⟩
      · intro j hj
        by_cases j1 : j < q
        · obtain ⟨u1, u2, u3⟩ := d1 j (Or.inl j1)
          obtain ⟨v1, v2, v3⟩ := c1 j j1
          rw [u1, u2, u3, v1, v2, v3]
          exact W j (by omega)
        · by_cases j2 : j < q + PR.length
          · obtain ⟨t, rfl⟩ : ∃ t, j = q + t := ⟨j - q, by omega⟩
            obtain ⟨u1, u2, u3⟩ := d2 t (by omega)
            have hm := fv_gmem (W := PR) (j := t) (by omega)
            by_cases k1 : fv_g PR t / 8 = 1
            · obtain ⟨v4, p, n', g1, g2, g3, g4⟩ := var _ hm k1
              rw [if_pos k1] at u1 u2
              exact Or.inl ⟨u1, n', g3, by rw [u2, g2]⟩
            · rw [if_neg k1] at u1 u2
              refine Or.inr ⟨_, _, f, u1, u2, u3, ?_, hf⟩
              rcases toks _ hm with g | g | g
              · exact absurd g.1 k1
              · exact Or.inl g
              · exact Or.inr g
          · obtain ⟨t, rfl⟩ : ∃ t, j = q + PR.length + t := ⟨j - (q + PR.length), by omega⟩
            obtain ⟨u1, u2, u3⟩ := d1 (q + PR.length + t) (Or.inr (by omega))
            obtain ⟨v1, v2, v3⟩ := c2 t (by omega)
            rw [u1, u2, u3, v1, v2, v3]
            exact W (q + 2 + t) (by omega)
      · rw [fy_repl (tok := fy_tok dn yWk yWw yOw) (nw := fun i => fg_sb ar (pat (5 * f + w')) (pl (5 * f + w')) f L (fv_g PR i)) (gone := 2) ?_ ?_ ?_]
        · refine congrArg (fe_sl (fy_tok dn yWk yWw yOw) 0 q ++ ·) (congrArg (· ++ _) ?_)
          rw [← fe_sl_map]
          refine congrArg (List.map _) ?_
          exact fv_gsl PR 0 [] (by rw [List.drop_zero, List.append_nil])
        · intro j hj
          obtain ⟨u1, u2, u3⟩ := d1 j (Or.inl hj)
          obtain ⟨v1, v2, v3⟩ := c1 j hj
          unfold fy_tok
          rw [u1, u2, u3, v1, v2, v3]
        · intro t ht
          obtain ⟨u1, u2, u3⟩ := d2 t ht
          have hm := fv_gmem (W := PR) (j := t) ht
          show _ = fg_sb ar (pat (5 * f + w')) (pl (5 * f + w')) f L (fv_g PR t)
          unfold fg_sb
          by_cases k1 : fv_g PR t / 8 = 1
          · obtain ⟨v4, p, n', g1, g2, g3, g4⟩ := var _ hm k1
            rw [if_pos k1] at u1 u2
            rw [if_pos k1, g1, fy_tok_v u1 (u2.trans g2) (by omega), g4]
            rfl
          · rw [if_neg k1] at u1 u2
            have := toks _ hm
            rw [if_neg k1, fy_tok_t u1 u2 u3 (by omega) (by omega) (by omega)]
        · intro t ht
          obtain ⟨u1, u2, u3⟩ := d1 (q + PR.length + t) (Or.inr (by omega))
          obtain ⟨v1, v2, v3⟩ := c2 t ht
          unfold fy_tok
          rw [u1, u2, u3, v1, v2, v3]
    | succ d ih =>
      intro i K WW O hi d1 d2
      have hm := fv_gmem (W := PR) (j := i) (by omega)
      have hk := toks _ hm
      obtain ⟨r1, r2⟩ := hrow.2.2.2.2.2.2.2.2 i (by omega)
      have ein : 24 * nI (5 * f + w') + 12 + nI i = nI (24 * (5 * f + w') + 12 + i) := by rw [fo_24m, show nI (24 * (5 * f + w')) + 12 = nI (24 * (5 * f + w') + 12) from nI_add _ 12, nI_add]
      refine ⟨vp_in_nI (by omega) (by decide), br_f (by rw [e_rl]; exact nI_ge (by omega) (by omega)) ?_⟩
      rw [ein]
      have vin : vp_in (nI (24 * (5 * f + w') + 12 + i)) 480 := vp_in_nI (by omega) (by decide)
      refine ⟨vin, nm_r (e' := nI (fv_g PR i / 8)) (by rw [nI_clamp (by omega), r1]) ⟨vin, nm_r (e' := nI (fv_g PR i % 8)) (by rw [nI_clamp (by omega), r2]) ?_⟩⟩
      have put : ∀ (v k : Int32), (k = if fv_g PR i / 8 = 1 then 6 else nI (fv_g PR i / 8)) → (v = if fv_g PR i / 8 = 1 then BD (fv_g PR i % 8) else nI (fv_g PR i % 8)) →
          wY_call_170 post (wY_call_86 post (nI q) (nI f) (nI (5 * f + w')) (d + 1)) (nI q) (nI f) (nI (5 * f + w')) (nI i) v k (nI q + nI i) ycc ydr ynd (nI L.length) yal ygl (nI (s + 1)) (nI f) yhw yrn (nI (q + PR.length + z)) (fo_n ar) yDk yDw yK yW (fo_n pl) yRl (fo_n rc) yHd yLf yRg ySz LI SK ST yAr yGv Ft D PC BD K WW O yCt yOz yOp yKn := by
        intro v k hk1 hv1
        unfold wY_call_170
        rw [nI_add]
        refine y_pt (by omega) (nm_r (nI_1 i) (ih (i + 1) _ _ _ (by omega) ?_ ?_))
        · intro j hj
          rw [pk_un (by omega), pk_un (by omega), pk_un (by omega)]; exact d1 j hj
        · intro j hj
          by_cases e : j = i
          · subst e; rw [pk_us, pk_us, pk_us]; exact ⟨hk1, hv1, rfl⟩
          · rw [pk_un (by omega), pk_un (by omega), pk_un (by omega)]; exact d2 j (by omega)
      refine pk_eq (fv_g PR i / 8) 1 (fun k1 => br_t (congrArg nI k1) ⟨vp_in_nI (by omega) (by decide), put _ 6 (by rw [if_pos k1]) ?_⟩) (fun k1 => br_f (fun g => k1 ((nI_eq (b := 1) (by omega) (by decide)).mp g)) (put _ _ (by rw [if_neg k1]) (by rw [if_neg k1])))
      rw [if_pos k1, nI_clamp (by omega)]
  exact ⟨PR.length + 1, loop PR.length 0 K0 W0 O0 (by omega) (fun j _ => ⟨rfl, rfl, rfl⟩) (fun j hj => by omega)⟩
/-- a value is made by the reference -/
theorem y_mk {post : Int32 → SY → Prop} {ar : Nat → Nat} {c N q z v o : Nat} {dn : Nat → List Nat} {A : List (List Nat)}
    (hc : c ≤ 6) (ha : ∀ i, ar i ≤ 2) (hv : v < c) (ho : o < 4) (H : fy_H ar c N yHd yLf yRg ySz dn) (hN : N < 1299) (W : fy_W c N (q + 1 + ar v + z) yWk yWw yOw) (hb : q + 1 + ar v + z ≤ 1270)
    (hw : yWw q = nI v) (how : yOw q = nI o) (hA : fe_sl (fy_tok dn yWk yWw yOw) (q + 1) (ar v) = A.map Sum.inl)
    (hB : 40 < (v :: A.flatten).length → ∀ nd HD LF RG SZ, post 3 (ycc, ydr, nd, yln, yal, ygl, yst, nI o, yhw, yrn, nI (q + 1 + ar v + z), fo_n ar, yDk, yDw, yK, yW, yPl, yRl, yRc, HD, LF, RG, SZ, yLi, ySk, ySt, yAr, yGv, yF, yEn, yPc, yBd, yWk, yWw, yOw, yCt, yOz, yOp, yKn))
    (hK : ¬ 40 < (v :: A.flatten).length → ∀ HD LF RG SZ K WW O, fy_H ar c (N + 1) HD LF RG SZ (fx_up dn N (v :: A.flatten)) → fy_W c (N + 1) (q + 1 + z) K WW O →
      fe_sl (fy_tok (fx_up dn N (v :: A.flatten)) K WW O) 0 (q + 1 + z) = fe_sl (fy_tok dn yWk yWw yOw) 0 q ++ ([Sum.inl (v :: A.flatten)] ++ fe_sl (fy_tok dn yWk yWw yOw) (q + 1 + ar v) z) →
      post 0 (ycc, ydr, nI (N + 1), yln, yal, ygl, yst, nI o, yhw, yrn, nI (q + 1 + z), fo_n ar, yDk, yDw, yK, yW, yPl, yRl, yRc, HD, LF, RG, SZ, yLi, ySk, ySt, yAr, yGv, yF, yEn, yPc, yBd, K, WW, O, yCt, yOz, yOp, yKn)) :
    wpY_make post (ycc, ydr, nI N, yln, yal, ygl, yst, ybl, yhw, yrn, nI (q + 1 + ar v + z), fo_n ar, yDk, yDw, yK, yW, yPl, yRl, yRc, yHd, yLf, yRg, ySz, yLi, ySk, ySt, yAr, yGv, yF, yEn, yPc, yBd, yWk, yWw, yOw, yCt, yOz, yOp, yKn) (nI q) := by
  have HH := fy_HH H
  have h2 := ha v
  have eq0 : (nI q).toNatClampNeg = q := nI_clamp (by omega)
  have vq : vp_in (nI q) 1300 := vp_in_nI (by omega) (by decide)
  -- the end, once the operands are known
  have fin : ∀ (l r : Nat) (xf xs : Int32), (xf = if 1 ≤ ar v then nI l else -1) → (xs = if ar v = 2 then nI r else -1) → (1 ≤ ar v → l < N) → (ar v = 2 → r < N) →
      ((ar v = 0 ∧ (v :: A.flatten) = [v]) ∨ (ar v = 1 ∧ l < N ∧ (v :: A.flatten) = v :: dn l) ∨ (ar v = 2 ∧ l < N ∧ r < N ∧ (v :: A.flatten) = v :: (dn l ++ dn r))) →
      wY_make_52 post (nI q) (nI (ar v)) xs xf (nI v) ycc ydr (nI N) yln yal ygl yst ybl yhw yrn (nI (q + 1 + ar v + z)) (fo_n ar) yDk yDw yK yW yPl yRl yRc yHd yLf yRg ySz yLi ySk ySt yAr yGv yF yEn yPc yBd yWk yWw yOw yCt yOz yOp yKn := by
    intro l r xf xs e1 e2 hl hr hsh
    have esz : 1 + (if 1 ≤ ar v then (dn l).length else 0) + (if ar v = 2 then (dn r).length else 0) = (v :: A.flatten).length := by
      rcases hsh with ⟨a, b⟩ | ⟨a, _, b⟩ | ⟨a, _, _, b⟩
      · rw [if_neg (by omega), if_neg (by omega), b]; rfl
      · rw [if_pos (by omega), if_neg (by omega), b, List.length_cons]; omega
      · rw [if_pos (by omega), if_pos a, b, List.length_cons, List.length_append]; omega
    have hsmall : (v :: A.flatten).length ≤ 81 := by
      rcases hsh with ⟨a, b⟩ | ⟨a, b0, b⟩ | ⟨a, b0, b1, b⟩
      · rw [b]; exact (by decide : 1 ≤ 81)
      · have := (fv_Hpos HH b0).2
        rw [b, List.length_cons]; omega
      · have := (fv_Hpos HH b0).2
        have := (fv_Hpos HH b1).2
        rw [b, List.length_cons, List.length_append]; omega
    unfold wY_make_52
    refine y_nd (ar := ar) (c := c) (dn := dn) (by omega) H h2 e1 e2 hl hr ?_
    rw [esz]
    refine ⟨vq, nm_r (e' := nI o) (by rw [eq0, how]) ⟨vp_in_nI (by omega) (by decide), ?_⟩⟩
    rw [nI_clamp (by omega), pk_us]
    refine pk_le (v :: A.flatten).length 40 (fun g => ?_) (fun g => hB (by omega) _ _ _ _ _)
    have H' := fy_H_new H e1 e2 ⟨hv, g, hsh⟩
    rw [show (1 : Int32) + nI (ar v) = nI (1 + ar v) from nI_add 1 _]
    have ew : q + 1 + ar v + z = q + (1 + ar v) + z := by omega
    rw [ew]
    refine y_rp (gone := 1 + ar v) (come := 1) (z := z) (by omega) (by omega) (fun K WW O c1 c2 => y_pt (by omega) ?_)
    refine hK (by omega) _ _ _ _ _ _ _ H' ?_ ?_
    · intro j hj
      by_cases j1 : j = q
      · subst j1; rw [pk_us, pk_us, pk_us]; exact Or.inl ⟨rfl, N, by omega, rfl⟩
      · rw [pk_un j1, pk_un j1, pk_un j1]
        by_cases j2 : j < q
        · obtain ⟨u1, u2, u3⟩ := c1 j j2
          rw [u1, u2, u3]
          exact fy_W_up W (by omega) j (by omega)
        · obtain ⟨t, rfl⟩ : ∃ t, j = q + 1 + t := ⟨j - (q + 1), by omega⟩
          obtain ⟨u1, u2, u3⟩ := c2 t (by omega)
          rw [u1, u2, u3]
          exact fy_W_up W (by omega) (q + (1 + ar v) + t) (by omega)
    · have hc0 := fy_tok_c W (dn' := fx_up dn N (v :: A.flatten)) (by omega) (fun q' hq' => fx_up_n hq')
      rw [fy_repl (tok := fy_tok dn yWk yWw yOw) (nw := fun _ => Sum.inl (v :: A.flatten)) (gone := 1 + ar v) ?_ ?_ ?_]
      · rw [← Nat.add_assoc]; rfl
      · intro j hj
        obtain ⟨u1, u2, u3⟩ := c1 j hj
        rw [← hc0 j (by omega)]
        unfold fy_tok
        rw [pk_un (by omega), pk_un (by omega), pk_un (by omega), u1, u2, u3]
      · intro t ht
        have : t = 0 := by omega
        subst this
        rw [Nat.add_zero, fy_tok_v pk_us pk_us (by omega), fx_up_s]
      · intro t ht
        obtain ⟨u1, u2, u3⟩ := c2 t ht
        rw [← hc0 (q + (1 + ar v) + t) (by omega)]
        unfold fy_tok
        rw [pk_un (by omega), pk_un (by omega), pk_un (by omega), u1, u2, u3]
  -- an operand
  have arg : ∀ j L, j < ar v → fy_tok dn yWk yWw yOw (q + 1 + j) = Sum.inl L → ∃ n, n < N ∧ yWw (q + 1 + j) = nI n ∧ dn n = L := by
    intro j L hj e
    rcases W (q + 1 + j) (by omega) with ⟨a, n, b, d⟩ | ⟨k', v', o', a, b, d, g, _⟩
    · rw [fy_tok_v a d (by omega)] at e
      exact ⟨n, b, d, Sum.inl.inj e⟩
    · rw [fy_tok_t a b d (by omega) (by omega) (by omega)] at e
      cases e
  refine ⟨vq, ?_⟩
  rw [eq0, hw]
  refine ⟨vp_in_nI (by omega) (by decide), nm_r (e' := nI (ar v)) (by rw [nI_clamp (by omega)]; rfl) ⟨vq, ?_⟩⟩
  by_cases z0 : ar v = 0
  · refine pk_le (ar v) 0 (fun _ => pk_le (ar v) 1 (fun _ => fin 0 0 (-1) (-1) (by rw [if_neg (by omega)]) (by rw [if_neg (by omega)]) (fun g => by omega) (fun g => by omega) (Or.inl ⟨z0, ?_⟩)) (fun g => by omega)) (fun g => by omega)
    rw [z0] at hA
    have : A = [] := by
      cases A with
      | nil => rfl
      | cons a A => exact absurd (congrArg List.length hA) (by rw [fe_sl_len, List.length_map, List.length_cons]; omega)
    rw [this]; rfl
  · by_cases z1 : ar v = 1
    · rw [z1] at hA
      cases A with
      | nil => exact absurd (congrArg List.length hA) (by rw [fe_sl_len]; decide)
      | cons a A =>
        have hA' : [fy_tok dn yWk yWw yOw (q + 1)] = Sum.inl a :: A.map Sum.inl := hA
        obtain ⟨i1, i2⟩ := List.cons.inj hA'
        have hAn : A = [] := by
          cases A with
          | nil => rfl
          | cons _ _ => cases i2
        subst hAn
        obtain ⟨n, n1, n2, n3⟩ := arg 0 a (by omega) i1
        rw [Nat.add_zero] at n2
        refine pk_le (ar v) 0 (fun g => by omega) (fun _ => ⟨by rw [nI_1]; exact vp_in_nI (by omega) (by decide), ?_⟩)
        rw [nI_1, nI_clamp (by omega), n2]
        refine pk_le (ar v) 1 (fun _ => fin n 0 _ (-1) (by rw [if_pos (by omega)]) (by rw [if_neg (by omega)]) (fun _ => n1) (fun g => by omega) (Or.inr (Or.inl ⟨z1, n1, ?_⟩))) (fun g => by omega)
        rw [n3]; simp
    · have z2 : ar v = 2 := by omega
      rw [z2] at hA
      cases A with
      | nil => exact absurd (congrArg List.length hA) (by rw [fe_sl_len]; decide)
      | cons a A =>
        cases A with
        | nil =>
          have h := congrArg List.length hA
          rw [fe_sl_len] at h
          exact absurd (show 2 = 1 from h) (by decide)
        | cons b A =>
          have hA' : fy_tok dn yWk yWw yOw (q + 1) :: [fy_tok dn yWk yWw yOw (q + 1 + 1)] = Sum.inl a :: (Sum.inl b :: A.map Sum.inl) := hA
          obtain ⟨i1, i2⟩ := List.cons.inj hA'
          obtain ⟨i3, i4⟩ := List.cons.inj i2
          have hAn : A = [] := by
            cases A with
            | nil => rfl
            | cons _ _ => cases i4
          subst hAn
          obtain ⟨n, n1, n2, n3⟩ := arg 0 a (by omega) i1
          obtain ⟨n', m1, m2, m3⟩ := arg 1 b (by omega) i3
          rw [Nat.add_zero] at n2
          refine pk_le (ar v) 0 (fun g => by omega) (fun _ => ⟨by rw [nI_1]; exact vp_in_nI (by omega) (by decide), ?_⟩)
          rw [nI_1, nI_clamp (by omega), n2]
          have e2 : nI q + 2 = nI (q + 1 + 1) := nI_add q 2
          refine pk_le (ar v) 1 (fun g => by omega) (fun _ => ⟨by rw [e2]; exact vp_in_nI (by omega) (by decide), ?_⟩)
          rw [e2, nI_clamp (by omega), m2]
          refine fin n n' _ _ (by rw [if_pos (by omega)]) (by rw [if_pos z2]) (fun _ => n1) (fun _ => m1) (Or.inr (Or.inr ⟨z2, n1, m1, ?_⟩))
          rw [n3, m3]; simp
end
