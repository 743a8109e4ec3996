/-- a spelled value: at each place its node -/
def fy_stk (U : Nat → Int32) : List Nat → Prop
  | [] => True
  | u :: st => U st.length = nI u ∧ fy_stk U st
theorem fy_stk_u {U : Nat → Int32} {x : Int32} : ∀ st k, st.length ≤ k → fy_stk U st → fy_stk (upd U k x) st := by
  intro st
  induction st with
  | nil => intro k _ _; trivial
  | cons u st ih =>
    intro k hk h
    rw [List.length_cons] at hk
    exact ⟨by rw [pk_un (by omega)]; exact h.1, ih k (by omega) h.2⟩
theorem fv_cc_len {ar : Nat → Nat} {c N : Nat} {dn : Nat → List Nat} (H : fv_H ar c N dn) : ∀ ns, (∀ q, q ∈ ns → q < N) → ns.length ≤ (fv_cc dn ns).length := by
  intro ns
  induction ns with
  | nil => intro _; exact Nat.le_refl _
  | cons n ns ih =>
    intro h
    have a := (fv_Hpos H (h n (List.mem_cons_self ..))).1
    have b := ih (fun q hq => h q (List.mem_cons_of_mem _ hq))
    show ns.length + 1 ≤ (dn n ++ fv_cc dn ns).length
    rw [List.length_append]
    omega
section
variable {ycc ydr ynd yln yal ygl yst ybl yhw yrn ywk : Int32} {yA yDk yDw yK yW yPl yRl yRc yHd yLf yRg ySz yLi ySk ySt yAr yGv yF yEn yPc yBd yWk yWw yOw yCt yOz yOp yKn : Nat → Int32}
/-- a node is made; h: its size is small enough, or it is the last -/
theorem y_nd {post : Int32 → SY → Prop} {ar : Nat → Nat} {c N h l r : Nat} {dn : Nat → List Nat} {xf xs : Int32} (hN : N < 1300) (H : fy_H ar c N yHd yLf yRg ySz dn) (ha : ar h ≤ 2)
    (hf : xf = if 1 ≤ ar h then nI l else -1) (hs : xs = if ar h = 2 then nI r else -1) (hl : 1 ≤ ar h → l < N) (hr : ar h = 2 → r < N)
    (hp : post (nI N) (ycc, ydr, nI (N + 1), yln, yal, ygl, yst, ybl, yhw, yrn, ywk, yA, yDk, yDw, yK, yW, yPl, yRl, yRc, upd yHd N (nI h), upd yLf N xf, upd yRg N xs, upd ySz N (nI (1 + (if 1 ≤ ar h then (dn l).length else 0) + (if ar h = 2 then (dn r).length else 0))), yLi, ySk, ySt, yAr, yGv, yF, yEn, yPc, yBd, yWk, yWw, yOw, yCt, yOz, yOp, yKn)) :
    wpY_node post (ycc, ydr, nI N, yln, yal, ygl, yst, ybl, yhw, yrn, ywk, yA, yDk, yDw, yK, yW, yPl, yRl, yRc, yHd, yLf, yRg, ySz, yLi, ySk, ySt, yAr, yGv, yF, yEn, yPc, yBd, yWk, yWw, yOw, yCt, yOz, yOp, yKn) (nI h) xf xs := by
  have en : (nI N).toNatClampNeg = N := nI_clamp (by omega)
  have hin : vp_in (nI N) 1300 := vp_in_nI hN (by decide)
  refine ⟨hin, nm_r (by rw [en]) ⟨hin, nm_r (by rw [en]) ⟨hin, nm_r (by rw [en]) ?_⟩⟩⟩
  have second : ∀ s1 : Nat, ∀ (z : Int32), z = nI s1 → s1 = (if 1 ≤ ar h then (dn l).length else 0) →
      wY_node_53 post xs z 1 (nI N) ycc ydr (nI N) yln yal ygl yst ybl yhw yrn ywk yA yDk yDw yK yW yPl yRl yRc (upd yHd N (nI h)) (upd yLf N xf) (upd yRg N xs) ySz yLi ySk ySt yAr yGv yF yEn yPc yBd yWk yWw yOw yCt yOz yOp yKn := by
    intro s1 z hz hs1
    have fin : ∀ s2 : Nat, ∀ (y : Int32), y = nI s2 → s2 = (if ar h = 2 then (dn r).length else 0) →
        wY_node_68 post y (1 + z) (nI N) ycc ydr (nI N) yln yal ygl yst ybl yhw yrn ywk yA yDk yDw yK yW yPl yRl yRc (upd yHd N (nI h)) (upd yLf N xf) (upd yRg N xs) ySz yLi ySk ySt yAr yGv yF yEn yPc yBd yWk yWw yOw yCt yOz yOp yKn := by
      intro s2 y hy hs2
      refine ⟨hin, nm_r ?_ (nm_r (nI_1 N) hp)⟩
      rw [en, hz, hy, show (1 : Int32) + nI s1 = nI (1 + s1) from nI_add 1 s1, nI_add, hs1, hs2]
    by_cases z2 : ar h = 2
    · obtain ⟨_, _, _, _, a2, _⟩ := H r (hr z2)
      have hxs : xs = nI r := by rw [hs, if_pos z2]
      have hr' := hr z2
      rw [hxs] at fin ⊢
      refine br_t (nI_pos' (by omega)) ⟨vp_in_nI (by omega) (by decide), fin (dn r).length _ ?_ (by rw [if_pos z2])⟩
      rw [nI_clamp (by omega), a2]
    · have hxs : xs = -1 := by rw [hs, if_neg z2]
      rw [hxs] at fin ⊢
      exact br_f (by decide) (fin 0 0 rfl (by rw [if_neg z2]))
  by_cases z1 : 1 ≤ ar h
  · obtain ⟨_, _, _, _, a2, _⟩ := H l (hl z1)
    have hxf : xf = nI l := by rw [hf, if_pos z1]
    have hl' := hl z1
    rw [hxf] at second ⊢
    refine br_t (nI_pos' (by omega)) ⟨vp_in_nI (by omega) (by decide), second (dn l).length _ ?_ (by rw [if_pos z1])⟩
    rw [nI_clamp (by omega), a2]
  · have hxf : xf = -1 := by rw [hf, if_neg z1]
    rw [hxf] at second ⊢
    exact br_f (by decide) (second 0 0 rfl (by rw [if_neg z1]))
/-- the nodes of the argument -/
theorem y_bu {post : Int32 → SY → Prop} {ar W : Nat → Nat} {c m : Nat} (hc : c ≤ 6) (ha : ∀ i, ar i ≤ 2) (fS : fx_sub ar c m W yLi yEn)
    (hp : ∀ HD LF RG SZ ST dn, fy_H ar c m HD LF RG SZ dn → dn (m - 1) = fe_sl W 0 m → post (nI (m - 1)) (ycc, ydr, nI m, nI m, yal, ygl, yst, ybl, yhw, yrn, ywk, fo_n ar, yDk, yDw, yK, yW, yPl, yRl, yRc, HD, LF, RG, SZ, yLi, ySk, ST, yAr, yGv, yF, yEn, yPc, yBd, yWk, yWw, yOw, yCt, yOz, yOp, yKn)) :
    wpY_build post (ycc, ydr, 0, nI m, yal, ygl, yst, ybl, yhw, yrn, ywk, fo_n ar, yDk, yDw, yK, yW, yPl, yRl, yRc, yHd, yLf, yRg, ySz, yLi, ySk, ySt, yAr, yGv, yF, yEn, yPc, yBd, yWk, yWw, yOw, yCt, yOz, yOp, yKn) := by
  obtain ⟨hm, f, hS⟩ := fS
  have hm0 := f.1
  have loop : ∀ a HD LF RG SZ ST dn, a ≤ m → fy_H ar c (m - a) HD LF RG SZ dn → (∀ i, a ≤ i → i < m → ST i = nI (m - 1 - i) ∧ dn (m - 1 - i) = fv_sub ar W m i) →
      wY_build_7 post (a + 1) (nI a + (-1)) ycc ydr (nI (m - a)) (nI m) yal ygl yst ybl yhw yrn ywk (fo_n ar) yDk yDw yK yW yPl yRl yRc HD LF RG SZ yLi ySk ST yAr yGv yF yEn yPc yBd yWk yWw yOw yCt yOz yOp yKn := by
    intro a
    induction a with
    | zero =>
      intro HD LF RG SZ ST dn _ H h
      have h0 := h 0 (Nat.le_refl _) hm0
      refine br_t (by decide) ?_
      rw [h0.1]
      refine hp HD LF RG SZ ST dn H ?_
      rw [← fv_sub_0 f]; exact h0.2
    | succ p ih =>
      intro HD LF RG SZ ST dn hp' H h
      obtain ⟨s1, s2, s3⟩ := hS p (by omega)
      have e1 : (nI p).toNatClampNeg = p := nI_clamp (by omega)
      have h2 := ha (W p)
      have hin : vp_in (nI p) 40 := vp_in_nI (by omega) (by decide)
      have ep := fe_full_e f (show p < m by omega)
      rw [pk_m1]
      refine br_f (nI_pos (by omega)) ⟨hin, ?_⟩
      rw [e1, s2]
      refine ⟨vp_in_nI (by omega) (by decide), nm_r (e' := nI (ar (W p))) (by rw [nI_clamp (by omega)]; rfl) ⟨hin, ?_⟩⟩
      have len : (fv_sub ar W m p).length ≤ 40 := by rw [fv_sub_len]; omega
      -- the node itself
      have make : ∀ xf xs : Int32, ∀ l r : Nat, (xf = if 1 ≤ ar (W p) then nI l else -1) → (xs = if ar (W p) = 2 then nI r else -1) → (1 ≤ ar (W p) → l < m - (p + 1)) → (ar (W p) = 2 → r < m - (p + 1)) →
          (1 + (if 1 ≤ ar (W p) then (dn l).length else 0) + (if ar (W p) = 2 then (dn r).length else 0) = (fv_sub ar W m p).length) →
          ((ar (W p) = 0 ∧ fv_sub ar W m p = [W p]) ∨ (ar (W p) = 1 ∧ l < m - (p + 1) ∧ fv_sub ar W m p = W p :: dn l) ∨ (ar (W p) = 2 ∧ l < m - (p + 1) ∧ r < m - (p + 1) ∧ fv_sub ar W m p = W p :: (dn l ++ dn r))) →
          wY_build_68 post (wY_build_7 post (p + 1)) (nI p) xs xf (nI (W p)) ycc ydr (nI (m - (p + 1))) (nI m) yal ygl yst ybl yhw yrn ywk (fo_n ar) yDk yDw yK yW yPl yRl yRc HD LF RG SZ yLi ySk ST yAr yGv yF yEn yPc yBd yWk yWw yOw yCt yOz yOp yKn := by
        intro xf xs l r e2 e3 hl hr hsz hsh
        refine y_nd (ar := ar) (c := c) (dn := dn) (by omega) H h2 e2 e3 hl hr ?_
        rw [hsz]
        refine ⟨vp_in_nI (by omega) (by decide), nm_r (e' := upd ST p (nI (m - (p + 1)))) (by rw [e1]) (nm_e ?_)⟩
        have H' := fy_H_new H e2 e3 ⟨s1, len, hsh⟩
        rw [show m - (p + 1) + 1 = m - p by omega] at H' ⊢
        refine ih _ _ _ _ _ (fx_up dn (m - (p + 1)) (fv_sub ar W m p)) (by omega) H' (fun i hi1 hi2 => ?_)
        by_cases e : i = p
        · subst e
          rw [pk_us, show m - 1 - i = m - (i + 1) by omega, fx_up_s]
          exact ⟨rfl, rfl⟩
        · rw [pk_un e, fx_up_n (by omega)]
          exact h i (by omega) hi2
      by_cases z0 : ar (W p) = 0
      · have sh := fv_sub_s0 (ar := ar) (S := W) (m := m) (show p < m by omega) z0
        refine pk_le (ar (W p)) 0 (fun _ => ?_) (fun q => by omega)
        refine pk_le (ar (W p)) 1 (fun _ => make (-1) (-1) 0 0 (by rw [if_neg (by omega)]) (by rw [if_neg (by omega)]) (fun q => by omega) (fun q => by omega) ?_ (Or.inl ⟨z0, sh⟩)) (fun q => by omega)
        rw [if_neg (by omega), if_neg (by omega), sh]; rfl
      · by_cases z1 : ar (W p) = 1
        · obtain ⟨u1, u2⟩ := fv_sub_s1 f (show p < m by omega) z1
          obtain ⟨t1, t2⟩ := h (p + 1) (Nat.le_refl _) u1
          refine pk_le (ar (W p)) 0 (fun q => by omega) (fun _ => ⟨by rw [nI_1]; exact vp_in_nI (by omega) (by decide), ?_⟩)
          rw [nI_1, nI_clamp (by omega), t1]
          refine pk_le (ar (W p)) 1 (fun _ => make _ (-1) (m - 1 - (p + 1)) 0 (by rw [if_pos (by omega)]) (by rw [if_neg (by omega)]) (fun _ => by omega) (fun q => by omega) ?_ (Or.inr (Or.inl ⟨z1, by omega, by rw [t2]; exact u2⟩))) (fun q => by omega)
          rw [if_pos (by omega), if_neg (by omega), t2, u2, List.length_cons]; omega
        · have z2 : ar (W p) = 2 := by omega
          obtain ⟨u1, u2, u3, u4⟩ := fv_sub_s2 f (show p < m by omega) z2
          obtain ⟨t1, t2⟩ := h (p + 1) (Nat.le_refl _) u1
          obtain ⟨v1, v2⟩ := h (fe_pe (fm_v ar W) m (p + 1)) (by omega) u3
          refine pk_le (ar (W p)) 0 (fun q => by omega) (fun _ => ⟨by rw [nI_1]; exact vp_in_nI (by omega) (by decide), ?_⟩)
          rw [nI_1, nI_clamp (by omega), t1]
          refine pk_le (ar (W p)) 1 (fun q => by omega) (fun _ => ⟨by rw [nI_1]; exact vp_in_nI (by omega) (by decide), ?_⟩)
          rw [nI_1, nI_clamp (by omega), (hS (p + 1) u1).2.2]
          refine ⟨vp_in_nI (by omega) (by decide), ?_⟩
          rw [nI_clamp (by omega), v1]
          refine make _ _ (m - 1 - (p + 1)) (m - 1 - fe_pe (fm_v ar W) m (p + 1)) (by rw [if_pos (by omega)]) (by rw [if_pos z2]) (fun _ => by omega) (fun _ => by omega) ?_ (Or.inr (Or.inr ⟨z2, by omega, by omega, by rw [t2, v2]; exact u4⟩))
          rw [if_pos (by omega), if_pos z2, t2, v2, u4, List.length_cons, List.length_append]; omega
  refine nm_r (e' := nI m + (-1)) (Int32.sub_eq_add_neg _ _) ⟨m + 1, ?_⟩
  have := loop m yHd yLf yRg ySz ySt (fun _ => []) (Nat.le_refl _) (fun n hn => by omega) (fun i h1 h2 => by omega)
  rw [Nat.sub_self] at this
  exact this
/-- a value is spelled -/
theorem y_sp {post : SY → Prop} {ar : Nat → Nat} {c N root : Nat} {dn : Nat → List Nat} (hc : c ≤ 6) (ha : ∀ i, ar i ≤ 2) (H : fy_H ar c N yHd yLf yRg ySz dn) (hN : N ≤ 1300) (hr : root < N)
    (hp : ∀ LI SK ST, (∀ i, i < (dn root).length → fv_g (dn root) i < c ∧ LI i = nI (fv_g (dn root) i)) → fx_SN ar N dn (dn root) (dn root).length ST → post (ycc, ydr, ynd, nI (dn root).length, yal, ygl, yst, ybl, yhw, yrn, ywk, yA, yDk, yDw, yK, yW, yPl, yRl, yRc, yHd, yLf, yRg, ySz, LI, SK, ST, yAr, yGv, yF, yEn, yPc, yBd, yWk, yWw, yOw, yCt, yOz, yOp, yKn)) :
    wpY_spell post (ycc, ydr, ynd, yln, yal, ygl, yst, ybl, yhw, yrn, ywk, yA, yDk, yDw, yK, yW, yPl, yRl, yRc, yHd, yLf, yRg, ySz, yLi, ySk, ySt, yAr, yGv, yF, yEn, yPc, yBd, yWk, yWw, yOw, yCt, yOz, yOp, yKn) (nI root) := by
  have HH := fy_HH H
  have h40 := fv_Hpos HH hr
  generalize hLL : dn root = L at *
  have loop : ∀ d p ns LI SK ST, p + d = L.length → (∀ q, q ∈ ns → q < N) → L.drop p = fv_cc dn ns → fy_stk SK ns →
      (∀ i, i < p → fv_g L i < c ∧ LI i = nI (fv_g L i)) → fx_SN ar N dn L p ST →
      wY_spell_17 post ycc ydr ynd yal ygl yst ybl yhw yrn ywk (d + 1) (nI ns.length) (nI p) yA yDk yDw yK yW yPl yRl yRc yHd yLf yRg ySz LI SK ST yAr yGv yF yEn yPc yBd yWk yWw yOw yCt yOz yOp yKn := by
    intro d
    induction d with
    | zero =>
      intro p ns LI SK ST hpd hns hd hst h1 h2
      have e : p = L.length := by omega
      subst e
      cases ns with
      | nil => exact br_t (by decide) (hp LI SK ST h1 h2)
      | cons n ns =>
        have a := fv_cc_len HH (n :: ns) hns
        rw [← hd, List.length_drop, List.length_cons] at a
        omega
    | succ d ih =>
      intro p ns LI SK ST hpd hns hd hst h1 h2
      have lcc := fv_cc_len HH ns hns
      rw [← hd, List.length_drop] at lcc
      cases ns with
      | nil =>
        have := congrArg List.length hd
        rw [List.length_drop] at this
        have e0 : (fv_cc dn []).length = 0 := rfl
        omega
      | cons n ns =>
        have hn : n < N := hns n (List.mem_cons_self ..)
        have hns' : ∀ q, q ∈ ns → q < N := fun q hq => hns q (List.mem_cons_of_mem _ hq)
        obtain ⟨h, l, r, a1, a2, a3, a4, a5⟩ := H n hn
        obtain ⟨q1, q2, q3⟩ := fv_at HH (W := L) (p := p) (tl := fv_cc dn ns) hn hd
        obtain ⟨b1, b2, b3⟩ := a5
        have har := ha h
        rw [List.length_cons] at lcc ⊢
        have hg : fv_g L p = h := by
          rcases b3 with ⟨_, e⟩ | ⟨_, _, e⟩ | ⟨_, _, _, e⟩
          · rw [show fv_cc dn (n :: ns) = dn n ++ fv_cc dn ns from rfl, e] at hd; exact (fv_head hd).1
          · rw [show fv_cc dn (n :: ns) = dn n ++ fv_cc dn ns from rfl, e] at hd; exact (fv_head hd).1
          · rw [show fv_cc dn (n :: ns) = dn n ++ fv_cc dn ns from rfl, e] at hd; exact (fv_head hd).1
        have hL' : ∀ i, i < p + 1 → fv_g L i < c ∧ upd LI p (nI h) i = nI (fv_g L i) := by
          intro i hi
          by_cases e : i = p
          · subst e; rw [pk_us, hg]; exact ⟨b1, rfl⟩
          · rw [pk_un e]; exact h1 i (by omega)
        have hST' : fx_SN ar N dn L (p + 1) (upd ST p (nI n)) := by
          intro i hi
          by_cases e : i = p
          · subst e; rw [pk_us]; exact ⟨n, rfl, hn, q2.symm⟩
          · rw [pk_un e]; exact h2 i (by omega)
        have en : (nI n).toNatClampNeg = n := nI_clamp (by omega)
        have ep : (nI p).toNatClampNeg = p := nI_clamp (by omega)
        have hin : vp_in (nI n) 1300 := vp_in_nI (by omega) (by decide)
        refine br_f (nI_nle (by omega) (by omega)) (nm_r (pk_m1 _) ⟨vp_in_nI (by omega) (by decide), nm_r (e' := nI n) (by rw [nI_clamp (by omega)]; exact hst.1) ⟨vp_in_nI (by omega) (by decide), nm_r (e' := upd ST p (nI n)) (by rw [ep]) (nm_r (nI_1 p) ⟨hin, vp_in_nI (by omega) (by decide), nm_r (e' := upd LI p (nI h)) (by rw [ep, en, a1]) ⟨hin, ?_⟩⟩)⟩⟩)
        rw [en, a4]
        -- the left one, then on
        have left : ∀ ns' SK', ns'.length ≤ ns.length + 1 → (∀ q, q ∈ ns' → q < N) → fy_stk SK' ns' → (1 ≤ ar h → l < N) → L.drop (p + 1) = fv_cc dn ((if 1 ≤ ar h then [l] else []) ++ ns') →
            wY_spell_87 post (wY_spell_17 post ycc ydr ynd yal ygl yst ybl yhw yrn ywk (d + 1)) (nI ns'.length) (nI n) ycc ydr ynd (nI (p + 1)) yal ygl yst ybl yhw yrn ywk yA yDk yDw yK yW yPl yRl yRc yHd yLf yRg ySz (upd LI p (nI h)) SK' (upd ST p (nI n)) yAr yGv yF yEn yPc yBd yWk yWw yOw yCt yOz yOp yKn := by
          intro ns' SK' hlen hq hs' hl hdrop
          refine ⟨hin, ?_⟩
          rw [en, a3]
          by_cases z1 : 1 ≤ ar h
          · rw [if_pos z1] at hdrop ⊢
            have hl' := hl z1
            refine br_f (nI_pos (by omega)) (nm_r (nI_1 _) ⟨hin, vp_in_nI (by omega) (by decide), nm_r (e' := upd SK' ns'.length (nI l)) (by rw [nI_clamp (by omega)]) ?_⟩)
            refine ih (p + 1) (l :: ns') _ _ _ (by omega) (fun q g => ?_) hdrop ⟨pk_us, fy_stk_u ns' _ (Nat.le_refl _) hs'⟩ hL' hST'
            rcases List.mem_cons.mp g with g | g
            · omega
            · exact hq q g
          · rw [if_neg z1] at hdrop ⊢
            exact br_t (by decide) (ih (p + 1) ns' _ _ _ (by omega) hq hdrop hs' hL' hST')
        rcases b3 with ⟨e0, e⟩ | ⟨e0, hl, e⟩ | ⟨e0, hl, hr', e⟩
        · rw [if_neg (by omega)]
          refine br_t (by decide) (left ns SK (by omega) hns' hst.2 (fun g => by omega) ?_)
          rw [show fv_cc dn (n :: ns) = dn n ++ fv_cc dn ns from rfl, e] at hd
          rw [if_neg (by omega)]
          exact (fv_head hd).2.1
        · rw [if_neg (by omega)]
          refine br_t (by decide) (left ns SK (by omega) hns' hst.2 (fun _ => hl) ?_)
          rw [show fv_cc dn (n :: ns) = dn n ++ fv_cc dn ns from rfl, e] at hd
          rw [if_pos (by omega)]
          exact (fv_head hd).2.1
        · rw [if_pos e0]
          refine br_f (nI_pos (by omega)) (nm_r (nI_1 _) ⟨hin, vp_in_nI (by omega) (by decide), nm_r (e' := upd SK ns.length (nI r)) (by rw [nI_clamp (by omega)]) (left (r :: ns) _ (Nat.le_refl _) (fun q g => ?_) ⟨pk_us, fy_stk_u ns _ (Nat.le_refl _) hst.2⟩ (fun _ => hl) ?_)⟩)
          · rcases List.mem_cons.mp g with g | g
            · omega
            · exact hns' q g
          · rw [if_pos (by omega)]
            rw [show fv_cc dn (n :: ns) = dn n ++ fv_cc dn ns from rfl, e, show (h :: (dn l ++ dn r)) ++ fv_cc dn ns = h :: ((dn l ++ dn r) ++ fv_cc dn ns) from rfl] at hd
            rw [(fv_head hd).2.1, List.append_assoc]
            rfl
  refine nm_r (e' := nI 1) (by decide) (nm_r (e' := upd ySk 0 (nI root)) rfl ⟨L.length + 1, ?_⟩)
  refine loop L.length 0 [root] yLi _ ySt (by omega) (fun q hq => ?_) ?_ ⟨pk_us, trivial⟩ (fun i hi => by omega) (fun i hi => by omega)
  · rcases List.mem_cons.mp hq with g | g
    · omega
    · cases g
  · show L.drop 0 = dn root ++ []
    rw [List.drop_zero, List.append_nil, hLL]
end
