theorem fv_g_lo {a : List Nat} {x j : Nat} (h : j < a.length) : fv_g (a ++ [x]) j = fv_g a j := by
  unfold fv_g
  rw [List.getD_eq_getElem?_getD, List.getD_eq_getElem?_getD, List.getElem?_append_left h]
theorem fv_g_hi {a : List Nat} {x : Nat} : fv_g (a ++ [x]) a.length = x := by
  unfold fv_g
  rw [List.getD_eq_getElem?_getD, List.getElem?_append_right (Nat.le_refl _), Nat.sub_self]
  rfl
/-- a stack in an array, its top first in the list -/
def fs_stk (U : Nat → Int32) : List Nat → Prop
  | [] => True
  | u :: st => U st.length = nI u ∧ fs_stk U st
theorem fs_stk_u {U : Nat → Int32} {x : Int32} : ∀ st k, st.length ≤ k → fs_stk U st → fs_stk (upd U k x) st := by
  intro st
  induction st with
  | nil => intro k _ _; trivial
  | cons u st ih =>
    intro k hk h
    rw [List.length_cons] at hk
    exact ⟨by rw [pk_un (by omega)]; exact h.1, ih k (by omega) h.2⟩
theorem fs_lenF {α β : Type} {rt : Nat → α → β → Prop} {yt : Nat → α} {op : Nat → Nat} {fr u p : Nat} {st : List Nat} {out : List β}
    (h : fs_FU rt yt op fr u st p out) : fr ≤ u ∧ u < p ∧ out.length + (st.length + 1) = p - fr := by
  obtain ⟨o0, o1, hu, h1, rfl, hS⟩ := h
  have a := (ff_len h1).1
  rw [fe_sl_len] at a
  obtain ⟨b, d⟩ := fs_len _ _ _ hS
  rw [List.length_append]
  omega
def fs_ST {α β : Type} (rt : Nat → α → β → Prop) (yt : Nat → α) (op : Nat → Nat) (fr : Nat) (st : List Nat) (p : Nat) (out : List β) : Prop :=
  fs_SO rt yt op fr st p out ∨ ∃ u st', st = u :: st' ∧ fs_FU rt yt op fr u st' p out
section
variable {xcc xdr xas xss xnc xdp xoc xrs xrt xrf xrz : Int32} {xA xD xDe xUw xRc xP xPe xPl xO xOl xAr xS xSe xSn xF xNc xNf xNs xNz xCr xCn xCv xOp xRl xTa xUt : Nat → Int32}
theorem x_sp_loop {post : SX → Prop} {T pe : Nat → Nat} {e r : Nat} (he : e ≤ 12) (hr : r < 20)
    (hT : ∀ i, i < e → xD i = nI (T i)) (hD : ∀ i, i < e → xDe i = nI (pe i)) {xP0 xE0 : Nat → Int32}
    (hp : ∀ P E, (∀ j, j < e → P (12 * r + j) = nI (T j) ∧ E (12 * r + j) = nI (pe j)) → (∀ q, (q < 12 * r ∨ 12 * r + 12 ≤ q) → P q = xP0 q ∧ E q = xE0 q) →
      post (xcc, xdr, xas, xss, xnc, xdp, xoc, xrs, xrt, xrf, xrz, xA, xD, xDe, xUw, xRc, P, E, upd xPl r (nI e), xO, xOl, xAr, xS, xSe, xSn, xF, xNc, xNf, xNs, xNz, xCr, xCn, xCv, xOp, xRl, xTa, xUt)) :
    ∀ d i P E, i + d = e → (∀ j, j < i → P (12 * r + j) = nI (T j) ∧ E (12 * r + j) = nI (pe j)) → (∀ q, (q < 12 * r ∨ 12 * r + 12 ≤ q) → P q = xP0 q ∧ E q = xE0 q) →
      wX_storePattern_8 post (nI r) (nI e) (nI (12 * r)) xcc xdr xas xss xnc xdp xoc xrs xrt xrf xrz (d + 1) (nI i) xA xD xDe xUw xRc P E xPl xO xOl xAr xS xSe xSn xF xNc xNf xNs xNz xCr xCn xCv xOp xRl xTa xUt := by
  intro d
  induction d with
  | zero =>
    intro i P E hi h1 h2
    have : i = e := by omega
    subst this
    exact br_t (nI_le (Nat.le_refl _) (by omega)) ⟨vp_in_nI hr (by decide), nm_r (by rw [nI_clamp (by omega)]) (hp P E h1 h2)⟩
  | succ d ih =>
    intro i P E hi h1 h2
    have hin : vp_in (nI (12 * r) + nI i) 240 := by rw [nI_add]; exact vp_in_nI (by omega) (by decide)
    refine br_f (nI_ge (by omega) (by omega)) ⟨vp_in_nI (by omega) (by decide), hin, nm_r (e' := upd P (12 * r + i) (nI (T i))) ?_ ⟨vp_in_nI (by omega) (by decide), hin, nm_r (e' := upd E (12 * r + i) (nI (pe i))) ?_ (nm_r (nI_1 i) (ih (i + 1) _ _ (by omega) ?_ ?_))⟩⟩
    · rw [nI_add, nI_clamp (by omega), nI_clamp (by omega), hT i (by omega)]
    · rw [nI_add, nI_clamp (by omega), nI_clamp (by omega), hD i (by omega)]
    · intro j hj
      by_cases e' : j = i
      · subst e'; exact ⟨pk_us, pk_us⟩
      · rw [pk_un (by omega), pk_un (by omega)]; exact h1 j (by omega)
    · intro q hq
      rw [pk_un (by omega), pk_un (by omega)]; exact h2 q hq
theorem x_sp {post : SX → Prop} {T pe : Nat → Nat} {e r : Nat} (he : e ≤ 12) (hr : r < 20)
    (hT : ∀ i, i < e → xD i = nI (T i)) (hD : ∀ i, i < e → xDe i = nI (pe i))
    (hp : ∀ P E, (∀ j, j < e → P (12 * r + j) = nI (T j) ∧ E (12 * r + j) = nI (pe j)) → (∀ q, (q < 12 * r ∨ 12 * r + 12 ≤ q) → P q = xP q ∧ E q = xPe q) →
      post (xcc, xdr, xas, xss, xnc, xdp, xoc, xrs, xrt, xrf, xrz, xA, xD, xDe, xUw, xRc, P, E, upd xPl r (nI e), xO, xOl, xAr, xS, xSe, xSn, xF, xNc, xNf, xNs, xNz, xCr, xCn, xCv, xOp, xRl, xTa, xUt)) : wpX_storePattern post (xcc, xdr, xas, xss, xnc, xdp, xoc, xrs, xrt, xrf, xrz, xA, xD, xDe, xUw, xRc, xP, xPe, xPl, xO, xOl, xAr, xS, xSe, xSn, xF, xNc, xNf, xNs, xNz, xCr, xCn, xCv, xOp, xRl, xTa, xUt) (nI r) (nI e) :=
  nm_r ((fo_m12 r).trans (congrArg nI (Nat.mul_comm r 12))) ⟨e + 1, x_sp_loop he hr hT hD hp e 0 xP xPe (by omega) (fun j hj => by omega) (fun q _ => ⟨rfl, rfl⟩)⟩
theorem x_so_in {post : SX → Prop} {ar T Tp : Nat → Nat} {c np n fr r p : Nat} (hn : n ≤ 40) (hp : p < n) (hfr : fr ≤ p) (h12 : n - fr ≤ 12) (hr : r < 20)
    (hT : ∀ i, i < n → xD i = nI (T i)) (hD : ∀ i, i < n → xDe i = nI (fe_pe (fm_o ar T) n i)) (hfull : fe_pe (fm_o ar T) n fr = n)
    (hval : ∀ u, fr ≤ u → u < n → fg_rs ar c Tp np (fo_op ar (T u)) (T u) (T u)) {xO0 : Nat → Int32}
    {J : Int32 → Int32 → Int32 → (Nat → Int32) → (Nat → Int32) → (Nat → Int32) → (Nat → Int32) → (Nat → Int32) → (Nat → Int32) → (Nat → Int32) → (Nat → Int32) → (Nat → Int32) → (Nat → Int32) → (Nat → Int32) → (Nat → Int32) → (Nat → Int32) → (Nat → Int32) → (Nat → Int32) → (Nat → Int32) → (Nat → Int32) → (Nat → Int32) → (Nat → Int32) → (Nat → Int32) → (Nat → Int32) → (Nat → Int32) → (Nat → Int32) → (Nat → Int32) → (Nat → Int32) → (Nat → Int32) → Prop}
    (hJ : ∀ st out O, fs_SO (fg_rs ar c Tp np) T (fm_o ar T) fr st (p + 1) out → fs_stk xUw st → (∀ j, j < out.length → O (12 * r + j) = nI (fv_g out j)) →
      (∀ q, (q < 12 * r ∨ 12 * r + 12 ≤ q) → O q = xO0 q) → J (nI out.length) (nI st.length) (nI (p + 1)) xA xD xDe xUw xRc xP xPe xPl O xOl xAr xS xSe xSn xF xNc xNf xNs xNz xCr xCn xCv xOp xRl xTa xUt) :
    ∀ st out O, fs_ST (fg_rs ar c Tp np) T (fm_o ar T) fr st (p + 1) out → fs_stk xUw st → (∀ j, j < out.length → O (12 * r + j) = nI (fv_g out j)) →
      (∀ q, (q < 12 * r ∨ 12 * r + 12 ≤ q) → O q = xO0 q) →
      wX_storeOutcome_35 post J (nI r) (nI (12 * r)) (nI p) xcc (nI n) xas xss xnc xdp xoc xrs xrt xrf xrz (st.length + 1) (nI out.length) (nI st.length) xA xD xDe xUw xRc xP xPe xPl O xOl xAr xS xSe xSn xF xNc xNf xNs xNz xCr xCn xCv xOp xRl xTa xUt := by
  have hop : ∀ j k y, fg_rs ar c Tp np k (T j) y → fm_o ar T j = k := fun j k y h => h.2.1.symm
  have ender : ∀ (st : List Nat) (out : List Nat) (O : Nat → Int32), fs_SO (fg_rs ar c Tp np) T (fm_o ar T) fr st (p + 1) out → fs_stk xUw st → (∀ j, j < out.length → O (12 * r + j) = nI (fv_g out j)) →
      (∀ q, (q < 12 * r ∨ 12 * r + 12 ≤ q) → O q = xO0 q) →
      wX_storeOutcome_35 post J (nI r) (nI (12 * r)) (nI p) xcc (nI n) xas xss xnc xdp xoc xrs xrt xrf xrz (st.length + 1) (nI out.length) (nI st.length) xA xD xDe xUw xRc xP xPe xPl O xOl xAr xS xSe xSn xF xNc xNf xNs xNz xCr xCn xCv xOp xRl xTa xUt := by
    intro st out O hS hU hO hF
    have hl := fs_len _ _ _ hS
    have hj := hJ st out O hS hU hO hF
    cases st with
    | nil => exact br_t (by decide) (nm_r (nI_1 p) hj)
    | cons u st =>
      obtain ⟨m, o0, o1, hu, hm, hpf, ho, hS'⟩ := id hS
      have hfu := (fs_len _ _ _ hS').1
      have he := fs_endS (N := n) hop hS (by omega) (by omega)
      have hpe : p + 1 < fe_pe (fm_o ar T) n u := he
      have hb := (fe_pe_sub (fm_o ar T) hfull (by omega) hfu (by omega)).2
      rw [List.length_cons] at hl ⊢
      refine br_f (nI_nle (by omega) (by omega)) ?_
      have e1 : nI (st.length + 1) - 1 = nI st.length := nI_pred _
      rw [e1]
      refine ⟨vp_in_nI (by omega) (by decide), ?_⟩
      rw [nI_clamp (by omega), hU.1]
      refine ⟨vp_in_nI (by omega) (by decide), ?_⟩
      rw [nI_clamp (by omega), hD u (by omega)]
      refine br_f ?_ (nm_r (nI_1 p) hj)
      rw [nI_1, nI_eq (by omega) (by omega)]
      omega
  intro st
  induction st with
  | nil =>
    intro out O h hU hO hF
    rcases h with h | ⟨u, st', e, _⟩
    · exact ender [] out O h hU hO hF
    · cases e
  | cons u st ih =>
    intro out O h hU hO hF
    rcases h with h | ⟨u', st', e, hFU⟩
    · exact ender (u :: st) out O h hU hO hF
    · cases e
      obtain ⟨l1, l2, l3⟩ := fs_lenF hFU
      have he : fe_pe (fm_o ar T) n u = p + 1 := fs_endF (N := n) hop hFU (by omega)
      rw [List.length_cons]
      refine br_f (nI_nle (by omega) (by omega)) ?_
      have e1 : nI (st.length + 1) - 1 = nI st.length := nI_pred _
      rw [e1]
      refine ⟨vp_in_nI (by omega) (by decide), ?_⟩
      rw [nI_clamp (by omega), hU.1]
      refine ⟨vp_in_nI (by omega) (by decide), ?_⟩
      rw [nI_clamp (by omega), hD u (by omega)]
      refine br_t (by rw [he, nI_1]) (nm_r (pk_m1 _) ⟨vp_in_nI (by omega) (by decide), ?_⟩)
      rw [nI_clamp (by omega), hU.1]
      refine ⟨vp_in_nI (by omega) (by decide), by rw [nI_add]; exact vp_in_nI (by omega) (by decide), ?_⟩
      rw [nI_add, nI_clamp (by omega), nI_clamp (by omega), hT u (by omega)]
      have hnew := ih (out ++ [T u]) (upd O (12 * r + out.length) (nI (T u))) ?_ hU.2 ?_ ?_
      · rw [List.length_append] at hnew
        exact nm_e (nm_r (nI_1 _) hnew)
      · exact fs_pop (xt := T) (hval u l1 (by omega)) hFU
      · intro j hj
        rw [List.length_append] at hj
        have hj' : j < out.length + 1 := hj
        by_cases e' : j = out.length
        · subst e'; rw [pk_us, fv_g_hi]
        · rw [pk_un (by omega), fv_g_lo (by omega)]; exact hO j (by omega)
      · intro q hq
        rw [pk_un (by omega)]; exact hF q hq
theorem x_so_out {post : SX → Prop} {ar T Tp : Nat → Nat} {c np n fr r : Nat} (hn : n ≤ 40) (h12 : n - fr ≤ 12) (hr : r < 20)
    (hT : ∀ i, i < n → xD i = nI (T i)) (hD : ∀ i, i < n → xDe i = nI (fe_pe (fm_o ar T) n i)) (hfull : fe_pe (fm_o ar T) n fr = n)
    (hval : ∀ u, fr ≤ u → u < n → fg_rs ar c Tp np (fo_op ar (T u)) (T u) (T u)) {xO0 : Nat → Int32}
    (hp : ∀ U O out, ff_PF (fg_rs ar c Tp np) 1 (fe_sl T fr (n - fr)) out → (∀ j, j < out.length → O (12 * r + j) = nI (fv_g out j)) →
      (∀ q, (q < 12 * r ∨ 12 * r + 12 ≤ q) → O q = xO0 q) → post (xcc, nI n, xas, xss, xnc, xdp, xoc, xrs, xrt, xrf, xrz, xA, xD, xDe, U, xRc, xP, xPe, xPl, O, upd xOl r (nI out.length), xAr, xS, xSe, xSn, xF, xNc, xNf, xNs, xNz, xCr, xCn, xCv, xOp, xRl, xTa, xUt)) :
    ∀ d p st out U O, p + d = n → fr ≤ p → fs_SO (fg_rs ar c Tp np) T (fm_o ar T) fr st p out → fs_stk U st → (∀ j, j < out.length → O (12 * r + j) = nI (fv_g out j)) →
      (∀ q, (q < 12 * r ∨ 12 * r + 12 ≤ q) → O q = xO0 q) →
      wX_storeOutcome_14 post (nI r) (nI (12 * r)) xcc (nI n) xas xss xnc xdp xoc xrs xrt xrf xrz (d + 1) (nI out.length) (nI st.length) (nI p) xA xD xDe U xRc xP xPe xPl O xOl xAr xS xSe xSn xF xNc xNf xNs xNz xCr xCn xCv xOp xRl xTa xUt := by
  have hop : ∀ j k y, fg_rs ar c Tp np k (T j) y → fm_o ar T j = k := fun j k y h => h.2.1.symm
  intro d
  induction d with
  | zero =>
    intro p st out U O hpd hf hS hU hO hF
    have : p = n := by omega
    subst this
    refine br_t (nI_le (Nat.le_refl _) (by omega)) ⟨vp_in_nI hr (by decide), nm_r (by rw [nI_clamp (by omega)]) (hp U O out ?_ hO hF)⟩
    cases st with
    | nil => exact fs_final hop hS hfull (by omega)
    | cons u st =>
      obtain ⟨m, o0, o1, hu, hm, hpf, ho, hS'⟩ := id hS
      have hfu := (fs_len _ _ _ hS').1
      have he := fs_endS (N := p) hop hS (Nat.le_refl _) (by omega)
      have hb := (fe_pe_sub (fm_o ar T) hfull (by omega) hfu (by omega)).2
      unfold fe_pe at hb
      omega
  | succ d ih =>
    intro p st out U O hpd hf hS hU hO hF
    have hl := fs_len _ _ _ hS
    refine br_f (nI_ge (by omega) (by omega)) ⟨vp_in_nI (by omega) (by decide), nm_r (e' := upd U st.length (nI p)) (by rw [nI_clamp (by omega)]) (nm_r (nI_1 _) ⟨(p :: st).length + 1, ?_⟩)⟩
    refine x_so_in (xUw := upd U st.length (nI p)) hn (by omega) hf h12 hr hT hD hfull hval (fun st' out' O' a1 a2 a3 a4 => ih (p + 1) st' out' _ O' (by omega) (by omega) a1 a2 a3 a4) (p :: st) out O ?_ ⟨pk_us, fs_stk_u st _ (Nat.le_refl _) hU⟩ hO hF
    by_cases z : 0 < fm_o ar T p
    · exact Or.inl ((fs_push hS).1 z)
    · exact Or.inr ⟨p, st, rfl, (fs_push hS).2 (by omega)⟩
theorem x_so {post : SX → Prop} {ar T Tp : Nat → Nat} {c np n fr r : Nat} (hn : n ≤ 40) (hf : fr < n) (h12 : n - fr ≤ 12) (hr : r < 20)
    (hT : ∀ i, i < n → xD i = nI (T i)) (hD : ∀ i, i < n → xDe i = nI (fe_pe (fm_o ar T) n i)) (hfull : fe_pe (fm_o ar T) n fr = n)
    (hval : ∀ u, fr ≤ u → u < n → fg_rs ar c Tp np (fo_op ar (T u)) (T u) (T u))
    (hp : ∀ U O out, ff_PF (fg_rs ar c Tp np) 1 (fe_sl T fr (n - fr)) out → (∀ j, j < out.length → O (12 * r + j) = nI (fv_g out j)) →
      (∀ q, (q < 12 * r ∨ 12 * r + 12 ≤ q) → O q = xO q) → post (xcc, nI n, xas, xss, xnc, xdp, xoc, xrs, xrt, xrf, xrz, xA, xD, xDe, U, xRc, xP, xPe, xPl, O, upd xOl r (nI out.length), xAr, xS, xSe, xSn, xF, xNc, xNf, xNs, xNz, xCr, xCn, xCv, xOp, xRl, xTa, xUt)) :
    wpX_storeOutcome post (xcc, nI n, xas, xss, xnc, xdp, xoc, xrs, xrt, xrf, xrz, xA, xD, xDe, xUw, xRc, xP, xPe, xPl, xO, xOl, xAr, xS, xSe, xSn, xF, xNc, xNf, xNs, xNz, xCr, xCn, xCv, xOp, xRl, xTa, xUt) (nI r) (nI fr) :=
  nm_r ((fo_m12 r).trans (congrArg nI (Nat.mul_comm r 12))) ⟨n - fr + 1, x_so_out hn h12 hr hT hD hfull hval hp (n - fr) fr [] [] xUw xO (by omega) (Nat.le_refl _) fs_start trivial (fun j hj => by cases hj) (fun q _ => rfl)⟩
end
