/-- the drafts -/
def fR_draft (c n : Nat) (T : Nat → Nat) (xd yk yw : Nat → Int32) : Prop :=
  ∀ i, i < n → fo_tk c (T i) ∧ xd i = nI (T i) ∧ yk i = nI (T i / 8) ∧ ((T i / 8 = 1 ∨ T i / 8 = 2 ∨ T i / 8 = 5) → yw i = nI (T i % 8))
/-- a row, at r: its pattern T of n tokens, its result as a list with heads first and as one with heads last -/
def fR_row (ar : Nat → Nat) (c : Nat) (xp xe xo xl yk yw : Nat → Int32) (T : Nat → Nat) (n : Nat) (pre pos : List Nat) (r : Nat) : Prop :=
  n ≤ 12 ∧ fe_full (fm_o ar T) n ∧
  (∀ j, j < n → fo_tk c (T j) ∧ T j / 8 < 5 ∧ xp (12 * r + j) = nI (T j) ∧ xe (12 * r + j) = nI (fe_pe (fm_o ar T) n j) ∧ yk (24 * r + j) = nI (T j / 8) ∧
    ((T j / 8 = 1 ∨ T j / 8 = 2) → yw (24 * r + j) = nI (T j % 8))) ∧
  (∀ i j, i < n → (T i / 8 = 3 ∨ T i / 8 = 4) → i ≤ j → j < fe_pe (fm_o ar T) n i → T j / 8 ≠ 1) ∧
  ff_PF (fg_rs ar c T n) 1 pre pos ∧ pre.length ≤ 12 ∧ xl r = nI pos.length ∧
  (∀ j, j < pos.length → xo (12 * r + j) = nI (fv_g pos j)) ∧
  (∀ j, j < pre.length → yk (24 * r + 12 + j) = nI (fv_g pre j / 8) ∧ yw (24 * r + 12 + j) = nI (fv_g pre j % 8))
/-- what the reference keeps of its own survey -/
def fR_know (ar : Nat → Nat) (rw' : (Nat → Nat) → Nat → Nat) (c f : Nat) (yn yc yz yo : Nat → Int32) : Prop :=
  yn f = 0 ∨ (yn f = 1 ∧ (∀ s r, 1 ≤ s → s ≤ 5 → r ≤ 5 → yc (30 * f + 5 * r + (s - 1)) = nI (fd_ct ar rw' c s r)) ∧
    ((yz f = 0 ∧ ∀ s, 1 ≤ s → s ≤ 5 → fd_ct ar rw' c s 0 = 0) ∨
      ∃ s j, 1 ≤ s ∧ s ≤ 5 ∧ yz f = nI s ∧ (∀ s', 1 ≤ s' → s' < s → fd_ct ar rw' c s' 0 = 0) ∧ j < c ^ s ∧ fd_P ar rw' c s 0 j = true ∧
        fd_cn (fd_P ar rw' c s 0) j = 0 ∧ ∀ i, i < s → yo (5 * f + i) = nI (fd_S c s j i)))
/-- a value in an array -/
def fR_val (ar : Nat → Nat) (c m : Nat) (W : Nat → Nat) (a : Nat → Int32) : Prop :=
  m ≤ 40 ∧ fe_full (fm_v ar W) m ∧ ∀ i, i < m → W i < c ∧ a i = nI (W i)
theorem fR_val_up {ar : Nat → Nat} {c m x : Nat} {W : Nat → Nat} {a : Nat → Int32} (h : fR_val ar c m W a) : fR_val (fo_u ar c x) (c + 1) m W a := by
  obtain ⟨h1, h2, h3⟩ := h
  refine ⟨h1, fe_full_congr (fun j hj => ?_) h2, fun i hi => ⟨by have := (h3 i hi).1; omega, (h3 i hi).2⟩⟩
  show ar (W j) = fo_u ar c x (W j)
  rw [fo_un (by have := (h3 j hj).1; omega)]
theorem fm_o_up {ar T : Nat → Nat} {c n x : Nat} (h : ∀ j, j < n → fo_tk c (T j)) : ∀ j, j < n → fm_o ar T j = fm_o (fo_u ar c x) T j := by
  intro j hj
  show fo_op ar (T j) = fo_op (fo_u ar c x) (T j)
  rw [fo_op_up (h j hj)]
theorem fR_draft_up {c n : Nat} {T : Nat → Nat} {xd yk yw : Nat → Int32} (h : fR_draft c n T xd yk yw) : fR_draft (c + 1) n T xd yk yw := by
  intro i hi
  obtain ⟨a, b⟩ := h i hi
  exact ⟨fo_tk_up a (by omega), b⟩
theorem fR_row_up {ar : Nat → Nat} {c x : Nat} {xp xe xo xl yk yw : Nat → Int32} {T : Nat → Nat} {n : Nat} {pre pos : List Nat} {r : Nat}
    (h : fR_row ar c xp xe xo xl yk yw T n pre pos r) : fR_row (fo_u ar c x) (c + 1) xp xe xo xl yk yw T n pre pos r := by
  obtain ⟨h1, h2, h3, h4, h5, h6⟩ := h
  have e := fm_o_up (x := x) (fun j hj => (h3 j hj).1) (ar := ar)
  have e2 := fe_pe_congr _ _ e
  refine ⟨h1, fe_full_congr e h2, fun j hj => ?_, fun i j hi hk hij hj => ?_, fg_rs_up h5, h6⟩
  · obtain ⟨a1, a2, a3, a4, a5⟩ := h3 j hj
    exact ⟨fo_tk_up a1 (by omega), a2, a3, by rw [← e2]; exact a4, a5⟩
  · rw [← e2] at hj
    exact h4 i j hi hk hij hj
