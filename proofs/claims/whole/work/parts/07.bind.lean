/-- the walk that binds: k terms from i against k values from p -/
def fb_CH (fit : Nat → Nat → Bool) (pe E : Nat → Nat) (n m : Nat) : Nat → Nat → Nat → Prop
  | 0, i, _ => i = n
  | k + 1, i, p => i < n ∧ p < m ∧ fit i p = true ∧ fb_CH fit pe E n m k (pe i) (E p)
/-- where the places stand -/
def fb_PL (pe E pl : Nat → Nat) : Nat → Nat → Nat → Prop
  | 0, _, _ => True
  | k + 1, i, p => pl i = p ∧ fb_PL pe E pl k (pe i) (E p)
theorem fb_PL_c {fit : Nat → Nat → Bool} {pe E pl pl' : Nat → Nat} {n m : Nat} (hpe : ∀ i, i < n → i < pe i) : ∀ k i p, (∀ q, i ≤ q → pl' q = pl q) →
    fb_CH fit pe E n m k i p → fb_PL pe E pl k i p → fb_PL pe E pl' k i p := by
  intro k
  induction k with
  | zero => intro i p _ _ h; trivial
  | succ k ih =>
    intro i p h hc hp
    obtain ⟨a, b, c, d⟩ := hc
    have := hpe i a
    exact ⟨by rw [h i (Nat.le_refl _)]; exact hp.1, ih _ _ (fun q hq => h q (by omega)) d hp.2⟩
section
variable {ar T S : Nat → Nat} {n m : Nat}
/-- a constructor against a constructor -/
theorem fb_con (hT : fe_full (fm_o ar T) n) (hS : fe_full (fm_v ar S) m) (ha : ∀ i, ar i ≤ 2) {k i p : Nat}
    (hc : fb_CH (fm_F ar T n S m) (fe_pe (fm_o ar T) n) (fe_pe (fm_v ar S) m) n m (k + 1) i p) (h2 : T i / 8 = 2) :
    S p = T i % 8 ∧ fb_CH (fm_F ar T n S m) (fe_pe (fm_o ar T) n) (fe_pe (fm_v ar S) m) n m (ar (T i % 8) + k) (i + 1) (p + 1) ∧
      (1 ≤ ar (T i % 8) → i + 1 < n ∧ p + 1 < m) ∧
      (ar (T i % 8) = 2 → i + 1 < fe_pe (fm_o ar T) n (i + 1) ∧ fe_pe (fm_o ar T) n (i + 1) < n ∧ fe_pe (fm_o ar T) n (i + 1) < fe_pe (fm_o ar T) n i ∧
        fe_pe (fm_v ar S) m (p + 1) < m) := by
  obtain ⟨hi, hp, hf, hr⟩ := hc
  rw [fm_un hT S m hi p, if_neg (by omega), if_neg (by omega), if_pos h2] at hf
  simp only [Bool.and_eq_true, Bool.or_eq_true, decide_eq_true_eq] at hf
  obtain ⟨⟨f0, f1⟩, f2⟩ := hf
  have ei := fe_full_e hT hi
  have ep := fe_full_e hS hp
  have eo : fm_o ar T i = ar (T i % 8) := fo_op2 h2
  have ev : fm_v ar S p = ar (T i % 8) := by show ar (S p) = _; rw [f0]
  have h3 := ha (T i % 8)
  refine ⟨f0, ?_⟩
  by_cases z0 : ar (T i % 8) = 0
  · rw [z0]
    rw [fe_pe_c0 _ hi (eo.trans z0), fe_pe_c0 _ hp (ev.trans z0)] at hr
    refine ⟨by rw [Nat.zero_add]; exact hr, fun h => by omega, fun h => by omega⟩
  · by_cases z1 : ar (T i % 8) = 1
    · rw [z1]
      obtain ⟨a1, a2⟩ := fe_pe_c1 _ hi ei.2 hT.2.1 (eo.trans z1)
      obtain ⟨b1, b2⟩ := fe_pe_c1 _ hp ep.2 hS.2.1 (ev.trans z1)
      rw [a2, b2] at hr
      refine ⟨?_, fun _ => ⟨a1, b1⟩, fun h => by omega⟩
      rw [Nat.add_comm]
      exact ⟨a1, b1, f1.resolve_left (by omega), hr⟩
    · have z2 : ar (T i % 8) = 2 := by omega
      rw [z2]
      obtain ⟨a1, a2, a3, a4, a5⟩ := fe_pe_c2 _ hi ei.2 hT.2.1 (eo.trans z2)
      obtain ⟨b1, b2, b3, b4, b5⟩ := fe_pe_c2 _ hp ep.2 hS.2.1 (ev.trans z2)
      rw [a4, b4] at hr
      refine ⟨?_, fun _ => ⟨a1, b1⟩, fun _ => ⟨a2, a3, a5, b3⟩⟩
      rw [show 2 + k = (k + 1) + 1 by omega]
      exact ⟨a1, b1, f1.resolve_left (by omega), a3, b3, f2.resolve_left (by omega), hr⟩
/-- the walk itself: what each variable is bound to -/
def fb_w (T pe E : Nat → Nat) (n : Nat) : Nat → Nat → Nat → (Nat → Option Nat) → Nat → Option Nat
  | 0, _, _, b => b
  | d + 1, i, p, b =>
    if i < n then
      if T i / 8 = 2 then fb_w T pe E n d (i + 1) (p + 1) b
      else fb_w T pe E n d (pe i) (E p) (if T i / 8 = 1 then fun v => if v = T i % 8 then some p else b v else b)
    else b
theorem fb_w_out {T pe E : Nat → Nat} {n : Nat} {i p : Nat} {b : Nat → Option Nat} (h : ¬ i < n) : ∀ d, fb_w T pe E n d i p b = b := by
  intro d
  cases d with
  | zero => rfl
  | succ d => simp only [fb_w]; rw [if_neg h]
theorem fb_w_con {T pe E : Nat → Nat} {n d i p : Nat} {b : Nat → Option Nat} (h : i < n) (h2 : T i / 8 = 2) :
    fb_w T pe E n (d + 1) i p b = fb_w T pe E n d (i + 1) (p + 1) b := by
  simp only [fb_w]; rw [if_pos h, if_pos h2]
theorem fb_w_var {T pe E : Nat → Nat} {n d i p : Nat} {b : Nat → Option Nat} (h : i < n) (h1 : T i / 8 = 1) :
    fb_w T pe E n (d + 1) i p b = fb_w T pe E n d (pe i) (E p) (fun v => if v = T i % 8 then some p else b v) := by
  simp only [fb_w]; rw [if_pos h, if_neg (by omega), if_pos h1]
theorem fb_w_oth {T pe E : Nat → Nat} {n d i p : Nat} {b : Nat → Option Nat} (h : i < n) (h2 : T i / 8 ≠ 2) (h1 : T i / 8 ≠ 1) :
    fb_w T pe E n (d + 1) i p b = fb_w T pe E n d (pe i) (E p) b := by
  simp only [fb_w]; rw [if_pos h, if_neg h2, if_neg h1]
theorem fb_w_some {T pe E : Nat → Nat} {n : Nat} {v : Nat} : ∀ d i p b, (∃ q, b v = some q) → ∃ q, fb_w T pe E n d i p b v = some q := by
  intro d
  induction d with
  | zero => intro i p b h; exact h
  | succ d ih =>
    intro i p b h
    by_cases hi : i < n
    · by_cases h2 : T i / 8 = 2
      · rw [fb_w_con hi h2]; exact ih _ _ _ h
      · by_cases h1 : T i / 8 = 1
        · rw [fb_w_var hi h1]
          refine ih _ _ _ ?_
          by_cases e : v = T i % 8
          · exact ⟨p, if_pos e⟩
          · obtain ⟨q, hq⟩ := h
            exact ⟨q, by rw [if_neg e]; exact hq⟩
        · rw [fb_w_oth hi h2 h1]; exact ih _ _ _ h
    · rw [fb_w_out hi]; exact h
theorem fb_w_lt (hT : fe_full (fm_o ar T) n) (hS : fe_full (fm_v ar S) m) (ha : ∀ i, ar i ≤ 2) : ∀ d k i p b,
    fb_CH (fm_F ar T n S m) (fe_pe (fm_o ar T) n) (fe_pe (fm_v ar S) m) n m k i p → (∀ v q, b v = some q → q < m) →
    ∀ v q, fb_w T (fe_pe (fm_o ar T) n) (fe_pe (fm_v ar S) m) n d i p b v = some q → q < m := by
  intro d
  induction d with
  | zero => intro k i p b _ h; exact h
  | succ d ih =>
    intro k i p b hc h
    by_cases hi : i < n
    · cases k with
      | zero => have : i = n := hc
                omega
      | succ k =>
        by_cases h2 : T i / 8 = 2
        · rw [fb_w_con hi h2]
          exact ih _ _ _ _ (fb_con hT hS ha hc h2).2.1 h
        · by_cases h1 : T i / 8 = 1
          · rw [fb_w_var hi h1]
            refine ih _ _ _ _ hc.2.2.2 ?_
            intro v q hq
            by_cases e : v = T i % 8
            · rw [if_pos e] at hq
              have : p = q := Option.some.inj hq
              have := hc.2.1
              omega
            · rw [if_neg e] at hq
              exact h v q hq
          · rw [fb_w_oth hi h2 h1]
            exact ih _ _ _ _ hc.2.2.2 h
    · rw [fb_w_out hi]; exact h
/-- every variable of the pattern is bound -/
theorem fb_w_all (hT : fe_full (fm_o ar T) n) (E : Nat → Nat) (hv : ∀ i j, i < n → (T i / 8 = 3 ∨ T i / 8 = 4) → i ≤ j → j < fe_pe (fm_o ar T) n i → T j / 8 ≠ 1)
    (h5 : ∀ i, i < n → T i / 8 < 5) : ∀ d i p b j, n ≤ i + d → i ≤ j → j < n → T j / 8 = 1 →
    ∃ q, fb_w T (fe_pe (fm_o ar T) n) E n d i p b (T j % 8) = some q := by
  intro d
  induction d with
  | zero => intro i p b j h1 h2 h3; omega
  | succ d ih =>
    intro i p b j h1 h2 h3 h4
    have hi : i < n := by omega
    by_cases k2 : T i / 8 = 2
    · rw [fb_w_con hi k2]
      have : i ≠ j := fun e => by subst e; omega
      exact ih _ _ _ j (by omega) (by omega) h3 h4
    · have ei := fe_full_e hT hi
      by_cases k1 : T i / 8 = 1
      · rw [fb_w_var hi k1]
        by_cases e : i = j
        · subst e
          exact fb_w_some _ _ _ _ ⟨p, if_pos rfl⟩
        · have : fe_pe (fm_o ar T) n i = i + 1 := fe_pe_c0 _ hi (fo_op01 (Or.inr k1))
          exact ih _ _ _ j (by omega) (by omega) h3 h4
      · rw [fb_w_oth hi k2 k1]
        have : i ≠ j := fun e => by subst e; omega
        have h5i := h5 i hi
        by_cases k0 : T i / 8 = 0
        · have : fe_pe (fm_o ar T) n i = i + 1 := fe_pe_c0 _ hi (fo_op01 (Or.inl k0))
          exact ih _ _ _ j (by omega) (by omega) h3 h4
        · have g : ¬ j < fe_pe (fm_o ar T) n i := fun hlt => hv i j hi (by omega) h2 hlt h4
          exact ih _ _ _ j (by omega) (by omega) h3 h4
/-- more fuel than tokens changes nothing -/
theorem fb_w_fuel (hT : fe_full (fm_o ar T) n) (E : Nat → Nat) : ∀ d d' i p b, n ≤ i + d → n ≤ i + d' →
    fb_w T (fe_pe (fm_o ar T) n) E n d i p b = fb_w T (fe_pe (fm_o ar T) n) E n d' i p b := by
  intro d
  induction d with
  | zero => intro d' i p b h1 h2; rw [fb_w_out (by omega), fb_w_out (by omega)]
  | succ d ih =>
    intro d' i p b h1 h2
    by_cases hi : i < n
    · have ei := fe_full_e hT hi
      cases d' with
      | zero => omega
      | succ d' =>
        by_cases k2 : T i / 8 = 2
        · rw [fb_w_con hi k2, fb_w_con hi k2]
          exact ih _ _ _ _ (by omega) (by omega)
        · by_cases k1 : T i / 8 = 1
          · rw [fb_w_var hi k1, fb_w_var hi k1]
            exact ih _ _ _ _ (by omega) (by omega)
          · rw [fb_w_oth hi k2 k1, fb_w_oth hi k2 k1]
            exact ih _ _ _ _ (by omega) (by omega)
    · rw [fb_w_out hi, fb_w_out hi]
end
