/-- part i of the pattern T fits part p of the value S -/
def fm_fit (ar T pe S E : Nat → Nat) : Nat → Nat → Nat → Bool
  | 0, _, _ => false
  | d + 1, i, p =>
    if T i / 8 = 3 then fm_fit ar T pe S E d (i + 1) p || fm_fit ar T pe S E d (pe (i + 1)) p
    else if T i / 8 = 4 then !fm_fit ar T pe S E d (i + 1) p
    else if T i / 8 = 2 then
      (decide (S p = T i % 8) && (decide (ar (T i % 8) < 1) || fm_fit ar T pe S E d (i + 1) (p + 1))) &&
        (decide (ar (T i % 8) < 2) || fm_fit ar T pe S E d (pe (i + 1)) (E (p + 1)))
    else true
/-- fuel enough is enough -/
theorem fm_fuel (ar T pe S E : Nat → Nat) (n : Nat)
    (hk : ∀ i, i < n → 1 ≤ fo_op ar (T i) → i + 1 < n) (hp : ∀ i, i < n → 2 ≤ fo_op ar (T i) → i + 1 < pe (i + 1) ∧ pe (i + 1) < n) :
    ∀ d d' i p, i < n → n ≤ i + d → n ≤ i + d' → fm_fit ar T pe S E d i p = fm_fit ar T pe S E d' i p := by
  intro d
  induction d with
  | zero => intro d' i p h1 h2; omega
  | succ d ih =>
    intro d' i p h1 h2 h3
    cases d' with
    | zero => omega
    | succ d' =>
      have a1 : 1 ≤ fo_op ar (T i) → ∀ q, fm_fit ar T pe S E d (i + 1) q = fm_fit ar T pe S E d' (i + 1) q := fun h q =>
        ih d' (i + 1) q (hk i h1 h) (by omega) (by omega)
      have a2 : 2 ≤ fo_op ar (T i) → ∀ q, fm_fit ar T pe S E d (pe (i + 1)) q = fm_fit ar T pe S E d' (pe (i + 1)) q := fun h q => by
        obtain ⟨u, w⟩ := hp i h1 h
        exact ih d' _ q w (by omega) (by omega)
      simp only [fm_fit]
      by_cases k3 : T i / 8 = 3
      · rw [if_pos k3, if_pos k3, a1 (by rw [fo_op3 k3]; omega), a2 (by rw [fo_op3 k3]; omega)]
      · rw [if_neg k3, if_neg k3]
        by_cases k4 : T i / 8 = 4
        · rw [if_pos k4, if_pos k4, a1 (by rw [fo_op45 (Or.inl k4)]; omega)]
        · rw [if_neg k4, if_neg k4]
          by_cases k2 : T i / 8 = 2
          · rw [if_pos k2, if_pos k2]
            rw [fo_op2 k2] at a1 a2
            by_cases z1 : ar (T i % 8) < 1
            · have z2 : ar (T i % 8) < 2 := by omega
              simp [z1, z2]
            · rw [a1 (by omega)]
              by_cases z2 : ar (T i % 8) < 2
              · simp [z2]
              · rw [a2 (by omega)]
          · rw [if_neg k2, if_neg k2]
/-- the tokens' operands, the value's operands -/
def fm_o (ar T : Nat → Nat) : Nat → Nat := fun i => fo_op ar (T i)
def fm_v (ar S : Nat → Nat) : Nat → Nat := fun i => ar (S i)
/-- the pattern of n tokens T, part i, and the value of m constructors S, part p -/
def fm_F (ar T : Nat → Nat) (n : Nat) (S : Nat → Nat) (m i p : Nat) : Bool :=
  fm_fit ar T (fe_pe (fm_o ar T) n) S (fe_pe (fm_v ar S) m) (n - i) i p
theorem fm_un {ar T : Nat → Nat} {n : Nat} (h : fe_full (fm_o ar T) n) (S : Nat → Nat) (m : Nat) {i : Nat} (hi : i < n) (p : Nat) :
    fm_F ar T n S m i p =
    (if T i / 8 = 3 then fm_F ar T n S m (i + 1) p || fm_F ar T n S m (fe_pe (fm_o ar T) n (i + 1)) p
    else if T i / 8 = 4 then !fm_F ar T n S m (i + 1) p
    else if T i / 8 = 2 then
      (decide (S p = T i % 8) && (decide (ar (T i % 8) < 1) || fm_F ar T n S m (i + 1) (p + 1))) &&
        (decide (ar (T i % 8) < 2) || fm_F ar T n S m (fe_pe (fm_o ar T) n (i + 1)) (fe_pe (fm_v ar S) m (p + 1)))
    else true) := by
  have hk : ∀ i, i < n → 1 ≤ fo_op ar (T i) → i + 1 < n := by
    intro i hi h1
    have e := fe_full_e h hi
    by_cases z : fo_op ar (T i) = 1
    · exact (fe_pe_c1 _ hi e.2 h.2.1 z).1
    · have g := fe_pe_in (fm_o ar T) hi e.2 h.2.1 (k := 1) (show 1 < fo_op ar (T i) by omega)
      omega
  have hp : ∀ i, i < n → 2 ≤ fo_op ar (T i) → i + 1 < fe_pe (fm_o ar T) n (i + 1) ∧ fe_pe (fm_o ar T) n (i + 1) < n := by
    intro i hi h1
    have e := fe_full_e h hi
    have g := fe_pe_in (fm_o ar T) hi e.2 h.2.1 (k := 1) (show 1 < fo_op ar (T i) by omega)
    have l := hk i hi (by omega)
    exact ⟨(fe_full_e h l).1, g.2⟩
  have hf := fm_fuel ar T (fe_pe (fm_o ar T) n) S (fe_pe (fm_v ar S) m) n hk hp
  have g1 : 2 ≤ fo_op ar (T i) → ∀ q, fm_fit ar T (fe_pe (fm_o ar T) n) S (fe_pe (fm_v ar S) m) (n - (i + 1)) (fe_pe (fm_o ar T) n (i + 1)) q
      = fm_F ar T n S m (fe_pe (fm_o ar T) n (i + 1)) q := by
    intro h2 q
    obtain ⟨u, w⟩ := hp i hi h2
    exact hf _ _ _ _ w (by omega) (by omega)
  have e : fm_F ar T n S m i p = fm_fit ar T (fe_pe (fm_o ar T) n) S (fe_pe (fm_v ar S) m) ((n - (i + 1)) + 1) i p := by
    unfold fm_F
    rw [show n - i = (n - (i + 1)) + 1 by omega]
  rw [e]
  simp only [fm_fit]
  by_cases k3 : T i / 8 = 3
  · rw [if_pos k3, if_pos k3, g1 (by rw [fo_op3 k3]; omega)]
    rfl
  · rw [if_neg k3, if_neg k3]
    by_cases k4 : T i / 8 = 4
    · rw [if_pos k4, if_pos k4]
      rfl
    · rw [if_neg k4, if_neg k4]
      by_cases k2 : T i / 8 = 2
      · rw [if_pos k2, if_pos k2]
        rw [fo_op2 k2] at g1
        by_cases z2 : ar (T i % 8) < 2
        · simp only [z2, decide_true, Bool.true_or]
          rfl
        · rw [g1 (by omega)]
          rfl
      · rw [if_neg k2, if_neg k2]
/-- the first row from r on that takes it, plus 1; 0: none of the d rows -/
def fm_tk (M : Nat → Bool) : Nat → Nat → Nat
  | 0, _ => 0
  | d + 1, r => if M r = true then r + 1 else fm_tk M d (r + 1)
theorem fm_tk_le (M : Nat → Bool) : ∀ d r, fm_tk M d r ≤ r + d := by
  intro d
  induction d with
  | zero => intro r; exact Nat.zero_le _
  | succ d ih =>
    intro r
    simp only [fm_tk]
    split
    · omega
    · have := ih (r + 1); omega
theorem fm_tk_congr (M M' : Nat → Bool) : ∀ d r, (∀ i, r ≤ i → i < r + d → M i = M' i) → fm_tk M d r = fm_tk M' d r := by
  intro d
  induction d with
  | zero => intro r _; rfl
  | succ d ih =>
    intro r h
    simp only [fm_tk]
    rw [h r (by omega) (by omega), ih (r + 1) (fun i a b => h i (by omega) (by omega))]
/-- which row of function f takes the value S of m constructors, plus 1 -/
def fm_row (ar : Nat → Nat) (pat : Nat → Nat → Nat) (pl rc : Nat → Nat) (f : Nat) (S : Nat → Nat) (m : Nat) : Nat :=
  fm_tk (fun i => fm_F ar (pat (5 * f + i)) (pl (5 * f + i)) S m 0 0) (rc f) 0
/-- only the function's own rows count -/
theorem fm_row_congr {ar : Nat → Nat} {pat pat' : Nat → Nat → Nat} {pl pl' rc rc' : Nat → Nat} {f : Nat} (S : Nat → Nat) (m : Nat)
    (hr : rc' f = rc f) (hp : ∀ i, i < rc f → pat' (5 * f + i) = pat (5 * f + i) ∧ pl' (5 * f + i) = pl (5 * f + i)) :
    fm_row ar pat' pl' rc' f S m = fm_row ar pat pl rc f S m := by
  unfold fm_row
  rw [hr]
  exact fm_tk_congr _ _ _ _ (fun i _ h => by rw [(hp i (by omega)).1, (hp i (by omega)).2])
theorem fm_row_le (ar : Nat → Nat) (pat : Nat → Nat → Nat) (pl rc : Nat → Nat) (f : Nat) (S : Nat → Nat) (m : Nat) : fm_row ar pat pl rc f S m ≤ rc f := by
  have := fm_tk_le (fun i => fm_F ar (pat (5 * f + i)) (pl (5 * f + i)) S m 0 0) (rc f) 0
  unfold fm_row
  omega
theorem fm_tk_hit (M : Nat → Bool) : ∀ d r, fm_tk M d r ≠ 0 → r ≤ fm_tk M d r - 1 ∧ M (fm_tk M d r - 1) = true := by
  intro d
  induction d with
  | zero => intro r h; exact absurd rfl h
  | succ d ih =>
    intro r h
    simp only [fm_tk] at h ⊢
    by_cases hm : M r = true
    · rw [if_pos hm]; exact ⟨by omega, hm⟩
    · rw [if_neg hm] at h ⊢
      have := ih (r + 1) h
      exact ⟨by omega, this.2⟩
theorem fm_row_hit {ar : Nat → Nat} {pat : Nat → Nat → Nat} {pl rc : Nat → Nat} {f : Nat} {S : Nat → Nat} {m : Nat} (h : fm_row ar pat pl rc f S m ≠ 0) :
    fm_F ar (pat (5 * f + (fm_row ar pat pl rc f S m - 1))) (pl (5 * f + (fm_row ar pat pl rc f S m - 1))) S m 0 0 = true :=
  (fm_tk_hit _ _ _ h).2
/-- digit m of j to the base c -/
def fd_dg (c j m : Nat) : Nat := j / c ^ m % c
theorem fd_lt {c : Nat} (hc : 0 < c) (j m : Nat) : fd_dg c j m < c := Nat.mod_lt _ hc
theorem fd_up {c : Nat} (hc : 0 < c) (a : Nat) : (a % c + 1 < c → (a + 1) / c = a / c ∧ (a + 1) % c = a % c + 1) ∧
    (¬ a % c + 1 < c → (a + 1) / c = a / c + 1 ∧ (a + 1) % c = 0) := by
  have e := Nat.div_add_mod a c
  have l := Nat.mod_lt a hc
  refine ⟨fun h => (Nat.div_mod_unique hc).mpr ⟨by omega, h⟩, fun h => (Nat.div_mod_unique hc).mpr ⟨?_, hc⟩⟩
  rw [Nat.mul_add, Nat.mul_one]; omega
theorem fd_div (c j m : Nat) : j / c ^ (m + 1) = j / c ^ m / c := by rw [Nat.pow_succ, Nat.div_div_eq_div_mul]
theorem fd_high {c j j' m : Nat} (h : j / c ^ m = j' / c ^ m) : ∀ t, m ≤ t → j / c ^ t = j' / c ^ t := by
  intro t
  induction t with
  | zero => intro h2; have : m = 0 := by omega
            subst this; exact h
  | succ t ih =>
    intro h2
    by_cases e : m = t + 1
    · subst e; exact h
    · rw [fd_div, fd_div, ih (by omega)]
/-- how many below n -/
def fd_cn (P : Nat → Bool) : Nat → Nat
  | 0 => 0
  | n + 1 => fd_cn P n + if P n = true then 1 else 0
theorem fd_cn_le (P : Nat → Bool) : ∀ n, fd_cn P n ≤ n := by
  intro n
  induction n with
  | zero => exact Nat.le_refl _
  | succ n ih => simp only [fd_cn]; split <;> omega
theorem fd_cn_mono (P : Nat → Bool) : ∀ n m, n ≤ m → fd_cn P n ≤ fd_cn P m := by
  intro n m
  induction m with
  | zero => intro h; have : n = 0 := by omega
            subst this; exact Nat.le_refl _
  | succ m ih =>
    intro h
    by_cases e : n = m + 1
    · subst e; exact Nat.le_refl _
    · have := ih (by omega)
      simp only [fd_cn]; omega
/-- the first is one -/
theorem fd_first (P : Nat → Bool) {i j : Nat} (hi : P i = true) (zi : fd_cn P i = 0) (hj : P j = true) (zj : fd_cn P j = 0) : i = j := by
  have step : ∀ a b, P a = true → fd_cn P b = 0 → ¬ a < b := by
    intro a b ha hb hlt
    have := fd_cn_mono P (a + 1) b hlt
    simp only [fd_cn, ha, if_true] at this
    omega
  have h1 := step i j hi zj
  have h2 := step j i hj zi
  omega
