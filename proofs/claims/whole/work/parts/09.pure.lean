/-- what is wrong with a pattern of the tokens T up to e -/
def fp_bad (T pe : Nat → Nat) (e : Nat) : Prop :=
  ∃ q, q < e ∧ (T q / 8 = 5 ∨ (T q / 8 = 1 ∧ ((∃ i, i < q ∧ T i = T q) ∨ ∃ i, i ≤ q ∧ (T i / 8 = 3 ∨ T i / 8 = 4) ∧ q < pe i)))
/-- the set of the variables of the first tokens -/
def fp_set (T : Nat → Nat) : Nat → Nat
  | 0 => 0
  | i + 1 => if T i / 8 = 1 then fp_set T i ||| 2 ^ (T i % 8) else fp_set T i
theorem fp_or : ∀ s, s < 16 → ∀ v, v < 4 → s ||| 2 ^ v < 16 := by decide +kernel
theorem fp_orb : ∀ s, s < 16 → ∀ v, v < 4 → ∀ w, w < 4 → ((s ||| 2 ^ v).testBit w = true ↔ s.testBit w = true ∨ w = v) := by decide +kernel
theorem fp_set_lt {T : Nat → Nat} : ∀ n, (∀ i, i < n → T i / 8 = 1 → T i % 8 < 4) → fp_set T n < 16 := by
  intro n
  induction n with
  | zero => intro _; exact (by decide : 0 < 16)
  | succ n ih =>
    intro h
    have a := ih (fun i hi => h i (by omega))
    simp only [fp_set]
    split
    · exact fp_or _ a _ (h n (by omega) (by assumption))
    · exact a
theorem fp_set_bit {T : Nat → Nat} {v : Nat} (hv : v < 4) : ∀ n, (∀ i, i < n → T i / 8 = 1 → T i % 8 < 4) →
    ((fp_set T n).testBit v = true ↔ ∃ i, i < n ∧ T i = 8 + v) := by
  intro n
  induction n with
  | zero => intro _; constructor
            · intro h; simp [fp_set] at h
            · rintro ⟨i, hi, _⟩; omega
  | succ n ih =>
    intro h
    have a := fp_set_lt n (fun i hi => h i (by omega))
    have b := ih (fun i hi => h i (by omega))
    simp only [fp_set]
    by_cases h1 : T n / 8 = 1
    · rw [if_pos h1, fp_orb _ a _ (h n (by omega) h1) _ hv, b]
      constructor
      · rintro (⟨i, hi, e⟩ | e)
        · exact ⟨i, by omega, e⟩
        · exact ⟨n, by omega, by omega⟩
      · rintro ⟨i, hi, e⟩
        by_cases z : i = n
        · subst z; right; omega
        · left; exact ⟨i, by omega, e⟩
    · rw [if_neg h1, b]
      constructor
      · rintro ⟨i, hi, e⟩; exact ⟨i, by omega, e⟩
      · rintro ⟨i, hi, e⟩
        refine ⟨i, ?_, e⟩
        have : i ≠ n := fun z => by subst z; omega
        omega
/-- the bits as the machines see them -/
theorem fp_bx : ∀ s, s < 16 → ∀ v, v < 4 → ((nI s &&& ((1 : Int32) <<< (nI v &&& 31)) = 0 ↔ s.testBit v = false) ∧ nI s ||| ((1 : Int32) <<< (nI v &&& 31)) = nI (s ||| 2 ^ v)) := by decide +kernel
theorem fp_by : ∀ s, s < 16 → ∀ v, v < 4 → (((nI s >>> (nI v &&& 31)) &&& 1 = 1 ↔ s.testBit v = true) ∧ ((nI s >>> (nI v &&& 31)) &&& 1 = 0 ↔ s.testBit v = false)) := by decide +kernel
/-- list number j of s constructors out of c -/
def fd_S (c s j : Nat) : Nat → Nat := fun i => fd_dg c j (s - 1 - i)
/-- it is a value and the row (plus 1) that takes it is r -/
def fd_P (ar : Nat → Nat) (rw' : (Nat → Nat) → Nat → Nat) (c s r j : Nat) : Bool :=
  decide (fe_pe (fm_v ar (fd_S c s j)) s 0 = s) && decide (rw' (fd_S c s j) s = r)
def fd_ct (ar : Nat → Nat) (rw' : (Nat → Nat) → Nat → Nat) (c s r : Nat) : Nat := fd_cn (fd_P ar rw' c s r) (c ^ s)
theorem fd_low {c : Nat} (hc : 0 < c) {j m : Nat} (h : (j + 1) / c ^ m = j / c ^ m + 1) :
    (fd_dg c j m + 1 < c → fd_dg c (j + 1) m = fd_dg c j m + 1 ∧ (j + 1) / c ^ (m + 1) = j / c ^ (m + 1)) ∧
    (¬ fd_dg c j m + 1 < c → fd_dg c (j + 1) m = 0 ∧ (j + 1) / c ^ (m + 1) = j / c ^ (m + 1) + 1) := by
  have u := fd_up hc (j / c ^ m)
  unfold fd_dg
  rw [fd_div, fd_div, h]
  exact ⟨fun z => ⟨(u.1 z).2, (u.1 z).1⟩, fun z => ⟨(u.2 z).2, (u.2 z).1⟩⟩
theorem fd_pow {c s : Nat} (hc : c ≤ 6) (hs : s ≤ 5) : c ^ s ≤ 7776 := by
  have h1 : c ^ s ≤ 6 ^ s := Nat.pow_le_pow_left hc s
  have h2 : 6 ^ s ≤ 6 ^ 5 := Nat.pow_le_pow_right (by decide) hs
  have h3 : 6 ^ 5 = 7776 := by decide
  omega
theorem fd_lt0 {c s j m : Nat} (hj : j < c ^ s) (hm : m ≤ s) (h : (j + 1) / c ^ m = j / c ^ m) : j + 1 < c ^ s := by
  have e := fd_high h s hm
  rw [Nat.div_eq_of_lt hj] at e
  have hp : 0 < c ^ s := by omega
  rcases (Nat.div_eq_zero_iff).mp e with g | g
  · omega
  · exact g
theorem fd_end {c s j : Nat} (hj : j < c ^ s) (h : (j + 1) / c ^ s = j / c ^ s + 1) : j + 1 = c ^ s := by
  rw [Nat.div_eq_of_lt hj] at h
  have : c ^ s ≤ j + 1 := by
    refine Classical.byContradiction fun g => ?_
    rw [Nat.div_eq_of_lt (by omega)] at h
    omega
  omega
/-- congruence of counts -/
theorem fd_cn_congr {P Q : Nat → Bool} : ∀ n, (∀ j, j < n → P j = Q j) → fd_cn P n = fd_cn Q n := by
  intro n
  induction n with
  | zero => intro _; rfl
  | succ n ih =>
    intro h
    simp only [fd_cn]
    rw [ih (fun j hj => h j (by omega)), h n (by omega)]
theorem fd_cn_pos {P : Nat → Bool} : ∀ n, 0 < fd_cn P n ↔ ∃ j, j < n ∧ P j = true := by
  intro n
  induction n with
  | zero => constructor
            · intro h; exact absurd h (Nat.lt_irrefl _)
            · rintro ⟨j, hj, _⟩; omega
  | succ n ih =>
    simp only [fd_cn]
    constructor
    · intro h
      by_cases hp : P n = true
      · exact ⟨n, by omega, hp⟩
      · rw [if_neg hp] at h
        obtain ⟨j, hj, e⟩ := ih.mp (by omega)
        exact ⟨j, by omega, e⟩
    · rintro ⟨j, hj, e⟩
      by_cases z : j = n
      · subst z; rw [if_pos e]; omega
      · have := ih.mpr ⟨j, by omega, e⟩
        omega
theorem fd_fst (P : Nat → Bool) : ∀ n, 0 < fd_cn P n → ∃ j, j < n ∧ P j = true ∧ fd_cn P j = 0 := by
  intro n
  induction n with
  | zero => intro h; exact absurd h (Nat.lt_irrefl _)
  | succ n ih =>
    intro h
    by_cases z : 0 < fd_cn P n
    · obtain ⟨j, a, b, d⟩ := ih z
      exact ⟨j, by omega, b, d⟩
    · simp only [fd_cn] at h
      refine ⟨n, by omega, ?_, by omega⟩
      cases hp : P n with
      | true => rfl
      | false => rw [hp] at h; simp at h; omega
