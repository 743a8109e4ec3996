section
theorem pk_us {f : Nat → Int32} {k : Nat} {x : Int32} : upd f k x k = x := if_pos rfl
theorem pk_un {f : Nat → Int32} {k j : Nat} {x : Int32} (h : j ≠ k) : upd f k x j = f j := if_neg h
theorem pk_sub {a b : Nat} (h : b ≤ a) : nI a - nI b = nI (a - b) := by
  obtain ⟨c, rfl⟩ : ∃ c, a = c + b := ⟨a - b, by omega⟩
  rw [← nI_add, Int32.add_sub_cancel, Nat.add_sub_cancel]
theorem pk_m1 (n : Nat) : nI (n + 1) + (-1) = nI n := by
  rw [← nI_1, Int32.add_assoc, show (1 : Int32) + (-1) = 0 from rfl, Int32.add_zero]
theorem pk_mul (a b : Nat) : nI a * nI b = nI (a * b) := (Int32.ofNat_mul a b).symm
theorem pk_div {a d : Nat} (ha : a < 2 ^ 31) (h0 : 0 < d) (hd : d < 2 ^ 31) : nI a / nI d = nI (a / d) := by
  apply Int32.toInt_inj.mp
  rw [lg_idiv_nonneg (by rw [nI_toInt ha]; omega) (by rw [nI_toInt hd]; omega), nI_toInt ha, nI_toInt hd, nI_toInt (Nat.lt_of_le_of_lt (Nat.div_le_self a d) ha)]
  first | rfl | exact (Int.natCast_ediv _ _).symm
theorem pk_rem {a d : Nat} (ha : a < 2 ^ 31) (h0 : 0 < d) (hd : d < 2 ^ 31) : nI a - nI a / nI d * nI d = nI (a % d) := by
  rw [pk_div ha h0 hd, pk_mul, pk_sub (Nat.div_mul_le_self a d)]
  exact congrArg nI (by have := Nat.div_add_mod' a d; omega)
theorem pk_sub_toInt {a b : Nat} (ha : a < 2 ^ 30) (hb : b < 2 ^ 30) : (nI a - nI b).toInt = (a : Int) - b := by
  rw [Int32.toInt_sub, nI_toInt (by omega), nI_toInt (by omega)]
  exact Int.bmod_eq_of_le (by omega) (by omega)
theorem pk_sneg {a b : Nat} (hb : b < 2 ^ 30) (h : a < b) : nI a - nI b < 0 := by
  rw [Int32.lt_iff_toInt_lt, pk_sub_toInt (by omega) hb, show (0 : Int32).toInt = 0 from by decide]
  omega
theorem pk_ix (x : Int32) {n : Nat} (hn : n < 2 ^ 31) : x < 0 ∨ nI n ≤ x ∨ ∃ j : Nat, j < n ∧ x = nI j := by
  by_cases h : x < 0
  · exact Or.inl h
  · obtain ⟨j, hj, rfl⟩ := nI_of h
    by_cases h2 : j < n
    · exact Or.inr (Or.inr ⟨j, h2, rfl⟩)
    · exact Or.inr (Or.inl (nI_le (by omega) hj))
theorem pk_le {x y : Int32} {A B : Prop} (a b : Nat) (f : a ≤ b → A) (g : b < a → B) (hx : x = nI a := by rfl) (hy : y = nI b := by rfl) (ha : a < 2 ^ 31 := by omega) (hb : b < 2 ^ 31 := by omega) : (x ≤ y → A) ∧ (¬ x ≤ y → B) := by
  subst hx hy
  rw [nI_leI ha hb]
  exact ⟨f, fun z => g (by omega)⟩
theorem pk_lt {x y : Int32} {A B : Prop} (a b : Nat) (f : a < b → A) (g : b ≤ a → B) (hx : x = nI a := by rfl) (hy : y = nI b := by rfl) (ha : a < 2 ^ 31 := by omega) (hb : b < 2 ^ 31 := by omega) : (x < y → A) ∧ (¬ x < y → B) := by
  subst hx hy
  rw [nI_ltI ha hb]
  exact ⟨f, fun z => g (by omega)⟩
theorem pk_eq {x y : Int32} {A B : Prop} (a b : Nat) (f : a = b → A) (g : a ≠ b → B) (hx : x = nI a := by rfl) (hy : y = nI b := by rfl) (ha : a < 2 ^ 31 := by omega) (hb : b < 2 ^ 31 := by omega) : (x = y → A) ∧ (¬ x = y → B) := by
  subst hx hy
  rw [nI_eq ha hb]
  exact ⟨f, g⟩
theorem pk_in {x : Int32} (n N : Nat) (h : n < N) (hx : x = nI n := by rfl) (hN : N < 2 ^ 31 := by omega) : vp_in x N := by
  subst hx
  exact vp_in_nI h hN
theorem pk_cl {x : Int32} (n : Nat) (hx : x = nI n := by rfl) (h : n < 2 ^ 31 := by omega) : x.toNatClampNeg = n := by
  subst hx
  exact nI_clamp h
theorem pk_tn {n : Nat} (h : n < 2 ^ 32) : (nI n).toBitVec.toNat = n := Nat.mod_eq_of_lt h
theorem pk_loop {σ : Type} (W : Nat → Nat → σ → Prop) (I : Nat → σ → Prop) (e i0 : Nat) (s : σ) (hi : i0 ≤ e) (h0 : I i0 s) (hx : ∀ n s, I e s → W (n + 1) e s)
    (hs : ∀ n i s, i < e → I i s → (∀ s', I (i + 1) s' → W n (i + 1) s') → W (n + 1) i s) : ∃ n, W n i0 s :=
  ⟨e + 1, loop_i W I e hx hs (e + 1) i0 s hi (by omega) h0⟩
theorem pk_loopD {σ : Type} (W : Nat → Nat → σ → Prop) (I : Nat → σ → Prop) (hx : ∀ n s, I 0 s → W (n + 1) 0 s)
    (hs : ∀ n i s, I (i + 1) s → (∀ s', I i s' → W n i s') → W (n + 1) (i + 1) s) : ∀ (e : Nat) (s : σ), I e s → W (e + 1) e s := by
  intro e
  induction e with
  | zero => exact fun s h => hx 0 s h
  | succ e ih => exact fun s h => hs (e + 1) e s h (fun s' h' => ih s' h')
theorem lp1 {A1 : Type} (W : Nat → A1 → Prop) (I : A1 → Prop) (μ : A1 → Nat) (hs : ∀ (n : Nat) (a1 : A1), I a1 → (∀ (b1 : A1), I b1 → μ b1 < μ a1 → W n b1) → W (n + 1) a1) (a1 : A1) (h : I a1) : ∃ n, W n a1 :=
  loop_m (σ := A1) (fun n s => W n s) (fun s => I s) (fun s => μ s) (fun n s hI hk => hs n s hI (fun b1 h9 hm => hk b1 h9 hm)) a1 h
theorem lp2 {A1 A2 : Type} (W : Nat → A1 → A2 → Prop) (I : A1 → A2 → Prop) (μ : A1 → A2 → Nat) (hs : ∀ (n : Nat) (a1 : A1) (a2 : A2), I a1 a2 → (∀ (b1 : A1) (b2 : A2), I b1 b2 → μ b1 b2 < μ a1 a2 → W n b1 b2) → W (n + 1) a1 a2) (a1 : A1) (a2 : A2) (h : I a1 a2) : ∃ n, W n a1 a2 :=
  loop_m (σ := A1 × A2) (fun n s => W n s.1 s.2) (fun s => I s.1 s.2) (fun s => μ s.1 s.2) (fun n s hI hk => hs n s.1 s.2 hI (fun b1 b2 h9 hm => hk (b1, b2) h9 hm)) (a1, a2) h
theorem lp3 {A1 A2 A3 : Type} (W : Nat → A1 → A2 → A3 → Prop) (I : A1 → A2 → A3 → Prop) (μ : A1 → A2 → A3 → Nat) (hs : ∀ (n : Nat) (a1 : A1) (a2 : A2) (a3 : A3), I a1 a2 a3 → (∀ (b1 : A1) (b2 : A2) (b3 : A3), I b1 b2 b3 → μ b1 b2 b3 < μ a1 a2 a3 → W n b1 b2 b3) → W (n + 1) a1 a2 a3) (a1 : A1) (a2 : A2) (a3 : A3) (h : I a1 a2 a3) : ∃ n, W n a1 a2 a3 :=
  loop_m (σ := A1 × A2 × A3) (fun n s => W n s.1 s.2.1 s.2.2) (fun s => I s.1 s.2.1 s.2.2) (fun s => μ s.1 s.2.1 s.2.2) (fun n s hI hk => hs n s.1 s.2.1 s.2.2 hI (fun b1 b2 b3 h9 hm => hk (b1, b2, b3) h9 hm)) (a1, a2, a3) h
theorem lp4 {A1 A2 A3 A4 : Type} (W : Nat → A1 → A2 → A3 → A4 → Prop) (I : A1 → A2 → A3 → A4 → Prop) (μ : A1 → A2 → A3 → A4 → Nat) (hs : ∀ (n : Nat) (a1 : A1) (a2 : A2) (a3 : A3) (a4 : A4), I a1 a2 a3 a4 → (∀ (b1 : A1) (b2 : A2) (b3 : A3) (b4 : A4), I b1 b2 b3 b4 → μ b1 b2 b3 b4 < μ a1 a2 a3 a4 → W n b1 b2 b3 b4) → W (n + 1) a1 a2 a3 a4) (a1 : A1) (a2 : A2) (a3 : A3) (a4 : A4) (h : I a1 a2 a3 a4) : ∃ n, W n a1 a2 a3 a4 :=
  loop_m (σ := A1 × A2 × A3 × A4) (fun n s => W n s.1 s.2.1 s.2.2.1 s.2.2.2) (fun s => I s.1 s.2.1 s.2.2.1 s.2.2.2) (fun s => μ s.1 s.2.1 s.2.2.1 s.2.2.2) (fun n s hI hk => hs n s.1 s.2.1 s.2.2.1 s.2.2.2 hI (fun b1 b2 b3 b4 h9 hm => hk (b1, b2, b3, b4) h9 hm)) (a1, a2, a3, a4) h
/-- an array of naturals -/
def fo_n (g : Nat → Nat) : Nat → Int32 := fun i => nI (g i)
def fo_u (g : Nat → Nat) (k x : Nat) : Nat → Nat := fun j => if j = k then x else g j
theorem fo_us {g : Nat → Nat} {k x : Nat} : fo_u g k x k = x := if_pos rfl
theorem fo_un {g : Nat → Nat} {k x j : Nat} (h : j ≠ k) : fo_u g k x j = g j := if_neg h
theorem fo_nu (g : Nat → Nat) (k x : Nat) : upd (fo_n g) k (nI x) = fo_n (fo_u g k x) := by
  funext j
  unfold upd fo_n fo_u
  split <;> rfl
/-- a truth value as the machine has it -/
def fo_b (b : Bool) : Int32 := if b = true then 1 else 0
theorem fo_b1 : fo_b true = 1 := rfl
theorem fo_b0 : fo_b false = 0 := rfl
theorem fo_bz (b : Bool) : fo_b b = 0 ↔ b = false := by cases b <;> decide
theorem fo_bo (b : Bool) : fo_b b = 1 ↔ b = true := by cases b <;> decide
theorem fo_bn (b : Bool) : narrow .boolean (.int (fo_b b)) = .int (fo_b b) := by cases b <;> rfl
theorem fo_bv (b : Bool) : vp_nar .boolean (fo_b b) = fo_b b := by cases b <;> rfl
theorem fo_bf (b : Bool) : fits .boolean (.int (fo_b b)) = true := by cases b <;> rfl
/-- operands of the token 8 * kind + v -/
def fo_op (ar : Nat → Nat) (t : Nat) : Nat := if t / 8 = 2 then ar (t % 8) else if t / 8 = 3 then 2 else if t / 8 = 4 ∨ t / 8 = 5 then 1 else 0
/-- a token as it may stand in the draft, with c constructors -/
def fo_tk (c t : Nat) : Prop := t / 8 = 0 ∨ (t / 8 = 1 ∧ t % 8 < 4) ∨ (t / 8 = 2 ∧ t % 8 < c) ∨ t / 8 = 3 ∨ t / 8 = 4 ∨ (t / 8 = 5 ∧ t % 8 < 4)
theorem fo_tk_le {c t : Nat} (h : fo_tk c t) : t < 48 := by
  unfold fo_tk at h
  omega
theorem fo_tk_up {c c' t : Nat} (h : fo_tk c t) (hc : c ≤ c') : fo_tk c' t := by
  unfold fo_tk at h ⊢
  omega
theorem fo_op_up {ar : Nat → Nat} {c t x : Nat} (h : fo_tk c t) : fo_op (fo_u ar c x) t = fo_op ar t := by
  unfold fo_tk at h
  unfold fo_op
  by_cases k2 : t / 8 = 2
  · rw [if_pos k2, if_pos k2, fo_un (by omega)]
  · rw [if_neg k2, if_neg k2]
theorem fo_op_le {ar : Nat → Nat} (ha : ∀ i, ar i ≤ 2) (t : Nat) : fo_op ar t ≤ 2 := by
  unfold fo_op
  have := ha (t % 8)
  split
  · exact this
  · split
    · omega
    · split <;> omega
theorem fo_op2 {ar : Nat → Nat} {t : Nat} (h : t / 8 = 2) : fo_op ar t = ar (t % 8) := if_pos h
theorem fo_op3 {ar : Nat → Nat} {t : Nat} (h : t / 8 = 3) : fo_op ar t = 2 := by
  unfold fo_op; rw [if_neg (by omega), if_pos h]
theorem fo_op45 {ar : Nat → Nat} {t : Nat} (h : t / 8 = 4 ∨ t / 8 = 5) : fo_op ar t = 1 := by
  unfold fo_op; rw [if_neg (by omega), if_neg (by omega), if_pos h]
theorem fo_op01 {ar : Nat → Nat} {t : Nat} (h : t / 8 = 0 ∨ t / 8 = 1) : fo_op ar t = 0 := by
  unfold fo_op; rw [if_neg (by omega), if_neg (by omega), if_neg (by omega)]
/-- a known number, before a predicate is met -/
theorem fo_ih {α : Type} {P : α → Prop} {a b : α} (e : a = b) (h : P b) : P a := e ▸ h
theorem fo_br {b : Bool} {A B : Prop} (h1 : b = false → A) (h2 : b = true → B) : (fo_b b = 0 → A) ∧ (¬ fo_b b = 0 → B) :=
  ⟨fun h => h1 ((fo_bz b).mp h), fun h => h2 (by cases b with | true => rfl | false => exact absurd rfl h)⟩
theorem fo_d8 {t : Nat} (h : t < 2 ^ 31) : nI t / 8 = nI (t / 8) := pk_div h (by decide) (by decide)
theorem fo_r8 {t : Nat} (h : t < 2 ^ 31) : nI t - nI t / 8 * 8 = nI (t % 8) := pk_rem h (by decide) (by decide)
theorem fo_d5 {t : Nat} (h : t < 2 ^ 31) : nI t / 5 = nI (t / 5) := pk_div h (by decide) (by decide)
theorem fo_m5 (t : Nat) : nI t * 5 = nI (t * 5) := pk_mul t 5
theorem fo_m12 (t : Nat) : nI t * 12 = nI (t * 12) := pk_mul t 12
theorem fo_m40 (t : Nat) : nI t * 40 = nI (t * 40) := pk_mul t 40
theorem fo_m4 (t : Nat) : nI t * 4 = nI (t * 4) := pk_mul t 4
theorem fo_5m (t : Nat) : 5 * nI t = nI (5 * t) := pk_mul 5 t
theorem fo_24m (t : Nat) : 24 * nI t = nI (24 * t) := pk_mul 24 t
theorem fo_30m (t : Nat) : 30 * nI t = nI (30 * t) := pk_mul 30 t
theorem fo_40m (t : Nat) : 40 * nI t = nI (40 * t) := pk_mul 40 t
theorem fo_s1 {t : Nat} (h : 1 ≤ t) : nI t - 1 = nI (t - 1) := pk_sub (b := 1) h
theorem fo_p1 {t : Nat} (h : 1 ≤ t) : nI t + (-1) = nI (t - 1) := by
  obtain ⟨u, rfl⟩ : ∃ u, t = u + 1 := ⟨t - 1, by omega⟩
  exact pk_m1 u
end
section
/-- skip k terms from i with d tokens at hand; 1000: tokens are wanting -/
def fe_en (op : Nat → Nat) : Nat → Nat → Nat → Nat
  | _, 0, i => i
  | 0, _ + 1, _ => 1000
  | d + 1, k + 1, i => fe_en op d (op i + k) (i + 1)
theorem fe_en0 (op : Nat → Nat) (d i : Nat) : fe_en op d 0 i = i := by cases d <;> rfl
theorem fe_enz (op : Nat → Nat) (k i : Nat) : fe_en op 0 (k + 1) i = 1000 := rfl
theorem fe_ens (op : Nat → Nat) (d k i : Nat) : fe_en op (d + 1) (k + 1) i = fe_en op d (op i + k) (i + 1) := rfl
/-- where it ends -/
theorem fe_rng (op : Nat → Nat) : ∀ d k i, fe_en op d k i = 1000 ∨ (i + k ≤ fe_en op d k i ∧ fe_en op d k i ≤ i + d) := by
  intro d
  induction d with
  | zero =>
    intro k i
    cases k with
    | zero => right; rw [fe_en0]; omega
    | succ k => left; rfl
  | succ d ih =>
    intro k i
    cases k with
    | zero => right; rw [fe_en0]; omega
    | succ k =>
      rw [fe_ens]
      rcases ih (op i + k) (i + 1) with h | ⟨h1, h2⟩
      · left; exact h
      · right; omega
/-- k + m terms: k, then m -/
theorem fe_add (op : Nat → Nat) (m : Nat) : ∀ d k i e, fe_en op d k i = e → e ≤ i + d → i + d < 1000 →
    fe_en op d (k + m) i = fe_en op (i + d - e) m e := by
  intro d
  induction d with
  | zero =>
    intro k i e h he hb
    cases k with
    | zero => rw [fe_en0] at h; subst h; rw [Nat.zero_add]; congr 1; omega
    | succ k => rw [fe_enz] at h; omega
  | succ d ih =>
    intro k i e h he hb
    cases k with
    | zero => rw [fe_en0] at h; subst h; rw [Nat.zero_add]; congr 1; omega
    | succ k =>
      rw [fe_ens] at h
      have h2 := ih (op i + k) (i + 1) e h (by omega) (by omega)
      rw [show k + 1 + m = (k + m) + 1 by omega, fe_ens, ← Nat.add_assoc, h2]
      congr 1; omega
/-- one term more, as a table walks -/
theorem fe_snoc (op : Nat → Nat) : ∀ d k i, i + d < 1000 →
    fe_en op d (k + 1) i = if fe_en op d k i < i + d then fe_en op (i + d - fe_en op d k i) 1 (fe_en op d k i) else 1000 := by
  intro d k i hb
  rcases fe_rng op d k i with h | ⟨h1, h2⟩
  · rw [if_neg (by omega)]
    -- wanting k terms, k + 1 are wanting too
    have : ∀ d k i, fe_en op d k i = 1000 → i + d < 1000 → fe_en op d (k + 1) i = 1000 := by
      intro d
      induction d with
      | zero => intro k i h _; rfl
      | succ d ih =>
        intro k i h hb
        cases k with
        | zero => rw [fe_en0] at h; omega
        | succ k =>
          rw [fe_ens] at h
          rw [fe_ens, ← Nat.add_assoc]
          exact ih _ _ h (by omega)
    exact this d k i h hb
  · rw [fe_add op 1 d k i _ rfl h2 hb]
    by_cases hlt : fe_en op d k i < i + d
    · rw [if_pos hlt]
    · rw [if_neg hlt, show i + d - fe_en op d k i = 0 by omega]
      rfl
/-- the same tokens, the same end -/
theorem fe_congr (op op' : Nat → Nat) : ∀ d k i, (∀ j, i ≤ j → j < i + d → op j = op' j) → fe_en op d k i = fe_en op' d k i := by
  intro d
  induction d with
  | zero => intro k i _; cases k <;> rfl
  | succ d ih =>
    intro k i h
    cases k with
    | zero => rw [fe_en0, fe_en0]
    | succ k =>
      rw [fe_ens, fe_ens, h i (by omega) (by omega)]
      exact ih _ _ (fun j a b => h j (by omega) (by omega))
/-- more tokens at hand change nothing -/
theorem fe_more (op : Nat → Nat) : ∀ d k i e, fe_en op d k i = e → e ≤ i + d → i + d < 1000 → ∀ d', e ≤ i + d' → fe_en op d' k i = e := by
  intro d
  induction d with
  | zero =>
    intro k i e h he hb d' hd
    cases k with
    | zero => rw [fe_en0] at h ⊢; exact h
    | succ k => rw [fe_enz] at h; omega
  | succ d ih =>
    intro k i e h he hb d' hd
    cases k with
    | zero => rw [fe_en0] at h ⊢; exact h
    | succ k =>
      rw [fe_ens] at h
      have hr := fe_rng op d (op i + k) (i + 1)
      cases d' with
      | zero => omega
      | succ d' =>
        rw [fe_ens]
        exact ih _ _ e h (by omega) (by omega) d' (by omega)
/-- a shift of the list -/
theorem fe_shift (op : Nat → Nat) (b : Nat) : ∀ d k i, i + d + b < 1000 → fe_en (fun j => op (b + j)) d k i = 1000 ∧ fe_en op d k (b + i) = 1000 ∨ fe_en op d k (b + i) = b + fe_en (fun j => op (b + j)) d k i := by
  intro d
  induction d with
  | zero =>
    intro k i _
    cases k with
    | zero => right; rw [fe_en0, fe_en0]
    | succ k => left; exact ⟨rfl, rfl⟩
  | succ d ih =>
    intro k i hb
    cases k with
    | zero => right; rw [fe_en0, fe_en0]
    | succ k =>
      rw [fe_ens, fe_ens, show b + i + 1 = b + (i + 1) by omega]
      exact ih _ _ (by omega)
/-- a piece of an array as a list -/
def fe_sl {α : Type} (f : Nat → α) : Nat → Nat → List α
  | _, 0 => []
  | i, n + 1 => f i :: fe_sl f (i + 1) n
theorem fe_sl_len {α : Type} (f : Nat → α) : ∀ n i, (fe_sl f i n).length = n := by
  intro n
  induction n with
  | zero => intro i; rfl
  | succ n ih => intro i; show (fe_sl f (i + 1) n).length + 1 = n + 1; rw [ih]
theorem fe_sl_add {α : Type} (f : Nat → α) (m : Nat) : ∀ n i, fe_sl f i (n + m) = fe_sl f i n ++ fe_sl f (i + n) m := by
  intro n
  induction n with
  | zero => intro i; rw [Nat.zero_add, Nat.add_zero]; rfl
  | succ n ih =>
    intro i
    rw [show n + 1 + m = (n + m) + 1 by omega]
    show f i :: fe_sl f (i + 1) (n + m) = f i :: (fe_sl f (i + 1) n ++ fe_sl f (i + (n + 1)) m)
    rw [ih, show i + 1 + n = i + (n + 1) by omega]
theorem fe_sl_snoc {α : Type} (f : Nat → α) (i n : Nat) : fe_sl f i (n + 1) = fe_sl f i n ++ [f (i + n)] := fe_sl_add f 1 n i
theorem fe_sl_congr {α : Type} (f g : Nat → α) : ∀ n i j, (∀ t, t < n → f (i + t) = g (j + t)) → fe_sl f i n = fe_sl g j n := by
  intro n
  induction n with
  | zero => intro i j _; rfl
  | succ n ih =>
    intro i j h
    show f i :: fe_sl f (i + 1) n = g j :: fe_sl g (j + 1) n
    rw [ih (i + 1) (j + 1) (fun t ht => by have := h (t + 1) (by omega); rwa [show i + (t + 1) = i + 1 + t by omega, show j + (t + 1) = j + 1 + t by omega] at this)]
    have h0 := h 0 (by omega)
    rw [Nat.add_zero, Nat.add_zero] at h0
    rw [h0]
theorem fe_sl_map {α β : Type} (g : α → β) (f : Nat → α) : ∀ n i, (fe_sl f i n).map g = fe_sl (fun j => g (f j)) i n := by
  intro n
  induction n with
  | zero => intro i; rfl
  | succ n ih => intro i; show g (f i) :: (fe_sl f (i + 1) n).map g = g (f i) :: fe_sl (fun j => g (f j)) (i + 1) n; rw [ih]
theorem fe_sl_get {α : Type} (f : Nat → α) : ∀ n i t, t < n → (fe_sl f i n)[t]? = some (f (i + t)) := by
  intro n
  induction n with
  | zero => intro i t h; omega
  | succ n ih =>
    intro i t h
    cases t with
    | zero => rfl
    | succ t =>
      show (fe_sl f (i + 1) n)[t]? = some (f (i + (t + 1)))
      rw [ih (i + 1) t (by omega), show i + 1 + t = i + (t + 1) by omega]
/-- a part fails: the whole fails -/
theorem fe_fail (op : Nat → Nat) (m : Nat) : ∀ d k i, fe_en op d k i = 1000 → i + d < 1000 → fe_en op d (k + m) i = 1000 := by
  intro d
  induction d with
  | zero =>
    intro k i h hb
    cases k with
    | zero => rw [fe_en0] at h; omega
    | succ k => rw [show k + 1 + m = (k + m) + 1 by omega]; rfl
  | succ d ih =>
    intro k i h hb
    cases k with
    | zero => rw [fe_en0] at h; omega
    | succ k =>
      rw [fe_ens] at h
      rw [show k + 1 + m = (k + m) + 1 by omega, fe_ens, ← Nat.add_assoc]
      exact ih _ _ h (by omega)
theorem fe_pre (op : Nat → Nat) {d k m i e : Nat} (h : fe_en op d (k + m) i = e) (he : e ≤ i + d) (hb : i + d < 1000) :
    ∃ e1, fe_en op d k i = e1 ∧ i + k ≤ e1 ∧ e1 + m ≤ e ∧ fe_en op (i + d - e1) m e1 = e := by
  rcases fe_rng op d k i with f | ⟨f1, f2⟩
  · have := fe_fail op m d k i f hb
    omega
  · refine ⟨_, rfl, f1, ?_, ?_⟩
    · have g := fe_add op m d k i _ rfl f2 hb
      rw [g] at h
      rcases fe_rng op (i + d - fe_en op d k i) m (fe_en op d k i) with w | ⟨w1, w2⟩ <;> omega
    · rw [← fe_add op m d k i _ rfl f2 hb]; exact h
/-- a term that fills a list from fr on: each place begins a term within it -/
theorem fe_sub (op : Nat → Nat) {fr n : Nat} (h : fe_en op (n - fr) 1 fr = n) (hn : n < 1000) : ∀ i, fr ≤ i → i < n →
    i < fe_en op (n - i) 1 i ∧ fe_en op (n - i) 1 i ≤ n := by
  have walk : ∀ t, fr + t ≤ n → ∃ k, fe_en op (n - (fr + t)) k (fr + t) = n := by
    intro t
    induction t with
    | zero => intro _; exact ⟨1, h⟩
    | succ t ih =>
      intro hi
      obtain ⟨k, hk⟩ := ih (by omega)
      cases k with
      | zero => rw [fe_en0] at hk; omega
      | succ k =>
        rw [show n - (fr + t) = (n - (fr + (t + 1))) + 1 by omega, fe_ens] at hk
        exact ⟨_, hk⟩
  intro i h0 hi
  obtain ⟨k, hk⟩ := walk (i - fr) (by omega)
  rw [show fr + (i - fr) = i by omega] at hk
  cases k with
  | zero => rw [fe_en0] at hk; omega
  | succ k =>
    rw [show k + 1 = 1 + k by omega] at hk
    obtain ⟨e1, h1, h2, h3, _⟩ := fe_pre op hk (by omega) (by omega)
    rw [h1]
    omega
/-- the end of the term at i, of n tokens -/
def fe_pe (op : Nat → Nat) (n i : Nat) : Nat := fe_en op (n - i) 1 i
theorem fe_pe_def (op : Nat → Nat) {n i : Nat} (h : i < n) : fe_pe op n i = fe_en op (n - (i + 1)) (op i) (i + 1) := by
  unfold fe_pe
  rw [show n - i = (n - (i + 1)) + 1 by omega, fe_ens]
  rfl
/-- a table's inner step -/
theorem fe_pe_snoc (op : Nat → Nat) {n i : Nat} (hi : i < n) (hn : n < 1000) (k : Nat) :
    fe_en op (n - (i + 1)) (k + 1) (i + 1) = if fe_en op (n - (i + 1)) k (i + 1) < n then fe_pe op n (fe_en op (n - (i + 1)) k (i + 1)) else 1000 := by
  have h := fe_snoc op (n - (i + 1)) k (i + 1) (by omega)
  rw [show i + 1 + (n - (i + 1)) = n by omega] at h
  exact h
theorem fe_pe_rng (op : Nat → Nat) {n i : Nat} (hi : i ≤ n) : fe_pe op n i = 1000 ∨ (i < fe_pe op n i ∧ fe_pe op n i ≤ n) := by
  unfold fe_pe
  rcases fe_rng op (n - i) 1 i with h | ⟨h1, h2⟩
  · exact Or.inl h
  · right; omega
theorem fe_pe_sub (op : Nat → Nat) {fr n : Nat} (h : fe_pe op n fr = n) (hn : n < 1000) {i : Nat} (h0 : fr ≤ i) (hi : i < n) :
    i < fe_pe op n i ∧ fe_pe op n i ≤ n := fe_sub op h hn i h0 hi
/-- the first tokens alone say where a term ends -/
theorem fe_pe_cut (op : Nat → Nat) {fr n s : Nat} (h : fe_pe op n fr = s) (hs : s ≤ n) (hn : n < 1000) {i : Nat} (h0 : fr ≤ i) (hi : i < s) :
    fe_pe op n i = fe_pe op s i ∧ i < fe_pe op s i ∧ fe_pe op s i ≤ s := by
  have hfr : fr < s := by omega
  have a : fe_pe op s fr = s := by
    unfold fe_pe at h ⊢
    exact fe_more op (n - fr) 1 fr s h (by omega) (by omega) (s - fr) (by omega)
  have b := fe_pe_sub op a (by omega) h0 hi
  refine ⟨?_, b⟩
  unfold fe_pe at b ⊢
  exact fe_more op (s - i) 1 i _ rfl (by omega) (by omega) (n - i) (by omega)
theorem fe_pe_self (op : Nat → Nat) {fr n s : Nat} (h : fe_pe op n fr = s) (hs : s ≤ n) (hf : fr < s) (hn : n < 1000) : fe_pe op s fr = s := by
  unfold fe_pe at h ⊢
  exact fe_more op (n - fr) 1 fr s h (by omega) (by omega) (s - fr) (by omega)
/-- terms lie one within the other -/
theorem fe_pe_nest (op : Nat → Nat) {n i j : Nat} (hs : fe_pe op n i ≤ n) (hn : n < 1000) (hij : i ≤ j) (hj : j < fe_pe op n i) :
    fe_pe op n j ≤ fe_pe op n i := by
  obtain ⟨a, _, b⟩ := fe_pe_cut op (n := n) (fr := i) rfl hs hn hij hj
  rw [a]; exact b
theorem fe_pe_c0 (op : Nat → Nat) {n i : Nat} (hi : i < n) (h : op i = 0) : fe_pe op n i = i + 1 := by
  rw [fe_pe_def op hi, h, fe_en0]
theorem fe_pe_c1 (op : Nat → Nat) {n i : Nat} (hi : i < n) (hs : fe_pe op n i ≤ n) (hn : n < 1000) (h : op i = 1) :
    i + 1 < n ∧ fe_pe op n i = fe_pe op n (i + 1) := by
  have e := fe_pe_def op hi
  rw [h] at e
  rcases fe_pe_rng op (n := n) (i := i + 1) (by omega) with g | g
  · unfold fe_pe at g hs e
    rw [← e] at g; omega
  · exact ⟨by omega, e⟩
theorem fe_pe_c2 (op : Nat → Nat) {n i : Nat} (hi : i < n) (hs : fe_pe op n i ≤ n) (hn : n < 1000) (h : op i = 2) :
    i + 1 < n ∧ i + 1 < fe_pe op n (i + 1) ∧ fe_pe op n (i + 1) < n ∧ fe_pe op n i = fe_pe op n (fe_pe op n (i + 1)) ∧ fe_pe op n (i + 1) < fe_pe op n i := by
  have e := fe_pe_def op hi
  rw [h] at e
  have g : fe_en op (n - (i + 1)) (1 + 1) (i + 1) = fe_pe op n i := e.symm
  obtain ⟨e1, g1, g2, g3, g4⟩ := fe_pre op g (by omega) (by omega)
  have e2 : fe_pe op n (i + 1) = e1 := g1
  rw [e2]
  rw [show i + 1 + (n - (i + 1)) - e1 = n - e1 by omega] at g4
  exact ⟨by omega, by omega, by omega, g4.symm, by omega⟩
/-- fewer operands end before the list does -/
theorem fe_pe_in (op : Nat → Nat) {n i k : Nat} (hi : i < n) (hs : fe_pe op n i ≤ n) (hn : n < 1000) (hk : k < op i) :
    i + 1 ≤ fe_en op (n - (i + 1)) k (i + 1) ∧ fe_en op (n - (i + 1)) k (i + 1) < n := by
  have e := fe_pe_def op hi
  rw [show op i = k + (op i - k) by omega] at e
  obtain ⟨e1, g1, g2, g3, _⟩ := fe_pre op e.symm (by omega) (by omega)
  rw [g1]; omega
/-- one term that fills n tokens -/
def fe_full (op : Nat → Nat) (n : Nat) : Prop := 0 < n ∧ n < 1000 ∧ fe_pe op n 0 = n
theorem fe_full_e {op : Nat → Nat} {n : Nat} (h : fe_full op n) {i : Nat} (hi : i < n) : i < fe_pe op n i ∧ fe_pe op n i ≤ n :=
  fe_pe_sub op h.2.2 h.2.1 (Nat.zero_le _) hi
theorem fe_pe_congr (op op' : Nat → Nat) {n : Nat} (h : ∀ j, j < n → op j = op' j) (i : Nat) : fe_pe op n i = fe_pe op' n i := by
  unfold fe_pe
  exact fe_congr op op' _ _ _ (fun j a b => h j (by omega))
theorem fe_full_congr {op op' : Nat → Nat} {n : Nat} (h : ∀ j, j < n → op j = op' j) (f : fe_full op n) : fe_full op' n :=
  ⟨f.1, f.2.1, by rw [← fe_pe_congr op op' h]; exact f.2.2⟩
end
section
/-- a is the list of n trees with heads first, b the list of the same with heads last; rt k x y: token x of a and token y of b are one token with k operands -/
def ff_PF {α β : Type} (rt : Nat → α → β → Prop) (n : Nat) (a : List α) (b : List β) : Prop :=
  ∀ R : Nat → List α → List β → Prop, R 0 [] [] →
    (∀ k x y m a1 b1 a2 b2, rt k x y → R k a1 b1 → R m a2 b2 → R (m + 1) (x :: (a1 ++ a2)) (b1 ++ y :: b2)) → R n a b
theorem ff_nil {α β : Type} {rt : Nat → α → β → Prop} : ff_PF rt 0 [] [] := fun _ h0 _ => h0
theorem ff_node {α β : Type} {rt : Nat → α → β → Prop} {k m : Nat} {x : α} {y : β} {a1 a2 : List α} {b1 b2 : List β}
    (h : rt k x y) (h1 : ff_PF rt k a1 b1) (h2 : ff_PF rt m a2 b2) : ff_PF rt (m + 1) (x :: (a1 ++ a2)) (b1 ++ y :: b2) :=
  fun R h0 hs => hs k x y m a1 b1 a2 b2 h (h1 R h0 hs) (h2 R h0 hs)
theorem ff_ind {α β : Type} {rt : Nat → α → β → Prop} (Q : Nat → List α → List β → Prop) (h0 : Q 0 [] [])
    (hs : ∀ k x y m a1 b1 a2 b2, rt k x y → ff_PF rt k a1 b1 → Q k a1 b1 → ff_PF rt m a2 b2 → Q m a2 b2 → Q (m + 1) (x :: (a1 ++ a2)) (b1 ++ y :: b2))
    {n : Nat} {a : List α} {b : List β} (h : ff_PF rt n a b) : Q n a b :=
  (h (fun n a b => ff_PF rt n a b ∧ Q n a b) ⟨ff_nil, h0⟩
    (fun k x y m a1 b1 a2 b2 hr p q => ⟨ff_node hr p.1 q.1, hs k x y m a1 b1 a2 b2 hr p.1 p.2 q.1 q.2⟩)).2
theorem ff_one {α β : Type} {rt : Nat → α → β → Prop} {k : Nat} {x : α} {y : β} {a1 : List α} {b1 : List β}
    (h : rt k x y) (h1 : ff_PF rt k a1 b1) : ff_PF rt 1 (x :: a1) (b1 ++ [y]) := by
  have := ff_node h h1 ff_nil
  rwa [List.append_nil] at this
theorem ff_leaf {α β : Type} {rt : Nat → α → β → Prop} {x : α} {y : β} (h : rt 0 x y) : ff_PF rt 1 [x] [y] := ff_one h ff_nil
theorem ff_app {α β : Type} {rt : Nat → α → β → Prop} {m : Nat} {c : List α} {d : List β} (h2 : ff_PF rt m c d)
    {n : Nat} {a : List α} {b : List β} (h : ff_PF rt n a b) : ff_PF rt (n + m) (a ++ c) (b ++ d) := by
  refine ff_ind (fun n a b => ff_PF rt (n + m) (a ++ c) (b ++ d)) ?_ ?_ h
  · rw [Nat.zero_add]; exact h2
  · intro k x y l a1 b1 a2 b2 hr p1 _ _ q
    have := ff_node hr p1 q
    rw [show l + m + 1 = l + 1 + m by omega] at this
    simpa [List.append_assoc] using this
theorem ff_map {α β γ δ : Type} {rt : Nat → α → β → Prop} {ru : Nat → γ → δ → Prop} (g : α → γ) (h : β → δ)
    (hr : ∀ k x y, rt k x y → ru k (g x) (h y)) {n : Nat} {a : List α} {b : List β} (p : ff_PF rt n a b) :
    ff_PF ru n (a.map g) (b.map h) := by
  refine ff_ind (fun n a b => ff_PF ru n (a.map g) (b.map h)) ff_nil ?_ p
  intro k x y m a1 b1 a2 b2 h1 _ q1 _ q2
  have := ff_node (hr k x y h1) q1 q2
  simpa [List.map_append] using this
theorem ff_zero {α β : Type} {rt : Nat → α → β → Prop} {a : List α} {b : List β} (h : ff_PF rt 0 a b) : a = [] ∧ b = [] := by
  have := ff_ind (rt := rt) (fun n a b => n = 0 → a = [] ∧ b = []) (fun _ => ⟨rfl, rfl⟩) (fun _ _ _ _ _ _ _ _ _ _ _ _ _ h => by omega) h
  exact this rfl
theorem ff_len {α β : Type} {rt : Nat → α → β → Prop} {n : Nat} {a : List α} {b : List β} (h : ff_PF rt n a b) :
    a.length = b.length ∧ n ≤ a.length := by
  refine ff_ind (rt := rt) (fun n (a : List α) (b : List β) => a.length = b.length ∧ n ≤ a.length) ⟨rfl, Nat.le_refl _⟩ ?_ h
  intro k x y m a1 b1 a2 b2 _ _ q1 _ q2
  simp only [List.length_cons, List.length_append]
  omega
/-- if the first n of a are values, there are no others -/
theorem ff_vals {α β : Type} {rt : Nat → α → β → Prop} {V : α → Prop} {U : β → Prop} (hv : ∀ k x y, rt k x y → (V x ↔ U y))
    (h0 : ∀ k x y, rt k x y → V x → k = 0) {n : Nat} {a : List α} {b : List β} (h : ff_PF rt n a b)
    (hf : ∀ i, i < n → ∃ x, a[i]? = some x ∧ V x) : a.length = n ∧ ∀ y, y ∈ b → U y := by
  have := ff_ind (rt := rt) (fun n a b => (∀ i, i < n → ∃ x, a[i]? = some x ∧ V x) → a.length = n ∧ ∀ y, y ∈ b → U y)
    (fun _ => ⟨rfl, fun y hy => by cases hy⟩) ?_ h
  · exact this hf
  · intro k x y m a1 b1 a2 b2 hr p1 _ _ q2 hf
    obtain ⟨x', hx, hV⟩ := hf 0 (by omega)
    have hx' : x = x' := by simpa using hx
    subst hx'
    have hk := h0 k x y hr hV
    subst hk
    obtain ⟨e1, e2⟩ := ff_zero p1
    subst e1; subst e2
    obtain ⟨l, hu⟩ := q2 (fun i hi => by
      obtain ⟨z, hz, hz2⟩ := hf (i + 1) (by omega)
      exact ⟨z, by simpa using hz, hz2⟩)
    refine ⟨by simp [l], fun z hz => ?_⟩
    rcases List.mem_cons.mp (by simpa using hz) with e | e
    · rw [e]; exact (hv 0 x y hr).mp hV
    · exact hu z e
/-- all of b values: so is a, and a holds n -/
theorem ff_done {α β : Type} {rt : Nat → α → β → Prop} {V : α → Prop} {U : β → Prop} (hv : ∀ k x y, rt k x y → (V x ↔ U y))
    (h0 : ∀ k x y, rt k x y → V x → k = 0) {n : Nat} {a : List α} {b : List β} (h : ff_PF rt n a b) (hb : ∀ y, y ∈ b → U y) :
    a.length = n ∧ (∀ x, x ∈ a → V x) ∧ b.length = n ∧ ∀ i, i < n → ∃ x y, a[i]? = some x ∧ b[i]? = some y ∧ rt 0 x y := by
  have := ff_ind (rt := rt) (fun n a b => (∀ y, y ∈ b → U y) → a.length = n ∧ (∀ x, x ∈ a → V x) ∧ b.length = n ∧ ∀ i, i < n → ∃ x y, a[i]? = some x ∧ b[i]? = some y ∧ rt 0 x y)
    (fun _ => ⟨rfl, fun y hy => (by cases hy), rfl, fun i hi => by omega⟩) ?_ h
  · exact this hb
  · intro k x y m a1 b1 a2 b2 hr p1 _ _ q2 hb
    have hy : U y := hb y (by simp)
    have hV := (hv k x y hr).mpr hy
    have hk := h0 k x y hr hV
    subst hk
    obtain ⟨e1, e2⟩ := ff_zero p1
    subst e1; subst e2
    obtain ⟨l, hu, l2, hi⟩ := q2 (fun z hz => hb z (by simp [hz]))
    refine ⟨by simp [l], fun z hz => ?_, by simp [l2], fun i hlt => ?_⟩
    · rcases List.mem_cons.mp (by simpa using hz) with e | e
      · rw [e]; exact hV
      · exact hu z e
    · cases i with
      | zero => exact ⟨x, y, by simp, by simp, hr⟩
      | succ i =>
        obtain ⟨z, w, hz, hw, hzw⟩ := hi i (by omega)
        exact ⟨z, w, by simpa using hz, by simpa using hw, hzw⟩
/-- the first token of b that is no value stands in a behind tokens none of which is ready; one tree put in its place goes in at both -/
def ff_CX {α β : Type} (rt : Nat → α → β → Prop) (V : α → Prop) (n : Nat) (a : List α) (vals : List β) (t : β) (rest : List β) : Prop :=
  ∃ k x pre vs suf v0 ws, rt k x t ∧ a = pre ++ x :: (vs ++ suf) ∧ vals = v0 ++ ws ∧ ff_PF rt k vs ws ∧ vs.length = k ∧ (∀ z, z ∈ vs → V z) ∧
    (∀ i z, pre[i]? = some z → V z ∨ ∃ kz yz j w, rt kz z yz ∧ j < kz ∧ a[i + 1 + j]? = some w ∧ ¬ V w) ∧
    (∀ c d, ff_PF rt 1 c d → ff_PF rt n (pre ++ (c ++ suf)) (v0 ++ (d ++ rest)))
theorem ff_ctx {α β : Type} {rt : Nat → α → β → Prop} {V : α → Prop} {U : β → Prop} (hv : ∀ k x y, rt k x y → (V x ↔ U y))
    (h0 : ∀ k x y, rt k x y → V x → k = 0) {n : Nat} {a : List α} {b : List β} (h : ff_PF rt n a b) :
    ∀ vals t rest, b = vals ++ t :: rest → (∀ y, y ∈ vals → U y) → ¬ U t → ff_CX rt V n a vals t rest := by
  refine ff_ind (fun n a b => ∀ vals t rest, b = vals ++ t :: rest → (∀ y, y ∈ vals → U y) → ¬ U t → ff_CX rt V n a vals t rest) ?_ ?_ h
  · intro vals t rest e; simp at e
  · intro k x y m a1 b1 a2 b2 hr p1 q1 p2 q2 vals t rest e hU hT
    have key : (vals = b1 ∧ t = y ∧ rest = b2) ∨ (∃ s, vals = b1 ++ y :: s ∧ b2 = s ++ t :: rest) ∨ (∃ s, b1 = vals ++ t :: s ∧ rest = s ++ y :: b2) := by
      rcases List.append_eq_append_iff.mp e with ⟨s, e1, e2⟩ | ⟨s, e1, e2⟩
      · cases s with
        | nil =>
          simp only [List.append_nil, List.nil_append, List.cons.injEq] at e1 e2
          exact Or.inl ⟨e1, e2.1.symm, e2.2.symm⟩
        | cons z s =>
          simp only [List.cons_append, List.cons.injEq] at e2
          exact Or.inr (Or.inl ⟨s, by rw [e1, e2.1], e2.2⟩)
      · cases s with
        | nil =>
          simp only [List.append_nil, List.nil_append, List.cons.injEq] at e1 e2
          exact Or.inl ⟨e1.symm, e2.1, e2.2⟩
        | cons z s =>
          simp only [List.cons_append, List.cons.injEq] at e2
          exact Or.inr (Or.inr ⟨s, by rw [e1, ← e2.1], e2.2⟩)
    rcases key with ⟨rfl, rfl, rfl⟩ | ⟨s, rfl, rfl⟩ | ⟨s, rfl, rfl⟩
    · have hd := ff_done hv h0 p1 hU
      refine ⟨k, x, [], a1, a2, [], vals, hr, rfl, rfl, p1, hd.1, hd.2.1, fun i z h => by simp at h, fun c d h => ?_⟩
      have := ff_app p2 h
      rwa [Nat.add_comm] at this
    · have hy : U y := hU y (by simp)
      have hV := (hv k x y hr).mpr hy
      have hk := h0 k x y hr hV
      subst hk
      obtain ⟨e1, e2⟩ := ff_zero p1
      subst e1; subst e2
      obtain ⟨k', x', pre, vs, suf, v0, ws, r1, r2, r3, r4, r5, r6, r7, r8⟩ := q2 s t rest rfl (fun z hz => hU z (by simp [hz])) hT
      refine ⟨k', x', x :: pre, vs, suf, y :: v0, ws, r1, by simp [r2], by simp [r3], r4, r5, r6, ?_, ?_⟩
      · intro i z hz
        cases i with
        | zero =>
          have hz' : x = z := by simpa using hz
          exact Or.inl (hz' ▸ hV)
        | succ i =>
          rcases r7 i z (by simpa using hz) with g | ⟨kz, yz, j, w, g1, g2, g3, g4⟩
          · exact Or.inl g
          · refine Or.inr ⟨kz, yz, j, w, g1, g2, ?_, g4⟩
            rw [show i + 1 + 1 + j = (i + 1 + j) + 1 by omega]
            simpa using g3
      · intro c d h
        have := ff_node hr ff_nil (r8 c d h)
        simpa using this
    · obtain ⟨k', x', pre, vs, suf, v0, ws, r1, r2, r3, r4, r5, r6, r7, r8⟩ := q1 vals t s rfl hU hT
      refine ⟨k', x', x :: pre, vs, suf ++ a2, v0, ws, r1, by simp [r2], r3, r4, r5, r6, ?_, ?_⟩
      · intro i z hz
        cases i with
        | zero =>
          have hz' : x = z := by simpa using hz
          subst hz'
          right
          have hex : ∃ j, j < k ∧ ¬ ∃ x, a1[j]? = some x ∧ V x := by
            refine Classical.byContradiction fun hno => ?_
            have hall : ∀ i, i < k → ∃ x, a1[i]? = some x ∧ V x := fun i hi =>
              Classical.byContradiction fun hn => hno ⟨i, hi, hn⟩
            exact hT ((ff_vals hv h0 p1 hall).2 t (by simp))
          obtain ⟨j, hj, hn⟩ := hex
          have hl := (ff_len p1).2
          have hjl : j < a1.length := by omega
          refine ⟨k, y, j, a1[j], hr, hj, ?_, fun hVw => hn ⟨a1[j], List.getElem?_eq_getElem hjl, hVw⟩⟩
          rw [show 0 + 1 + j = j + 1 by omega, List.getElem?_cons_succ, List.getElem?_append_left hjl]
          exact List.getElem?_eq_getElem hjl
        | succ i =>
          rcases r7 i z (by simpa using hz) with g | ⟨kz, yz, j, w, g1, g2, g3, g4⟩
          · exact Or.inl g
          · refine Or.inr ⟨kz, yz, j, w, g1, g2, ?_, g4⟩
            have hlt := (List.getElem?_eq_some_iff.mp g3).1
            rw [show i + 1 + 1 + j = (i + 1 + j) + 1 by omega, List.getElem?_cons_succ, List.getElem?_append_left hlt]
            exact g3
      · intro c d h
        have := ff_node hr (r8 c d h) p2
        simpa [List.append_assoc] using this
/-- the ends that a pending counter finds, of a forest whose list with heads first lies in an array -/
theorem ff_en {α β : Type} {rt : Nat → α → β → Prop} (op : Nat → Nat) (tok : Nat → α) {n : Nat} {a : List α} {b : List β} (h : ff_PF rt n a b) :
    ∀ i d k, a = fe_sl tok i a.length → (∀ j k y, i ≤ j → j < i + a.length → rt k (tok j) y → op j = k) → a.length ≤ d →
      fe_en op d (n + k) i = fe_en op (d - a.length) k (i + a.length) := by
  refine ff_ind (fun n a b => ∀ i d k, a = fe_sl tok i a.length → (∀ j k y, i ≤ j → j < i + a.length → rt k (tok j) y → op j = k) → a.length ≤ d →
      fe_en op d (n + k) i = fe_en op (d - a.length) k (i + a.length)) ?_ ?_ h
  · intro i d k _ _ _
    simp
  · intro q x y m a1 b1 a2 b2 hr p1 q1 p2 q2 i d k e ho hd
    simp only [List.length_cons, List.length_append] at e ho hd ⊢
    obtain ⟨d, rfl⟩ : ∃ d', d = d' + 1 := ⟨d - 1, by omega⟩
    rw [show a1.length + a2.length + 1 = (a1.length + a2.length) + 1 from rfl] at e
    have e0 : x = tok i ∧ a1 ++ a2 = fe_sl tok (i + 1) (a1.length + a2.length) := by
      have e' : x :: (a1 ++ a2) = tok i :: fe_sl tok (i + 1) (a1.length + a2.length) := e
      exact ⟨(List.cons.inj e').1, (List.cons.inj e').2⟩
    obtain ⟨ex, e1⟩ := e0
    rw [fe_sl_add] at e1
    obtain ⟨f1, f2⟩ := List.append_inj e1 (by rw [fe_sl_len])
    have hop : op i = q := ho i q y (by omega) (by omega) (ex ▸ hr)
    rw [show m + 1 + k = (m + k) + 1 by omega, fe_ens, hop]
    rw [q1 (i + 1) d (m + k) f1 (fun j k' y' a b => ho j k' y' (by omega) (by omega)) (by omega)]
    rw [q2 (i + 1 + a1.length) (d - a1.length) k f2 (fun j k' y' a b => ho j k' y' (by omega) (by omega)) (by omega)]
    congr 1 <;> omega
end
section
/-- part i of the pattern T fits part p of the value S -/
def fm_fit (ar T pe S E : Nat → Nat) : Nat → Nat → Nat → Bool
  | 0, _, _ => false
  | d + 1, i, p =>
    if T i / 8 = 3 then fm_fit ar T pe S E d (i + 1) p || fm_fit ar T pe S E d (pe (i + 1)) p
    else if T i / 8 = 4 then !fm_fit ar T pe S E d (i + 1) p
    else if T i / 8 = 2 then
      (decide (S p = T i % 8) && (decide (ar (T i % 8) < 1) || fm_fit ar T pe S E d (i + 1) (p + 1))) &&
        (decide (ar (T i % 8) < 2) || fm_fit ar T pe S E d (pe (i + 1)) (E (p + 1)))
    else true
/-- fuel enough is enough -/
theorem fm_fuel (ar T pe S E : Nat → Nat) (n : Nat)
    (hk : ∀ i, i < n → 1 ≤ fo_op ar (T i) → i + 1 < n) (hp : ∀ i, i < n → 2 ≤ fo_op ar (T i) → i + 1 < pe (i + 1) ∧ pe (i + 1) < n) :
    ∀ d d' i p, i < n → n ≤ i + d → n ≤ i + d' → fm_fit ar T pe S E d i p = fm_fit ar T pe S E d' i p := by
  intro d
  induction d with
  | zero => intro d' i p h1 h2; omega
  | succ d ih =>
    intro d' i p h1 h2 h3
    cases d' with
    | zero => omega
    | succ d' =>
      have a1 : 1 ≤ fo_op ar (T i) → ∀ q, fm_fit ar T pe S E d (i + 1) q = fm_fit ar T pe S E d' (i + 1) q := fun h q =>
        ih d' (i + 1) q (hk i h1 h) (by omega) (by omega)
      have a2 : 2 ≤ fo_op ar (T i) → ∀ q, fm_fit ar T pe S E d (pe (i + 1)) q = fm_fit ar T pe S E d' (pe (i + 1)) q := fun h q => by
        obtain ⟨u, w⟩ := hp i h1 h
        exact ih d' _ q w (by omega) (by omega)
      simp only [fm_fit]
      by_cases k3 : T i / 8 = 3
      · rw [if_pos k3, if_pos k3, a1 (by rw [fo_op3 k3]; omega), a2 (by rw [fo_op3 k3]; omega)]
      · rw [if_neg k3, if_neg k3]
        by_cases k4 : T i / 8 = 4
        · rw [if_pos k4, if_pos k4, a1 (by rw [fo_op45 (Or.inl k4)]; omega)]
        · rw [if_neg k4, if_neg k4]
          by_cases k2 : T i / 8 = 2
          · rw [if_pos k2, if_pos k2]
            rw [fo_op2 k2] at a1 a2
            by_cases z1 : ar (T i % 8) < 1
            · have z2 : ar (T i % 8) < 2 := by omega
              simp [z1, z2]
            · rw [a1 (by omega)]
              by_cases z2 : ar (T i % 8) < 2
              · simp [z2]
              · rw [a2 (by omega)]
          · rw [if_neg k2, if_neg k2]
/-- the tokens' operands, the value's operands -/
def fm_o (ar T : Nat → Nat) : Nat → Nat := fun i => fo_op ar (T i)
def fm_v (ar S : Nat → Nat) : Nat → Nat := fun i => ar (S i)
/-- the pattern of n tokens T, part i, and the value of m constructors S, part p -/
def fm_F (ar T : Nat → Nat) (n : Nat) (S : Nat → Nat) (m i p : Nat) : Bool :=
  fm_fit ar T (fe_pe (fm_o ar T) n) S (fe_pe (fm_v ar S) m) (n - i) i p
theorem fm_un {ar T : Nat → Nat} {n : Nat} (h : fe_full (fm_o ar T) n) (S : Nat → Nat) (m : Nat) {i : Nat} (hi : i < n) (p : Nat) :
    fm_F ar T n S m i p =
    (if T i / 8 = 3 then fm_F ar T n S m (i + 1) p || fm_F ar T n S m (fe_pe (fm_o ar T) n (i + 1)) p
    else if T i / 8 = 4 then !fm_F ar T n S m (i + 1) p
    else if T i / 8 = 2 then
      (decide (S p = T i % 8) && (decide (ar (T i % 8) < 1) || fm_F ar T n S m (i + 1) (p + 1))) &&
        (decide (ar (T i % 8) < 2) || fm_F ar T n S m (fe_pe (fm_o ar T) n (i + 1)) (fe_pe (fm_v ar S) m (p + 1)))
    else true) := by
  have hk : ∀ i, i < n → 1 ≤ fo_op ar (T i) → i + 1 < n := by
    intro i hi h1
    have e := fe_full_e h hi
    by_cases z : fo_op ar (T i) = 1
    · exact (fe_pe_c1 _ hi e.2 h.2.1 z).1
    · have g := fe_pe_in (fm_o ar T) hi e.2 h.2.1 (k := 1) (show 1 < fo_op ar (T i) by omega)
      omega
  have hp : ∀ i, i < n → 2 ≤ fo_op ar (T i) → i + 1 < fe_pe (fm_o ar T) n (i + 1) ∧ fe_pe (fm_o ar T) n (i + 1) < n := by
    intro i hi h1
    have e := fe_full_e h hi
    have g := fe_pe_in (fm_o ar T) hi e.2 h.2.1 (k := 1) (show 1 < fo_op ar (T i) by omega)
    have l := hk i hi (by omega)
    exact ⟨(fe_full_e h l).1, g.2⟩
  have hf := fm_fuel ar T (fe_pe (fm_o ar T) n) S (fe_pe (fm_v ar S) m) n hk hp
  have g1 : 2 ≤ fo_op ar (T i) → ∀ q, fm_fit ar T (fe_pe (fm_o ar T) n) S (fe_pe (fm_v ar S) m) (n - (i + 1)) (fe_pe (fm_o ar T) n (i + 1)) q
      = fm_F ar T n S m (fe_pe (fm_o ar T) n (i + 1)) q := by
    intro h2 q
    obtain ⟨u, w⟩ := hp i hi h2
    exact hf _ _ _ _ w (by omega) (by omega)
  have e : fm_F ar T n S m i p = fm_fit ar T (fe_pe (fm_o ar T) n) S (fe_pe (fm_v ar S) m) ((n - (i + 1)) + 1) i p := by
    unfold fm_F
    rw [show n - i = (n - (i + 1)) + 1 by omega]
  rw [e]
  simp only [fm_fit]
  by_cases k3 : T i / 8 = 3
  · rw [if_pos k3, if_pos k3, g1 (by rw [fo_op3 k3]; omega)]
    rfl
  · rw [if_neg k3, if_neg k3]
    by_cases k4 : T i / 8 = 4
    · rw [if_pos k4, if_pos k4]
      rfl
    · rw [if_neg k4, if_neg k4]
      by_cases k2 : T i / 8 = 2
      · rw [if_pos k2, if_pos k2]
        rw [fo_op2 k2] at g1
        by_cases z2 : ar (T i % 8) < 2
        · simp only [z2, decide_true, Bool.true_or]
          rfl
        · rw [g1 (by omega)]
          rfl
      · rw [if_neg k2, if_neg k2]
/-- the first row from r on that takes it, plus 1; 0: none of the d rows -/
def fm_tk (M : Nat → Bool) : Nat → Nat → Nat
  | 0, _ => 0
  | d + 1, r => if M r = true then r + 1 else fm_tk M d (r + 1)
theorem fm_tk_le (M : Nat → Bool) : ∀ d r, fm_tk M d r ≤ r + d := by
  intro d
  induction d with
  | zero => intro r; exact Nat.zero_le _
  | succ d ih =>
    intro r
    simp only [fm_tk]
    split
    · omega
    · have := ih (r + 1); omega
theorem fm_tk_congr (M M' : Nat → Bool) : ∀ d r, (∀ i, r ≤ i → i < r + d → M i = M' i) → fm_tk M d r = fm_tk M' d r := by
  intro d
  induction d with
  | zero => intro r _; rfl
  | succ d ih =>
    intro r h
    simp only [fm_tk]
    rw [h r (by omega) (by omega), ih (r + 1) (fun i a b => h i (by omega) (by omega))]
/-- which row of function f takes the value S of m constructors, plus 1 -/
def fm_row (ar : Nat → Nat) (pat : Nat → Nat → Nat) (pl rc : Nat → Nat) (f : Nat) (S : Nat → Nat) (m : Nat) : Nat :=
  fm_tk (fun i => fm_F ar (pat (5 * f + i)) (pl (5 * f + i)) S m 0 0) (rc f) 0
/-- only the function's own rows count -/
theorem fm_row_congr {ar : Nat → Nat} {pat pat' : Nat → Nat → Nat} {pl pl' rc rc' : Nat → Nat} {f : Nat} (S : Nat → Nat) (m : Nat)
    (hr : rc' f = rc f) (hp : ∀ i, i < rc f → pat' (5 * f + i) = pat (5 * f + i) ∧ pl' (5 * f + i) = pl (5 * f + i)) :
    fm_row ar pat' pl' rc' f S m = fm_row ar pat pl rc f S m := by
  unfold fm_row
  rw [hr]
  exact fm_tk_congr _ _ _ _ (fun i _ h => by rw [(hp i (by omega)).1, (hp i (by omega)).2])
theorem fm_row_le (ar : Nat → Nat) (pat : Nat → Nat → Nat) (pl rc : Nat → Nat) (f : Nat) (S : Nat → Nat) (m : Nat) : fm_row ar pat pl rc f S m ≤ rc f := by
  have := fm_tk_le (fun i => fm_F ar (pat (5 * f + i)) (pl (5 * f + i)) S m 0 0) (rc f) 0
  unfold fm_row
  omega
theorem fm_tk_hit (M : Nat → Bool) : ∀ d r, fm_tk M d r ≠ 0 → r ≤ fm_tk M d r - 1 ∧ M (fm_tk M d r - 1) = true := by
  intro d
  induction d with
  | zero => intro r h; exact absurd rfl h
  | succ d ih =>
    intro r h
    simp only [fm_tk] at h ⊢
    by_cases hm : M r = true
    · rw [if_pos hm]; exact ⟨by omega, hm⟩
    · rw [if_neg hm] at h ⊢
      have := ih (r + 1) h
      exact ⟨by omega, this.2⟩
theorem fm_row_hit {ar : Nat → Nat} {pat : Nat → Nat → Nat} {pl rc : Nat → Nat} {f : Nat} {S : Nat → Nat} {m : Nat} (h : fm_row ar pat pl rc f S m ≠ 0) :
    fm_F ar (pat (5 * f + (fm_row ar pat pl rc f S m - 1))) (pl (5 * f + (fm_row ar pat pl rc f S m - 1))) S m 0 0 = true :=
  (fm_tk_hit _ _ _ h).2
/-- digit m of j to the base c -/
def fd_dg (c j m : Nat) : Nat := j / c ^ m % c
theorem fd_lt {c : Nat} (hc : 0 < c) (j m : Nat) : fd_dg c j m < c := Nat.mod_lt _ hc
theorem fd_up {c : Nat} (hc : 0 < c) (a : Nat) : (a % c + 1 < c → (a + 1) / c = a / c ∧ (a + 1) % c = a % c + 1) ∧
    (¬ a % c + 1 < c → (a + 1) / c = a / c + 1 ∧ (a + 1) % c = 0) := by
  have e := Nat.div_add_mod a c
  have l := Nat.mod_lt a hc
  refine ⟨fun h => (Nat.div_mod_unique hc).mpr ⟨by omega, h⟩, fun h => (Nat.div_mod_unique hc).mpr ⟨?_, hc⟩⟩
  rw [Nat.mul_add, Nat.mul_one]; omega
theorem fd_div (c j m : Nat) : j / c ^ (m + 1) = j / c ^ m / c := by rw [Nat.pow_succ, Nat.div_div_eq_div_mul]
theorem fd_high {c j j' m : Nat} (h : j / c ^ m = j' / c ^ m) : ∀ t, m ≤ t → j / c ^ t = j' / c ^ t := by
  intro t
  induction t with
  | zero => intro h2; have : m = 0 := by omega
            subst this; exact h
  | succ t ih =>
    intro h2
    by_cases e : m = t + 1
    · subst e; exact h
    · rw [fd_div, fd_div, ih (by omega)]
/-- how many below n -/
def fd_cn (P : Nat → Bool) : Nat → Nat
  | 0 => 0
  | n + 1 => fd_cn P n + if P n = true then 1 else 0
theorem fd_cn_le (P : Nat → Bool) : ∀ n, fd_cn P n ≤ n := by
  intro n
  induction n with
  | zero => exact Nat.le_refl _
  | succ n ih => simp only [fd_cn]; split <;> omega
theorem fd_cn_mono (P : Nat → Bool) : ∀ n m, n ≤ m → fd_cn P n ≤ fd_cn P m := by
  intro n m
  induction m with
  | zero => intro h; have : n = 0 := by omega
            subst this; exact Nat.le_refl _
  | succ m ih =>
    intro h
    by_cases e : n = m + 1
    · subst e; exact Nat.le_refl _
    · have := ih (by omega)
      simp only [fd_cn]; omega
/-- the first is one -/
theorem fd_first (P : Nat → Bool) {i j : Nat} (hi : P i = true) (zi : fd_cn P i = 0) (hj : P j = true) (zj : fd_cn P j = 0) : i = j := by
  have step : ∀ a b, P a = true → fd_cn P b = 0 → ¬ a < b := by
    intro a b ha hb hlt
    have := fd_cn_mono P (a + 1) b hlt
    simp only [fd_cn, ha, if_true] at this
    omega
  have h1 := step i j hi zj
  have h2 := step j i hj zi
  omega
end
section
def fs_SO {α β : Type} (rt : Nat → α → β → Prop) (yt : Nat → α) (op : Nat → Nat) (fr : Nat) : List Nat → Nat → List β → Prop
  | [], p, out => fr ≤ p ∧ ∃ m, ff_PF rt m (fe_sl yt fr (p - fr)) out
  | u :: st, p, out => ∃ m o0 o1, u < p ∧ m < op u ∧ ff_PF rt m (fe_sl yt (u + 1) (p - (u + 1))) o1 ∧ out = o0 ++ o1 ∧ fs_SO rt yt op fr st u o0
def fs_FU {α β : Type} (rt : Nat → α → β → Prop) (yt : Nat → α) (op : Nat → Nat) (fr : Nat) (u : Nat) (st : List Nat) (p : Nat) (out : List β) : Prop :=
  ∃ o0 o1, u < p ∧ ff_PF rt (op u) (fe_sl yt (u + 1) (p - (u + 1))) o1 ∧ out = o0 ++ o1 ∧ fs_SO rt yt op fr st u o0
theorem fs_start {α β : Type} {rt : Nat → α → β → Prop} {yt : Nat → α} {op : Nat → Nat} {fr : Nat} : fs_SO rt yt op fr [] fr [] :=
  ⟨Nat.le_refl _, 0, by rw [Nat.sub_self]; exact ff_nil⟩
theorem fs_push {α β : Type} {rt : Nat → α → β → Prop} {yt : Nat → α} {op : Nat → Nat} {fr p : Nat} {st : List Nat} {out : List β}
    (h : fs_SO rt yt op fr st p out) : (0 < op p → fs_SO rt yt op fr (p :: st) (p + 1) out) ∧ (op p = 0 → fs_FU rt yt op fr p st (p + 1) out) := by
  constructor
  · intro ho
    exact ⟨0, out, [], by omega, ho, by rw [Nat.sub_self]; exact ff_nil, by rw [List.append_nil], h⟩
  · intro ho
    exact ⟨out, [], by omega, by rw [Nat.sub_self, ho]; exact ff_nil, by rw [List.append_nil], h⟩
theorem fs_join {α : Type} (yt : Nat → α) {i u p : Nat} (h1 : i ≤ u) (h2 : u < p) :
    fe_sl yt i (u - i) ++ yt u :: fe_sl yt (u + 1) (p - (u + 1)) = fe_sl yt i (p - i) := by
  rw [show p - i = (u - i) + ((p - (u + 1)) + 1) by omega, fe_sl_add]
  rw [show i + (u - i) = u by omega]
  rfl
theorem fs_pop {α β : Type} {rt : Nat → α → β → Prop} {yt : Nat → α} {xt : Nat → β} {op : Nat → Nat} {fr u p : Nat} {st : List Nat} {out : List β}
    (hr : rt (op u) (yt u) (xt u)) (h : fs_FU rt yt op fr u st p out) :
    fs_SO rt yt op fr st p (out ++ [xt u]) ∨ ∃ u' st', st = u' :: st' ∧ fs_FU rt yt op fr u' st' p (out ++ [xt u]) := by
  obtain ⟨o0, o1, hu, h1, rfl, hS⟩ := h
  have tree := ff_one hr h1
  cases st with
  | nil =>
    obtain ⟨hf, m, hm⟩ := hS
    left
    refine ⟨by omega, m + 1, ?_⟩
    have := ff_app tree hm
    rw [fs_join yt hf hu] at this
    rwa [List.append_assoc]
  | cons u' st' =>
    obtain ⟨m, q0, q1, hu', hm, hp, rfl, hS'⟩ := hS
    have := ff_app tree hp
    rw [fs_join yt hu' hu] at this
    by_cases hlt : m + 1 < op u'
    · left
      exact ⟨m + 1, q0, q1 ++ (o1 ++ [xt u]), by omega, hlt, this, by simp [List.append_assoc], hS'⟩
    · right
      refine ⟨u', st', rfl, q0, q1 ++ (o1 ++ [xt u]), by omega, ?_, by simp [List.append_assoc], hS'⟩
      rwa [show op u' = m + 1 by omega]
/-- a token that is full ends here -/
theorem fs_endF {α β : Type} {rt : Nat → α → β → Prop} {yt : Nat → α} {op : Nat → Nat} {fr u p N : Nat} {st : List Nat} {out : List β}
    (hop : ∀ j k y, rt k (yt j) y → op j = k) (h : fs_FU rt yt op fr u st p out) (hp : p ≤ N) : fe_en op (N - u) 1 u = p := by
  obtain ⟨o0, o1, hu, h1, _, _⟩ := h
  have hl := fe_sl_len yt (p - (u + 1)) (u + 1)
  have e := ff_en op yt h1 (u + 1) (N - (u + 1)) 0 (by rw [hl]) (fun j k y _ _ => hop j k y) (by rw [hl]; omega)
  rw [hl, fe_en0] at e
  rw [show N - u = (N - (u + 1)) + 1 by omega, fe_ens]
  refine Eq.trans e ?_
  omega
/-- one that waits ends later -/
theorem fs_endS {α β : Type} {rt : Nat → α → β → Prop} {yt : Nat → α} {op : Nat → Nat} {fr u p N : Nat} {st : List Nat} {out : List β}
    (hop : ∀ j k y, rt k (yt j) y → op j = k) (h : fs_SO rt yt op fr (u :: st) p out) (hp : p ≤ N) (hN : N < 1000) : p < fe_en op (N - u) 1 u := by
  obtain ⟨m, o0, o1, hu, hm, h1, _, _⟩ := h
  have hl := fe_sl_len yt (p - (u + 1)) (u + 1)
  have e := ff_en op yt h1 (u + 1) (N - (u + 1)) (op u - m) (by rw [hl]) (fun j k y _ _ => hop j k y) (by rw [hl]; omega)
  rw [hl, show m + (op u - m) = op u by omega] at e
  rw [show N - u = (N - (u + 1)) + 1 by omega, fe_ens, show op u + 0 = op u from rfl, e]
  rcases fe_rng op (N - (u + 1) - (p - (u + 1))) (op u - m) (u + 1 + (p - (u + 1))) with w | ⟨w, _⟩ <;> omega
theorem fs_len {α β : Type} {rt : Nat → α → β → Prop} {yt : Nat → α} {op : Nat → Nat} {fr : Nat} : ∀ (st : List Nat) (p : Nat) (out : List β),
    fs_SO rt yt op fr st p out → fr ≤ p ∧ out.length + st.length = p - fr := by
  intro st
  induction st with
  | nil =>
    intro p out h
    obtain ⟨hf, m, hm⟩ := h
    have := (ff_len hm).1
    rw [fe_sl_len] at this
    exact ⟨hf, by simp only [List.length_nil]; omega⟩
  | cons u st ih =>
    intro p out h
    obtain ⟨m, o0, o1, hu, _, hm, rfl, hS⟩ := h
    have := (ff_len hm).1
    rw [fe_sl_len] at this
    obtain ⟨a, b⟩ := ih u o0 hS
    simp only [List.length_append, List.length_cons]
    omega
/-- a whole term: one tree -/
theorem fs_final {α β : Type} {rt : Nat → α → β → Prop} {yt : Nat → α} {op : Nat → Nat} {fr N : Nat} {out : List β}
    (hop : ∀ j k y, rt k (yt j) y → op j = k) (h : fs_SO rt yt op fr [] N out) (he : fe_en op (N - fr) 1 fr = N) (hN : N < 1000) :
    ff_PF rt 1 (fe_sl yt fr (N - fr)) out := by
  obtain ⟨hf, m, hm⟩ := h
  have hl := fe_sl_len yt (N - fr) fr
  have e := ff_en op yt hm fr (N - fr) 0 (by rw [hl]) (fun j k y _ _ => hop j k y) (by rw [hl]; exact Nat.le_refl _)
  rw [hl, fe_en0, Nat.add_zero, show fr + (N - fr) = N by omega] at e
  have h1 := fe_rng op (N - fr) 1 fr
  have hm1 : m = 1 := by
    cases m with
    | zero => rw [fe_en0] at e; omega
    | succ m =>
      rw [show m + 1 = 1 + m by omega] at e
      obtain ⟨e1, g1, g2, g3, _⟩ := fe_pre op e (by omega) (by omega)
      omega
  rwa [hm1] at hm
end
section
/-- the part of the value S (m constructors) that begins at p -/
def fv_sub (ar S : Nat → Nat) (m p : Nat) : List Nat := fe_sl S p (fe_pe (fm_v ar S) m p - p)
theorem fv_sub_len (ar S : Nat → Nat) (m p : Nat) : (fv_sub ar S m p).length = fe_pe (fm_v ar S) m p - p := fe_sl_len _ _ _
theorem fv_sub_s0 {ar S : Nat → Nat} {m p : Nat} (hp : p < m) (h : ar (S p) = 0) : fv_sub ar S m p = [S p] := by
  unfold fv_sub
  rw [fe_pe_c0 (fm_v ar S) hp h, show p + 1 - p = 1 by omega]
  rfl
theorem fv_sub_s1 {ar S : Nat → Nat} {m p : Nat} (f : fe_full (fm_v ar S) m) (hp : p < m) (h : ar (S p) = 1) :
    p + 1 < m ∧ fv_sub ar S m p = S p :: fv_sub ar S m (p + 1) := by
  have e := fe_full_e f hp
  obtain ⟨a, b⟩ := fe_pe_c1 (fm_v ar S) hp e.2 f.2.1 h
  have e2 := fe_full_e f a
  refine ⟨a, ?_⟩
  unfold fv_sub
  rw [b, show fe_pe (fm_v ar S) m (p + 1) - p = (fe_pe (fm_v ar S) m (p + 1) - (p + 1)) + 1 by omega]
  rfl
theorem fv_sub_s2 {ar S : Nat → Nat} {m p : Nat} (f : fe_full (fm_v ar S) m) (hp : p < m) (h : ar (S p) = 2) :
    p + 1 < m ∧ p + 1 < fe_pe (fm_v ar S) m (p + 1) ∧ fe_pe (fm_v ar S) m (p + 1) < m ∧
      fv_sub ar S m p = S p :: (fv_sub ar S m (p + 1) ++ fv_sub ar S m (fe_pe (fm_v ar S) m (p + 1))) := by
  have e := fe_full_e f hp
  obtain ⟨a, b, c, d, g⟩ := fe_pe_c2 (fm_v ar S) hp e.2 f.2.1 h
  refine ⟨a, b, c, ?_⟩
  have e2 := fe_full_e f c
  unfold fv_sub
  rw [← d]
  rw [show fe_pe (fm_v ar S) m p - p = ((fe_pe (fm_v ar S) m (p + 1) - (p + 1)) + (fe_pe (fm_v ar S) m p - fe_pe (fm_v ar S) m (p + 1))) + 1 by omega]
  show S p :: fe_sl S (p + 1) _ = _
  rw [fe_sl_add, show p + 1 + (fe_pe (fm_v ar S) m (p + 1) - (p + 1)) = fe_pe (fm_v ar S) m (p + 1) by omega]
/-- the whole value -/
theorem fv_sub_0 {ar S : Nat → Nat} {m : Nat} (f : fe_full (fm_v ar S) m) : fv_sub ar S m 0 = fe_sl S 0 m := by
  unfold fv_sub
  rw [f.2.2, Nat.sub_zero]
/-- node n of arity-many nodes stands for the list dn n -/
def fv_Nd (ar : Nat → Nat) (c N : Nat) (dn : Nat → List Nat) (n h l r : Nat) : Prop :=
  h < c ∧ (dn n).length ≤ 40 ∧ ((ar h = 0 ∧ dn n = [h]) ∨ (ar h = 1 ∧ l < N ∧ dn n = h :: dn l) ∨ (ar h = 2 ∧ l < N ∧ r < N ∧ dn n = h :: (dn l ++ dn r)))
theorem fv_Nd_up {ar : Nat → Nat} {c N N' : Nat} {dn dn' : Nat → List Nat} {n h l r : Nat} (g : fv_Nd ar c N dn n h l r) (hN : N ≤ N')
    (hn : n < N) (e : ∀ q, q < N → dn' q = dn q) : fv_Nd ar c N' dn' n h l r := by
  obtain ⟨hc, hl, g⟩ := g
  refine ⟨hc, by rw [e n hn]; exact hl, ?_⟩
  rcases g with ⟨a, b⟩ | ⟨a, b, d⟩ | ⟨a, b, b2, d⟩
  · exact Or.inl ⟨a, by rw [e n hn]; exact b⟩
  · exact Or.inr (Or.inl ⟨a, by omega, by rw [e n hn, e l b]; exact d⟩)
  · exact Or.inr (Or.inr ⟨a, by omega, by omega, by rw [e n hn, e l b, e r b2]; exact d⟩)
def fv_H (ar : Nat → Nat) (c N : Nat) (dn : Nat → List Nat) : Prop := ∀ n, n < N → ∃ h l r, fv_Nd ar c N dn n h l r
def fv_cc (dn : Nat → List Nat) : List Nat → List Nat
  | [] => []
  | n :: ns => dn n ++ fv_cc dn ns
theorem fv_pos {ar : Nat → Nat} {c N : Nat} {dn : Nat → List Nat} {n h l r : Nat} (g : fv_Nd ar c N dn n h l r) : 0 < (dn n).length := by
  rcases g.2.2 with ⟨_, b⟩ | ⟨_, _, d⟩ | ⟨_, _, _, d⟩
  · rw [b]; exact Nat.one_pos
  · rw [d, List.length_cons]; omega
  · rw [d, List.length_cons]; omega
theorem fv_Hpos {ar : Nat → Nat} {c N : Nat} {dn : Nat → List Nat} (H : fv_H ar c N dn) {n : Nat} (hn : n < N) : 0 < (dn n).length ∧ (dn n).length ≤ 40 := by
  obtain ⟨h, l, r, g⟩ := H n hn
  exact ⟨fv_pos g, g.2.1⟩
/-- a list as an array -/
def fv_g (W : List Nat) : Nat → Nat := fun j => W.getD j 0
theorem fv_head {W : List Nat} {p c : Nat} {ts : List Nat} (e : W.drop p = c :: ts) : fv_g W p = c ∧ W.drop (p + 1) = ts ∧ p < W.length := by
  refine ⟨?_, ?_, ?_⟩
  · have : (W.drop p)[0]? = some c := by rw [e]; rfl
    rw [List.getElem?_drop, Nat.add_zero] at this
    unfold fv_g
    rw [List.getD_eq_getElem?_getD, this]; rfl
  · rw [← List.drop_drop, e]; rfl
  · have := congrArg List.length e
    rw [List.length_drop, List.length_cons] at this
    omega
theorem fv_gsl {W : List Nat} : ∀ (a : List Nat) (p : Nat) (tl : List Nat), W.drop p = a ++ tl → fe_sl (fv_g W) p a.length = a := by
  intro a
  induction a with
  | nil => intro p tl _; rfl
  | cons x a ih =>
    intro p tl e
    obtain ⟨e1, e2, _⟩ := fv_head (show W.drop p = x :: (a ++ tl) from e)
    show fv_g W p :: fe_sl (fv_g W) (p + 1) a.length = x :: a
    rw [e1, ih (p + 1) tl e2]
/-- a pending counter over the list of a value passes it as one term -/
theorem fv_en {ar : Nat → Nat} {c N : Nat} {dn : Nat → List Nat} (H : fv_H ar c N dn) (W : List Nat) :
    ∀ s n p tl d k, (dn n).length ≤ s → n < N → W.drop p = dn n ++ tl → (dn n).length ≤ d →
      fe_en (fm_v ar (fv_g W)) d (k + 1) p = fe_en (fm_v ar (fv_g W)) (d - (dn n).length) k (p + (dn n).length) := by
  intro s
  induction s with
  | zero => intro n p tl d k hs hn _ _; have := (fv_Hpos H hn).1; omega
  | succ s ih =>
    intro n p tl d k hs hn hW hd'
    have hp := (fv_Hpos H hn).1
    obtain ⟨d, rfl⟩ : ∃ d', d = d' + 1 := ⟨d - 1, by omega⟩
    rw [fe_ens]
    obtain ⟨h, l, r, hc, h40, ⟨a, b⟩ | ⟨a, b, e⟩ | ⟨a, b, b2, e⟩⟩ := H n hn
    · rw [b] at hW hd' ⊢
      obtain ⟨e1, e2, _⟩ := fv_head (show W.drop p = h :: tl from hW)
      show fe_en _ d (ar (fv_g W p) + k) (p + 1) = _
      rw [e1, a, Nat.zero_add]
      rfl
    · rw [e] at hW hd' hs ⊢
      obtain ⟨e1, e2, _⟩ := fv_head (show W.drop p = h :: (dn l ++ tl) from hW)
      simp only [List.length_cons] at hd' hs ⊢
      show fe_en _ d (ar (fv_g W p) + k) (p + 1) = _
      rw [e1, a, Nat.add_comm 1 k, ih l (p + 1) tl d k (by omega) b e2 (by omega)]
      congr 1 <;> omega
    · rw [e] at hW hd' hs ⊢
      obtain ⟨e1, e2, _⟩ := fv_head (show W.drop p = h :: (dn l ++ (dn r ++ tl)) by rw [hW]; simp)
      simp only [List.length_cons, List.length_append] at hd' hs ⊢
      show fe_en _ d (ar (fv_g W p) + k) (p + 1) = _
      rw [e1, a, show 2 + k = (k + 1) + 1 by omega, ih l (p + 1) _ d (k + 1) (by omega) b e2 (by omega)]
      have e3 : W.drop (p + 1 + (dn l).length) = dn r ++ tl := by
        rw [← List.drop_drop, e2, List.drop_left]
      rw [ih r (p + 1 + (dn l).length) tl (d - (dn l).length) k (by omega) b2 e3 (by omega)]
      congr 1 <;> omega
/-- the part of a value's list that a node stands for -/
theorem fv_at {ar : Nat → Nat} {c N : Nat} {dn : Nat → List Nat} (H : fv_H ar c N dn) {W : List Nat} {n p : Nat} {tl : List Nat} (hn : n < N)
    (hW : W.drop p = dn n ++ tl) : fe_pe (fm_v ar (fv_g W)) W.length p = p + (dn n).length ∧ fv_sub ar (fv_g W) W.length p = dn n ∧ p + (dn n).length ≤ W.length := by
  have hl := congrArg List.length hW
  rw [List.length_drop, List.length_append] at hl
  have h0 := (fv_Hpos H hn).1
  have e : fe_pe (fm_v ar (fv_g W)) W.length p = p + (dn n).length := by
    have := fv_en H W _ n p tl (W.length - p) 0 (Nat.le_refl _) hn hW (by omega)
    rw [fe_en0] at this
    exact this
  refine ⟨e, ?_, by omega⟩
  unfold fv_sub
  rw [e, show p + (dn n).length - p = (dn n).length by omega]
  exact fv_gsl (dn n) p tl hW
theorem fv_full {ar : Nat → Nat} {c N : Nat} {dn : Nat → List Nat} (H : fv_H ar c N dn) {n : Nat} (hn : n < N) :
    fe_full (fm_v ar (fv_g (dn n))) (dn n).length := by
  have h := fv_Hpos H hn
  obtain ⟨a, _, _⟩ := fv_at H (W := dn n) (p := 0) (tl := []) hn (by simp)
  exact ⟨h.1, by omega, by rw [a]; omega⟩
/-- its constructors are constructors -/
theorem fv_con {ar : Nat → Nat} {c N : Nat} {dn : Nat → List Nat} (H : fv_H ar c N dn) : ∀ s n, (dn n).length ≤ s → n < N → ∀ x, x ∈ dn n → x < c := by
  intro s
  induction s with
  | zero => intro n hs hn; have := (fv_Hpos H hn).1; omega
  | succ s ih =>
    intro n hs hn x hx
    obtain ⟨h, l, r, hc, h40, ⟨a, b⟩ | ⟨a, b, e⟩ | ⟨a, b, b2, e⟩⟩ := H n hn
    · rw [b] at hx
      rcases List.mem_cons.mp hx with g | g
      · omega
      · cases g
    · rw [e] at hx hs
      rw [List.length_cons] at hs
      rcases List.mem_cons.mp hx with g | g
      · omega
      · exact ih l (by omega) b x g
    · rw [e] at hx hs
      rw [List.length_cons, List.length_append] at hs
      rcases List.mem_cons.mp hx with g | g
      · omega
      · rcases List.mem_append.mp g with g | g
        · exact ih l (by omega) b x g
        · exact ih r (by omega) b2 x g
theorem fv_gmem {W : List Nat} {j : Nat} (h : j < W.length) : fv_g W j ∈ W := by
  unfold fv_g
  rw [List.getD_eq_getElem?_getD, List.getElem?_eq_getElem h]
  exact List.getElem_mem h
/-- nodes that wait at their own places -/
def fv_PO (dn : Nat → List Nat) (sn : Nat → Nat) : List Nat → Nat → Prop
  | [], _ => True
  | n :: ns, p => sn p = n ∧ fv_PO dn sn ns (p + (dn n).length)
theorem fv_PO_c {dn : Nat → List Nat} {sn sn' : Nat → Nat} : ∀ ns p, (∀ q, p ≤ q → sn' q = sn q) → fv_PO dn sn ns p → fv_PO dn sn' ns p := by
  intro ns
  induction ns with
  | nil => intro p _ _; trivial
  | cons n ns ih =>
    intro p h hp
    exact ⟨by rw [h p (Nat.le_refl _)]; exact hp.1, ih _ (fun q hq => h q (by omega)) hp.2⟩
end
section
/-- the walk that binds: k terms from i against k values from p -/
def fb_CH (fit : Nat → Nat → Bool) (pe E : Nat → Nat) (n m : Nat) : Nat → Nat → Nat → Prop
  | 0, i, _ => i = n
  | k + 1, i, p => i < n ∧ p < m ∧ fit i p = true ∧ fb_CH fit pe E n m k (pe i) (E p)
/-- where the places stand -/
def fb_PL (pe E pl : Nat → Nat) : Nat → Nat → Nat → Prop
  | 0, _, _ => True
  | k + 1, i, p => pl i = p ∧ fb_PL pe E pl k (pe i) (E p)
theorem fb_PL_c {fit : Nat → Nat → Bool} {pe E pl pl' : Nat → Nat} {n m : Nat} (hpe : ∀ i, i < n → i < pe i) : ∀ k i p, (∀ q, i ≤ q → pl' q = pl q) →
    fb_CH fit pe E n m k i p → fb_PL pe E pl k i p → fb_PL pe E pl' k i p := by
  intro k
  induction k with
  | zero => intro i p _ _ h; trivial
  | succ k ih =>
    intro i p h hc hp
    obtain ⟨a, b, c, d⟩ := hc
    have := hpe i a
    exact ⟨by rw [h i (Nat.le_refl _)]; exact hp.1, ih _ _ (fun q hq => h q (by omega)) d hp.2⟩
section
variable {ar T S : Nat → Nat} {n m : Nat}
/-- a constructor against a constructor -/
theorem fb_con (hT : fe_full (fm_o ar T) n) (hS : fe_full (fm_v ar S) m) (ha : ∀ i, ar i ≤ 2) {k i p : Nat}
    (hc : fb_CH (fm_F ar T n S m) (fe_pe (fm_o ar T) n) (fe_pe (fm_v ar S) m) n m (k + 1) i p) (h2 : T i / 8 = 2) :
    S p = T i % 8 ∧ fb_CH (fm_F ar T n S m) (fe_pe (fm_o ar T) n) (fe_pe (fm_v ar S) m) n m (ar (T i % 8) + k) (i + 1) (p + 1) ∧
      (1 ≤ ar (T i % 8) → i + 1 < n ∧ p + 1 < m) ∧
      (ar (T i % 8) = 2 → i + 1 < fe_pe (fm_o ar T) n (i + 1) ∧ fe_pe (fm_o ar T) n (i + 1) < n ∧ fe_pe (fm_o ar T) n (i + 1) < fe_pe (fm_o ar T) n i ∧
        fe_pe (fm_v ar S) m (p + 1) < m) := by
  obtain ⟨hi, hp, hf, hr⟩ := hc
  rw [fm_un hT S m hi p, if_neg (by omega), if_neg (by omega), if_pos h2] at hf
  simp only [Bool.and_eq_true, Bool.or_eq_true, decide_eq_true_eq] at hf
  obtain ⟨⟨f0, f1⟩, f2⟩ := hf
  have ei := fe_full_e hT hi
  have ep := fe_full_e hS hp
  have eo : fm_o ar T i = ar (T i % 8) := fo_op2 h2
  have ev : fm_v ar S p = ar (T i % 8) := by show ar (S p) = _; rw [f0]
  have h3 := ha (T i % 8)
  refine ⟨f0, ?_⟩
  by_cases z0 : ar (T i % 8) = 0
  · rw [z0]
    rw [fe_pe_c0 _ hi (eo.trans z0), fe_pe_c0 _ hp (ev.trans z0)] at hr
    refine ⟨by rw [Nat.zero_add]; exact hr, fun h => by omega, fun h => by omega⟩
  · by_cases z1 : ar (T i % 8) = 1
    · rw [z1]
      obtain ⟨a1, a2⟩ := fe_pe_c1 _ hi ei.2 hT.2.1 (eo.trans z1)
      obtain ⟨b1, b2⟩ := fe_pe_c1 _ hp ep.2 hS.2.1 (ev.trans z1)
      rw [a2, b2] at hr
      refine ⟨?_, fun _ => ⟨a1, b1⟩, fun h => by omega⟩
      rw [Nat.add_comm]
      exact ⟨a1, b1, f1.resolve_left (by omega), hr⟩
    · have z2 : ar (T i % 8) = 2 := by omega
      rw [z2]
      obtain ⟨a1, a2, a3, a4, a5⟩ := fe_pe_c2 _ hi ei.2 hT.2.1 (eo.trans z2)
      obtain ⟨b1, b2, b3, b4, b5⟩ := fe_pe_c2 _ hp ep.2 hS.2.1 (ev.trans z2)
      rw [a4, b4] at hr
      refine ⟨?_, fun _ => ⟨a1, b1⟩, fun _ => ⟨a2, a3, a5, b3⟩⟩
      rw [show 2 + k = (k + 1) + 1 by omega]
      exact ⟨a1, b1, f1.resolve_left (by omega), a3, b3, f2.resolve_left (by omega), hr⟩
/-- the walk itself: what each variable is bound to -/
def fb_w (T pe E : Nat → Nat) (n : Nat) : Nat → Nat → Nat → (Nat → Option Nat) → Nat → Option Nat
  | 0, _, _, b => b
  | d + 1, i, p, b =>
    if i < n then
      if T i / 8 = 2 then fb_w T pe E n d (i + 1) (p + 1) b
      else fb_w T pe E n d (pe i) (E p) (if T i / 8 = 1 then fun v => if v = T i % 8 then some p else b v else b)
    else b
theorem fb_w_out {T pe E : Nat → Nat} {n : Nat} {i p : Nat} {b : Nat → Option Nat} (h : ¬ i < n) : ∀ d, fb_w T pe E n d i p b = b := by
  intro d
  cases d with
  | zero => rfl
  | succ d => simp only [fb_w]; rw [if_neg h]
theorem fb_w_con {T pe E : Nat → Nat} {n d i p : Nat} {b : Nat → Option Nat} (h : i < n) (h2 : T i / 8 = 2) :
    fb_w T pe E n (d + 1) i p b = fb_w T pe E n d (i + 1) (p + 1) b := by
  simp only [fb_w]; rw [if_pos h, if_pos h2]
theorem fb_w_var {T pe E : Nat → Nat} {n d i p : Nat} {b : Nat → Option Nat} (h : i < n) (h1 : T i / 8 = 1) :
    fb_w T pe E n (d + 1) i p b = fb_w T pe E n d (pe i) (E p) (fun v => if v = T i % 8 then some p else b v) := by
  simp only [fb_w]; rw [if_pos h, if_neg (by omega), if_pos h1]
theorem fb_w_oth {T pe E : Nat → Nat} {n d i p : Nat} {b : Nat → Option Nat} (h : i < n) (h2 : T i / 8 ≠ 2) (h1 : T i / 8 ≠ 1) :
    fb_w T pe E n (d + 1) i p b = fb_w T pe E n d (pe i) (E p) b := by
  simp only [fb_w]; rw [if_pos h, if_neg h2, if_neg h1]
theorem fb_w_some {T pe E : Nat → Nat} {n : Nat} {v : Nat} : ∀ d i p b, (∃ q, b v = some q) → ∃ q, fb_w T pe E n d i p b v = some q := by
  intro d
  induction d with
  | zero => intro i p b h; exact h
  | succ d ih =>
    intro i p b h
    by_cases hi : i < n
    · by_cases h2 : T i / 8 = 2
      · rw [fb_w_con hi h2]; exact ih _ _ _ h
      · by_cases h1 : T i / 8 = 1
        · rw [fb_w_var hi h1]
          refine ih _ _ _ ?_
          by_cases e : v = T i % 8
          · exact ⟨p, if_pos e⟩
          · obtain ⟨q, hq⟩ := h
            exact ⟨q, by rw [if_neg e]; exact hq⟩
        · rw [fb_w_oth hi h2 h1]; exact ih _ _ _ h
    · rw [fb_w_out hi]; exact h
theorem fb_w_lt (hT : fe_full (fm_o ar T) n) (hS : fe_full (fm_v ar S) m) (ha : ∀ i, ar i ≤ 2) : ∀ d k i p b,
    fb_CH (fm_F ar T n S m) (fe_pe (fm_o ar T) n) (fe_pe (fm_v ar S) m) n m k i p → (∀ v q, b v = some q → q < m) →
    ∀ v q, fb_w T (fe_pe (fm_o ar T) n) (fe_pe (fm_v ar S) m) n d i p b v = some q → q < m := by
  intro d
  induction d with
  | zero => intro k i p b _ h; exact h
  | succ d ih =>
    intro k i p b hc h
    by_cases hi : i < n
    · cases k with
      | zero => have : i = n := hc
                omega
      | succ k =>
        by_cases h2 : T i / 8 = 2
        · rw [fb_w_con hi h2]
          exact ih _ _ _ _ (fb_con hT hS ha hc h2).2.1 h
        · by_cases h1 : T i / 8 = 1
          · rw [fb_w_var hi h1]
            refine ih _ _ _ _ hc.2.2.2 ?_
            intro v q hq
            by_cases e : v = T i % 8
            · rw [if_pos e] at hq
              have : p = q := Option.some.inj hq
              have := hc.2.1
              omega
            · rw [if_neg e] at hq
              exact h v q hq
          · rw [fb_w_oth hi h2 h1]
            exact ih _ _ _ _ hc.2.2.2 h
    · rw [fb_w_out hi]; exact h
/-- every variable of the pattern is bound -/
theorem fb_w_all (hT : fe_full (fm_o ar T) n) (E : Nat → Nat) (hv : ∀ i j, i < n → (T i / 8 = 3 ∨ T i / 8 = 4) → i ≤ j → j < fe_pe (fm_o ar T) n i → T j / 8 ≠ 1)
    (h5 : ∀ i, i < n → T i / 8 < 5) : ∀ d i p b j, n ≤ i + d → i ≤ j → j < n → T j / 8 = 1 →
    ∃ q, fb_w T (fe_pe (fm_o ar T) n) E n d i p b (T j % 8) = some q := by
  intro d
  induction d with
  | zero => intro i p b j h1 h2 h3; omega
  | succ d ih =>
    intro i p b j h1 h2 h3 h4
    have hi : i < n := by omega
    by_cases k2 : T i / 8 = 2
    · rw [fb_w_con hi k2]
      have : i ≠ j := fun e => by subst e; omega
      exact ih _ _ _ j (by omega) (by omega) h3 h4
    · have ei := fe_full_e hT hi
      by_cases k1 : T i / 8 = 1
      · rw [fb_w_var hi k1]
        by_cases e : i = j
        · subst e
          exact fb_w_some _ _ _ _ ⟨p, if_pos rfl⟩
        · have : fe_pe (fm_o ar T) n i = i + 1 := fe_pe_c0 _ hi (fo_op01 (Or.inr k1))
          exact ih _ _ _ j (by omega) (by omega) h3 h4
      · rw [fb_w_oth hi k2 k1]
        have : i ≠ j := fun e => by subst e; omega
        have h5i := h5 i hi
        by_cases k0 : T i / 8 = 0
        · have : fe_pe (fm_o ar T) n i = i + 1 := fe_pe_c0 _ hi (fo_op01 (Or.inl k0))
          exact ih _ _ _ j (by omega) (by omega) h3 h4
        · have g : ¬ j < fe_pe (fm_o ar T) n i := fun hlt => hv i j hi (by omega) h2 hlt h4
          exact ih _ _ _ j (by omega) (by omega) h3 h4
/-- more fuel than tokens changes nothing -/
theorem fb_w_fuel (hT : fe_full (fm_o ar T) n) (E : Nat → Nat) : ∀ d d' i p b, n ≤ i + d → n ≤ i + d' →
    fb_w T (fe_pe (fm_o ar T) n) E n d i p b = fb_w T (fe_pe (fm_o ar T) n) E n d' i p b := by
  intro d
  induction d with
  | zero => intro d' i p b h1 h2; rw [fb_w_out (by omega), fb_w_out (by omega)]
  | succ d ih =>
    intro d' i p b h1 h2
    by_cases hi : i < n
    · have ei := fe_full_e hT hi
      cases d' with
      | zero => omega
      | succ d' =>
        by_cases k2 : T i / 8 = 2
        · rw [fb_w_con hi k2, fb_w_con hi k2]
          exact ih _ _ _ _ (by omega) (by omega)
        · by_cases k1 : T i / 8 = 1
          · rw [fb_w_var hi k1, fb_w_var hi k1]
            exact ih _ _ _ _ (by omega) (by omega)
          · rw [fb_w_oth hi k2 k1, fb_w_oth hi k2 k1]
            exact ih _ _ _ _ (by omega) (by omega)
    · rw [fb_w_out hi, fb_w_out hi]
end
end
section
/-- a token of a result that is worked out: a value, or (kind, v, the function whose result it is of) -/
abbrev fg_T : Type := Sum (List Nat) (Nat × Nat × Nat)
def fg_V (x : fg_T) : Prop := ∃ L, x = Sum.inl L
def fg_k (ar : Nat → Nat) : fg_T → Nat
  | Sum.inl _ => 0
  | Sum.inr (k, v, _) => if k = 2 then ar v else 1
def fg_ok (c : Nat) : fg_T → Prop
  | Sum.inl _ => True
  | Sum.inr (k, v, o) => ((k = 2 ∧ v < c) ∨ (k = 5 ∧ v < 4)) ∧ o < 4
def fg_rt (ar : Nat → Nat) (c k : Nat) (x y : fg_T) : Prop := x = y ∧ k = fg_k ar x ∧ fg_ok c x
theorem fg_hv {ar : Nat → Nat} {c : Nat} : ∀ k x y, fg_rt ar c k x y → (fg_V x ↔ fg_V y) := fun _ _ _ h => by rw [h.1]
theorem fg_h0 {ar : Nat → Nat} {c : Nat} : ∀ k x y, fg_rt ar c k x y → fg_V x → k = 0 := fun k x y h hv => by
  obtain ⟨L, rfl⟩ := hv
  exact h.2.1
/-- a new value of the latest operands -/
def fg_mk (ar : Nat → Nat) (v : Nat) (st : List (List Nat)) : List Nat := v :: (st.take (ar v)).reverse.flatten
/-- what comes of it: status, steps, the function blamed plus 1, the value -/
def fg_go (ar : Nat → Nat) (row : Nat → List Nat → Nat) (res : Nat → List Nat → List fg_T) : Nat → Nat → List (List Nat) → List fg_T → Nat × Nat × Nat × List Nat
  | 0, s, _, _ => (9, s, 0, [])
  | _ + 1, s, st, [] => (0, s, 0, st.headD [])
  | n + 1, s, st, Sum.inl L :: rest => fg_go ar row res n s (L :: st) rest
  | n + 1, s, st, Sum.inr (k, v, o) :: rest =>
    if k = 5 then
      if s = 100 then (2, s, v + 1, [])
      else if row v (st.headD []) = 0 then (1, s + 1, v + 1, [])
      else fg_go ar row res n (s + 1) st.tail (res v (st.headD []) ++ rest)
    else if 40 < (fg_mk ar v st).length then (3, s, o + 1, [])
    else fg_go ar row res n s (fg_mk ar v st :: st.drop (ar v)) rest
section
variable {ar : Nat → Nat} {row : Nat → List Nat → Nat} {res : Nat → List Nat → List fg_T} {n s : Nat} {st : List (List Nat)} {rest : List fg_T}
theorem fg_go_nil : fg_go ar row res (n + 1) s st [] = (0, s, 0, st.headD []) := rfl
theorem fg_go_val {L : List Nat} : fg_go ar row res (n + 1) s st (Sum.inl L :: rest) = fg_go ar row res n s (L :: st) rest := rfl
theorem fg_go_long {v o : Nat} (h : s = 100) : fg_go ar row res (n + 1) s st (Sum.inr (5, v, o) :: rest) = (2, s, v + 1, []) := by
  simp only [fg_go]; rw [if_pos trivial, if_pos h]
theorem fg_go_stuck {v o : Nat} (h : s ≠ 100) (h2 : row v (st.headD []) = 0) : fg_go ar row res (n + 1) s st (Sum.inr (5, v, o) :: rest) = (1, s + 1, v + 1, []) := by
  simp only [fg_go]; rw [if_pos trivial, if_neg h, if_pos h2]
theorem fg_go_call {v o : Nat} (h : s ≠ 100) (h2 : row v (st.headD []) ≠ 0) : fg_go ar row res (n + 1) s st (Sum.inr (5, v, o) :: rest) =
    fg_go ar row res n (s + 1) st.tail (res v (st.headD []) ++ rest) := by
  simp only [fg_go]; rw [if_pos trivial, if_neg h, if_neg h2]
theorem fg_go_big {v o : Nat} (h : 40 < (fg_mk ar v st).length) : fg_go ar row res (n + 1) s st (Sum.inr (2, v, o) :: rest) = (3, s, o + 1, []) := by
  simp only [fg_go]; rw [if_neg (by decide), if_pos h]
theorem fg_go_con {v o : Nat} (h : ¬ 40 < (fg_mk ar v st).length) : fg_go ar row res (n + 1) s st (Sum.inr (2, v, o) :: rest) =
    fg_go ar row res n s (fg_mk ar v st :: st.drop (ar v)) rest := by
  simp only [fg_go]; rw [if_neg (by decide), if_neg h]
end
/-- two forests of values alone are one -/
theorem fg_same {ar : Nat → Nat} {c n : Nat} {a b : List fg_T} (h : ff_PF (fg_rt ar c) n a b) (hb : ∀ y, y ∈ b → fg_V y) : a = b := by
  obtain ⟨h1, h2, h3, h4⟩ := ff_done (V := fg_V) (U := fg_V) fg_hv fg_h0 h hb
  apply List.ext_getElem?
  intro i
  by_cases hi : i < n
  · obtain ⟨x, y, e1, e2, e3⟩ := h4 i hi
    rw [e1, e2, e3.1]
  · rw [List.getElem?_eq_none (by omega), List.getElem?_eq_none (by omega)]
/-- tokens of a forest are tokens -/
theorem ff_mem {α β : Type} {rt : Nat → α → β → Prop} {n : Nat} {a : List α} {b : List β} (h : ff_PF rt n a b) :
    (∀ x, x ∈ a → ∃ k y, rt k x y) ∧ (∀ y, y ∈ b → ∃ k x, rt k x y) := by
  refine ff_ind (fun _ a b => (∀ x, x ∈ a → ∃ k y, rt k x y) ∧ (∀ y, y ∈ b → ∃ k x, rt k x y)) ⟨fun x hx => (by cases hx), fun x hx => (by cases hx)⟩ ?_ h
  intro k x y m a1 b1 a2 b2 hr _ q1 _ q2
  refine ⟨fun z hz => ?_, fun z hz => ?_⟩
  · rcases List.mem_cons.mp hz with e | e
    · exact ⟨k, y, e ▸ hr⟩
    · rcases List.mem_append.mp e with e | e
      · exact q1.1 z e
      · exact q2.1 z e
  · rcases List.mem_append.mp hz with e | e
    · exact q1.2 z e
    · rcases List.mem_cons.mp e with e | e
      · exact ⟨k, x, e ▸ hr⟩
      · exact q2.2 z e
/-- a row's result, heads first and heads last: tokens of results, whose variables are in the pattern -/
def fg_rs (ar : Nat → Nat) (c : Nat) (T : Nat → Nat) (n : Nat) (k x y : Nat) : Prop :=
  x = y ∧ k = fo_op ar x ∧ ((x / 8 = 1 ∧ x % 8 < 4 ∧ ∃ j, j < n ∧ T j = x) ∨ (x / 8 = 2 ∧ x % 8 < c) ∨ (x / 8 = 5 ∧ x % 8 < 4))
/-- which row takes L, plus 1 -/
def fg_row (ar : Nat → Nat) (pat : Nat → Nat → Nat) (pl rc : Nat → Nat) (f : Nat) (L : List Nat) : Nat :=
  fm_row ar pat pl rc f (fv_g L) L.length
/-- what the variables of a pattern stand for -/
def fg_bd (ar T : Nat → Nat) (n : Nat) (L : List Nat) : Nat → Option Nat :=
  fb_w T (fe_pe (fm_o ar T) n) (fe_pe (fm_v ar (fv_g L)) L.length) n 12 0 0 (fun _ => none)
def fg_sb (ar T : Nat → Nat) (n f : Nat) (L : List Nat) (x : Nat) : fg_T :=
  if x / 8 = 1 then Sum.inl (fv_sub ar (fv_g L) L.length ((fg_bd ar T n L (x % 8)).getD 0)) else Sum.inr (x / 8, x % 8, f)
def fg_res (ar : Nat → Nat) (pat : Nat → Nat → Nat) (pl rc : Nat → Nat) (out : Nat → List Nat) (f : Nat) (L : List Nat) : List fg_T :=
  (out (5 * f + (fg_row ar pat pl rc f L - 1))).map (fg_sb ar (pat (5 * f + (fg_row ar pat pl rc f L - 1))) (pl (5 * f + (fg_row ar pat pl rc f L - 1))) f L)
theorem fg_sb_rt {ar : Nat → Nat} {c : Nat} {T : Nat → Nat} {n f : Nat} (L : List Nat) (hf : f < 4) : ∀ k x y, fg_rs ar c T n k x y →
    fg_rt ar c k (fg_sb ar T n f L x) (fg_sb ar T n f L y) := by
  intro k x y ⟨e, hk, h⟩
  subst e
  refine ⟨rfl, ?_, ?_⟩
  · unfold fg_sb
    by_cases h1 : x / 8 = 1
    · rw [if_pos h1, hk, fo_op01 (Or.inr h1)]; rfl
    · rw [if_neg h1, hk]
      show _ = if x / 8 = 2 then ar (x % 8) else 1
      by_cases h2 : x / 8 = 2
      · rw [if_pos h2, fo_op2 h2]
      · rw [if_neg h2, fo_op45 (by omega)]
  · unfold fg_sb
    by_cases h1 : x / 8 = 1
    · rw [if_pos h1]; trivial
    · rw [if_neg h1]
      exact ⟨by omega, hf⟩
theorem fg_PF {ar : Nat → Nat} {c : Nat} {T : Nat → Nat} {n f : Nat} {a b : List Nat} (L : List Nat) (hf : f < 4) (h : ff_PF (fg_rs ar c T n) 1 a b) :
    ff_PF (fg_rt ar c) 1 (a.map (fg_sb ar T n f L)) (b.map (fg_sb ar T n f L)) := ff_map _ _ (fg_sb_rt L hf) h
theorem fg_rs_up {ar : Nat → Nat} {c : Nat} {T : Nat → Nat} {n x : Nat} {a b : List Nat} {k : Nat} (h : ff_PF (fg_rs ar c T n) k a b) :
    ff_PF (fg_rs (fo_u ar c x) (c + 1) T n) k a b := by
  have := ff_map (rt := fg_rs ar c T n) (ru := fg_rs (fo_u ar c x) (c + 1) T n) id id (fun k x' y' ⟨e, hk, h⟩ => ⟨e, by
    show k = fo_op _ x'
    rw [fo_op_up (by unfold fo_tk; omega)]; exact hk, by
    show (x' / 8 = 1 ∧ x' % 8 < 4 ∧ ∃ j, j < n ∧ T j = x') ∨ (x' / 8 = 2 ∧ x' % 8 < c + 1) ∨ (x' / 8 = 5 ∧ x' % 8 < 4)
    rcases h with h | h | h
    · exact Or.inl h
    · exact Or.inr (Or.inl ⟨h.1, by omega⟩)
    · exact Or.inr (Or.inr h)⟩) h
  rwa [List.map_id, List.map_id] at this
end
section
/-- what is wrong with a pattern of the tokens T up to e -/
def fp_bad (T pe : Nat → Nat) (e : Nat) : Prop :=
  ∃ q, q < e ∧ (T q / 8 = 5 ∨ (T q / 8 = 1 ∧ ((∃ i, i < q ∧ T i = T q) ∨ ∃ i, i ≤ q ∧ (T i / 8 = 3 ∨ T i / 8 = 4) ∧ q < pe i)))
/-- the set of the variables of the first tokens -/
def fp_set (T : Nat → Nat) : Nat → Nat
  | 0 => 0
  | i + 1 => if T i / 8 = 1 then fp_set T i ||| 2 ^ (T i % 8) else fp_set T i
theorem fp_or : ∀ s, s < 16 → ∀ v, v < 4 → s ||| 2 ^ v < 16 := by decide +kernel
theorem fp_orb : ∀ s, s < 16 → ∀ v, v < 4 → ∀ w, w < 4 → ((s ||| 2 ^ v).testBit w = true ↔ s.testBit w = true ∨ w = v) := by decide +kernel
theorem fp_set_lt {T : Nat → Nat} : ∀ n, (∀ i, i < n → T i / 8 = 1 → T i % 8 < 4) → fp_set T n < 16 := by
  intro n
  induction n with
  | zero => intro _; exact (by decide : 0 < 16)
  | succ n ih =>
    intro h
    have a := ih (fun i hi => h i (by omega))
    simp only [fp_set]
    split
    · exact fp_or _ a _ (h n (by omega) (by assumption))
    · exact a
theorem fp_set_bit {T : Nat → Nat} {v : Nat} (hv : v < 4) : ∀ n, (∀ i, i < n → T i / 8 = 1 → T i % 8 < 4) →
    ((fp_set T n).testBit v = true ↔ ∃ i, i < n ∧ T i = 8 + v) := by
  intro n
  induction n with
  | zero => intro _; constructor
            · intro h; simp [fp_set] at h
            · rintro ⟨i, hi, _⟩; omega
  | succ n ih =>
    intro h
    have a := fp_set_lt n (fun i hi => h i (by omega))
    have b := ih (fun i hi => h i (by omega))
    simp only [fp_set]
    by_cases h1 : T n / 8 = 1
    · rw [if_pos h1, fp_orb _ a _ (h n (by omega) h1) _ hv, b]
      constructor
      · rintro (⟨i, hi, e⟩ | e)
        · exact ⟨i, by omega, e⟩
        · exact ⟨n, by omega, by omega⟩
      · rintro ⟨i, hi, e⟩
        by_cases z : i = n
        · subst z; right; omega
        · left; exact ⟨i, by omega, e⟩
    · rw [if_neg h1, b]
      constructor
      · rintro ⟨i, hi, e⟩; exact ⟨i, by omega, e⟩
      · rintro ⟨i, hi, e⟩
        refine ⟨i, ?_, e⟩
        have : i ≠ n := fun z => by subst z; omega
        omega
/-- the bits as the machines see them -/
theorem fp_bx : ∀ s, s < 16 → ∀ v, v < 4 → ((nI s &&& ((1 : Int32) <<< (nI v &&& 31)) = 0 ↔ s.testBit v = false) ∧ nI s ||| ((1 : Int32) <<< (nI v &&& 31)) = nI (s ||| 2 ^ v)) := by decide +kernel
theorem fp_by : ∀ s, s < 16 → ∀ v, v < 4 → (((nI s >>> (nI v &&& 31)) &&& 1 = 1 ↔ s.testBit v = true) ∧ ((nI s >>> (nI v &&& 31)) &&& 1 = 0 ↔ s.testBit v = false)) := by decide +kernel
/-- list number j of s constructors out of c -/
def fd_S (c s j : Nat) : Nat → Nat := fun i => fd_dg c j (s - 1 - i)
/-- it is a value and the row (plus 1) that takes it is r -/
def fd_P (ar : Nat → Nat) (rw' : (Nat → Nat) → Nat → Nat) (c s r j : Nat) : Bool :=
  decide (fe_pe (fm_v ar (fd_S c s j)) s 0 = s) && decide (rw' (fd_S c s j) s = r)
def fd_ct (ar : Nat → Nat) (rw' : (Nat → Nat) → Nat → Nat) (c s r : Nat) : Nat := fd_cn (fd_P ar rw' c s r) (c ^ s)
theorem fd_low {c : Nat} (hc : 0 < c) {j m : Nat} (h : (j + 1) / c ^ m = j / c ^ m + 1) :
    (fd_dg c j m + 1 < c → fd_dg c (j + 1) m = fd_dg c j m + 1 ∧ (j + 1) / c ^ (m + 1) = j / c ^ (m + 1)) ∧
    (¬ fd_dg c j m + 1 < c → fd_dg c (j + 1) m = 0 ∧ (j + 1) / c ^ (m + 1) = j / c ^ (m + 1) + 1) := by
  have u := fd_up hc (j / c ^ m)
  unfold fd_dg
  rw [fd_div, fd_div, h]
  exact ⟨fun z => ⟨(u.1 z).2, (u.1 z).1⟩, fun z => ⟨(u.2 z).2, (u.2 z).1⟩⟩
theorem fd_pow {c s : Nat} (hc : c ≤ 6) (hs : s ≤ 5) : c ^ s ≤ 7776 := by
  have h1 : c ^ s ≤ 6 ^ s := Nat.pow_le_pow_left hc s
  have h2 : 6 ^ s ≤ 6 ^ 5 := Nat.pow_le_pow_right (by decide) hs
  have h3 : 6 ^ 5 = 7776 := by decide
  omega
theorem fd_lt0 {c s j m : Nat} (hj : j < c ^ s) (hm : m ≤ s) (h : (j + 1) / c ^ m = j / c ^ m) : j + 1 < c ^ s := by
  have e := fd_high h s hm
  rw [Nat.div_eq_of_lt hj] at e
  have hp : 0 < c ^ s := by omega
  rcases (Nat.div_eq_zero_iff).mp e with g | g
  · omega
  · exact g
theorem fd_end {c s j : Nat} (hj : j < c ^ s) (h : (j + 1) / c ^ s = j / c ^ s + 1) : j + 1 = c ^ s := by
  rw [Nat.div_eq_of_lt hj] at h
  have : c ^ s ≤ j + 1 := by
    refine Classical.byContradiction fun g => ?_
    rw [Nat.div_eq_of_lt (by omega)] at h
    omega
  omega
/-- congruence of counts -/
theorem fd_cn_congr {P Q : Nat → Bool} : ∀ n, (∀ j, j < n → P j = Q j) → fd_cn P n = fd_cn Q n := by
  intro n
  induction n with
  | zero => intro _; rfl
  | succ n ih =>
    intro h
    simp only [fd_cn]
    rw [ih (fun j hj => h j (by omega)), h n (by omega)]
theorem fd_cn_pos {P : Nat → Bool} : ∀ n, 0 < fd_cn P n ↔ ∃ j, j < n ∧ P j = true := by
  intro n
  induction n with
  | zero => constructor
            · intro h; exact absurd h (Nat.lt_irrefl _)
            · rintro ⟨j, hj, _⟩; omega
  | succ n ih =>
    simp only [fd_cn]
    constructor
    · intro h
      by_cases hp : P n = true
      · exact ⟨n, by omega, hp⟩
      · rw [if_neg hp] at h
        obtain ⟨j, hj, e⟩ := ih.mp (by omega)
        exact ⟨j, by omega, e⟩
    · rintro ⟨j, hj, e⟩
      by_cases z : j = n
      · subst z; rw [if_pos e]; omega
      · have := ih.mpr ⟨j, by omega, e⟩
        omega
theorem fd_fst (P : Nat → Bool) : ∀ n, 0 < fd_cn P n → ∃ j, j < n ∧ P j = true ∧ fd_cn P j = 0 := by
  intro n
  induction n with
  | zero => intro h; exact absurd h (Nat.lt_irrefl _)
  | succ n ih =>
    intro h
    by_cases z : 0 < fd_cn P n
    · obtain ⟨j, a, b, d⟩ := ih z
      exact ⟨j, by omega, b, d⟩
    · simp only [fd_cn] at h
      refine ⟨n, by omega, ?_, by omega⟩
      cases hp : P n with
      | true => rfl
      | false => rw [hp] at h; simp at h; omega
end
section
/-- a list that lies in an array, cut -/
theorem fy_split {α : Type} {tok : Nat → α} {w : Nat} {pre vs suf : List α} {x : α} (h : fe_sl tok 0 w = pre ++ x :: (vs ++ suf)) :
    w = pre.length + 1 + vs.length + suf.length ∧ pre = fe_sl tok 0 pre.length ∧ tok pre.length = x ∧ vs = fe_sl tok (pre.length + 1) vs.length ∧
      suf = fe_sl tok (pre.length + 1 + vs.length) suf.length := by
  have hl := congrArg List.length h
  rw [fe_sl_len, List.length_append, List.length_cons, List.length_append] at hl
  have e : w = pre.length + ((vs.length + suf.length) + 1) := by omega
  rw [e, fe_sl_add] at h
  obtain ⟨h1, h2⟩ := List.append_inj h (by rw [fe_sl_len])
  rw [Nat.zero_add] at h2
  have h3 : tok pre.length :: fe_sl tok (pre.length + 1) (vs.length + suf.length) = x :: (vs ++ suf) := h2
  obtain ⟨h4, h5⟩ := List.cons.inj h3
  rw [fe_sl_add] at h5
  obtain ⟨h6, h7⟩ := List.append_inj h5 (by rw [fe_sl_len])
  exact ⟨by omega, h1.symm, h4, h6.symm, h7.symm⟩
/-- a piece replaced -/
theorem fy_repl {α : Type} {tok tok' nw : Nat → α} {q gone come z : Nat} (h1 : ∀ j, j < q → tok' j = tok j) (h2 : ∀ i, i < come → tok' (q + i) = nw i)
    (h3 : ∀ j, j < z → tok' (q + come + j) = tok (q + gone + j)) :
    fe_sl tok' 0 (q + come + z) = fe_sl tok 0 q ++ (fe_sl nw 0 come ++ fe_sl tok (q + gone) z) := by
  rw [fe_sl_add, fe_sl_add, List.append_assoc, Nat.zero_add, Nat.zero_add]
  rw [fe_sl_congr tok' tok q 0 0 (fun t ht => by rw [Nat.zero_add]; exact h1 t ht)]
  rw [fe_sl_congr tok' nw come q 0 (fun t ht => by rw [Nat.zero_add]; exact h2 t ht)]
  rw [fe_sl_congr tok' tok z (q + come) (q + gone) (fun t ht => h3 t ht)]
/-- where the next token to be worked on stands -/
def fy_rdy (ar : Nat → Nat) (tok : Nat → fg_T) (w q : Nat) : Prop :=
  q < w ∧ ¬ fg_V (tok q) ∧ q + fg_k ar (tok q) < w ∧ (∀ j, j < fg_k ar (tok q) → fg_V (tok (q + 1 + j))) ∧
    ∀ i, i < q → fg_V (tok i) ∨ ∃ j, j < fg_k ar (tok i) ∧ ¬ fg_V (tok (i + 1 + j))
/-- one step of the reference's work list, by the machine's -/
theorem fy_ctx {ar : Nat → Nat} {c : Nat} {tok : Nat → fg_T} {w : Nat} {st : List (List Nat)} {t : fg_T} {rest : List fg_T}
    (h : ff_PF (fg_rt ar c) 1 (fe_sl tok 0 w) (st.reverse.map Sum.inl ++ t :: rest)) (ht : ¬ fg_V t) :
    ∃ q z, fy_rdy ar tok w q ∧ tok q = t ∧ fg_ok c t ∧ w = q + 1 + fg_k ar t + z ∧ fg_k ar t ≤ st.length ∧
      fe_sl tok (q + 1) (fg_k ar t) = (st.take (fg_k ar t)).reverse.map Sum.inl ∧
      ∀ cc dd, ff_PF (fg_rt ar c) 1 cc dd → ff_PF (fg_rt ar c) 1 (fe_sl tok 0 q ++ (cc ++ fe_sl tok (q + 1 + fg_k ar t) z)) ((st.drop (fg_k ar t)).reverse.map Sum.inl ++ (dd ++ rest)) := by
  have hvals : ∀ y, y ∈ (st.reverse.map Sum.inl : List fg_T) → fg_V y := by
    intro y hy
    obtain ⟨L, _, e⟩ := List.mem_map.mp hy
    exact ⟨L, e.symm⟩
  obtain ⟨k, x, pre, vs, suf, v0, ws, r1, r2, r3, r4, r5, r6, r7, r8⟩ := ff_ctx (V := fg_V) (U := fg_V) fg_hv fg_h0 h _ t rest rfl hvals ht
  obtain ⟨ex, ek, eo⟩ := r1
  subst ex
  subst ek
  obtain ⟨a1, a2, a3, a4, a5⟩ := fy_split r2
  have hws : ∀ y, y ∈ ws → fg_V y := fun y hy => hvals y (by rw [r3]; exact List.mem_append_right _ hy)
  have evw : vs = ws := fg_same r4 hws
  have lw : ws.length = fg_k ar x := by rw [← evw]; exact r5
  have ll := congrArg List.length r3
  rw [List.length_map, List.length_reverse, List.length_append, lw] at ll
  have hk : fg_k ar x ≤ st.length := by omega
  have split : (st.reverse.map Sum.inl : List fg_T) = (st.drop (fg_k ar x)).reverse.map Sum.inl ++ (st.take (fg_k ar x)).reverse.map Sum.inl := by
    rw [← List.map_append, ← List.reverse_append, List.take_append_drop]
  have l0 : v0.length = ((st.drop (fg_k ar x)).reverse.map Sum.inl : List fg_T).length := by
    rw [List.length_map, List.length_reverse, List.length_drop]; omega
  obtain ⟨e0, e1⟩ := List.append_inj (r3.symm.trans split) l0
  rw [r5] at a1 a4 a5
  refine ⟨pre.length, suf.length, ⟨by omega, by rw [a3]; exact ht, by rw [a3]; omega, ?_, ?_⟩, a3, eo, a1, hk, ?_, ?_⟩
  · rw [a3]
    intro j hj
    have hm := fe_sl_get tok (fg_k ar x) (pre.length + 1) j hj
    rw [← a4] at hm
    exact r6 _ (List.mem_of_getElem? hm)
  · intro i hi
    have hpi : pre[i]? = some (tok i) := by
      have := fe_sl_get tok pre.length 0 i hi
      rw [← a2, Nat.zero_add] at this
      exact this
    rcases r7 i (tok i) hpi with g | ⟨kz, yz, j, w', g1, g2, g3, g4⟩
    · exact Or.inl g
    · right
      refine ⟨j, by rw [← g1.2.1]; exact g2, ?_⟩
      have hlt := (List.getElem?_eq_some_iff.mp g3).1
      rw [fe_sl_len] at hlt
      have := fe_sl_get tok w 0 (i + 1 + j) hlt
      rw [g3, Nat.zero_add] at this
      rw [← Option.some.inj this]
      exact g4
  · rw [← a4, evw, e1]
  · intro cc dd hcd
    have := r8 cc dd hcd
    rw [a2] at this
    rw [e0] at this
    rw [a5] at this
    exact this
/-- all are values: one is left -/
theorem fy_done {ar : Nat → Nat} {c : Nat} {tok : Nat → fg_T} {w : Nat} {st : List (List Nat)}
    (h : ff_PF (fg_rt ar c) 1 (fe_sl tok 0 w) (st.reverse.map Sum.inl)) : w = 1 ∧ ∃ L, tok 0 = Sum.inl L ∧ st = [L] := by
  have hvals : ∀ y, y ∈ (st.reverse.map Sum.inl : List fg_T) → fg_V y := by
    intro y hy
    obtain ⟨L, _, e⟩ := List.mem_map.mp hy
    exact ⟨L, e.symm⟩
  obtain ⟨h1, h2, h3, h4⟩ := ff_done (V := fg_V) (U := fg_V) fg_hv fg_h0 h hvals
  have e := fg_same h hvals
  rw [fe_sl_len] at h1
  subst h1
  refine ⟨rfl, ?_⟩
  rw [List.length_map, List.length_reverse] at h3
  obtain ⟨L, rfl⟩ := List.length_eq_one_iff.mp h3
  have e' : [tok 0] = [Sum.inl L] := e
  exact ⟨L, (List.cons.inj e').1, rfl⟩
end
section
/-- with h operands at hand, the rest can be worked out, and one value is left -/
def fx_bal (ar : Nat → Nat) : Nat → List fg_T → Prop
  | h, [] => h = 1
  | h, t :: rest => fg_k ar t ≤ h ∧ fx_bal ar (h - fg_k ar t + 1) rest
theorem fx_bal_app {ar : Nat → Nat} {c n : Nat} {a b : List fg_T} (p : ff_PF (fg_rt ar c) n a b) :
    ∀ h rest, fx_bal ar (h + n) rest → fx_bal ar h (b ++ rest) := by
  refine ff_ind (fun n _ b => ∀ h rest, fx_bal ar (h + n) rest → fx_bal ar h (b ++ rest)) (fun h rest g => g) ?_ p
  intro k x y m a1 b1 a2 b2 hr _ q1 _ q2 h rest g
  rw [List.append_assoc, List.cons_append]
  refine q1 h _ ?_
  have hk : fg_k ar y = k := by rw [← hr.1]; exact hr.2.1.symm
  refine ⟨by rw [hk]; omega, ?_⟩
  rw [hk, show h + k - k + 1 = h + 1 by omega]
  refine q2 (h + 1) rest ?_
  rwa [show h + 1 + m = h + (m + 1) by omega]
/-- the nodes of the component -/
def fx_H (ar : Nat → Nat) (c N : Nat) (nc nf ns nz : Nat → Int32) (dn : Nat → List Nat) : Prop :=
  ∀ n, n < N → ∃ h l r, nc n = nI h ∧ nz n = nI (dn n).length ∧ (1 ≤ ar h → nf n = nI l) ∧ (ar h = 2 → ns n = nI r) ∧ fv_Nd ar c N dn n h l r
theorem fx_HH {ar : Nat → Nat} {c N : Nat} {nc nf ns nz : Nat → Int32} {dn : Nat → List Nat} (H : fx_H ar c N nc nf ns nz dn) : fv_H ar c N dn :=
  fun n hn => by
    obtain ⟨h, l, r, _, _, _, _, g⟩ := H n hn
    exact ⟨h, l, r, g⟩
def fx_up (dn : Nat → List Nat) (N : Nat) (L : List Nat) : Nat → List Nat := fun q => if q = N then L else dn q
theorem fx_up_s {dn : Nat → List Nat} {N : Nat} {L : List Nat} : fx_up dn N L N = L := if_pos rfl
theorem fx_up_n {dn : Nat → List Nat} {N q : Nat} {L : List Nat} (h : q < N) : fx_up dn N L q = dn q := if_neg (by omega)
theorem fx_H_new {ar : Nat → Nat} {c N : Nat} {nc nf ns nz : Nat → Int32} {dn : Nat → List Nat} (H : fx_H ar c N nc nf ns nz dn)
    {h l r : Nat} {L : List Nat} {xf xs : Int32} (hf : 1 ≤ ar h → xf = nI l) (hs : ar h = 2 → xs = nI r)
    (g : h < c ∧ L.length ≤ 40 ∧ ((ar h = 0 ∧ L = [h]) ∨ (ar h = 1 ∧ l < N ∧ L = h :: dn l) ∨ (ar h = 2 ∧ l < N ∧ r < N ∧ L = h :: (dn l ++ dn r)))) :
    fx_H ar c (N + 1) (upd nc N (nI h)) (upd nf N xf) (upd ns N xs) (upd nz N (nI L.length)) (fx_up dn N L) := by
  intro n hn
  by_cases e : n = N
  · subst e
    refine ⟨h, l, r, pk_us, by rw [pk_us, fx_up_s], fun z => by rw [pk_us]; exact hf z, fun z => by rw [pk_us]; exact hs z, g.1, by rw [fx_up_s]; exact g.2.1, ?_⟩
    rw [fx_up_s]
    rcases g.2.2 with ⟨a, b⟩ | ⟨a, b, d⟩ | ⟨a, b, b2, d⟩
    · exact Or.inl ⟨a, b⟩
    · exact Or.inr (Or.inl ⟨a, by omega, by rw [fx_up_n b]; exact d⟩)
    · exact Or.inr (Or.inr ⟨a, by omega, by omega, by rw [fx_up_n b, fx_up_n b2]; exact d⟩)
  · obtain ⟨h', l', r', a1, a2, a3, a4, a5⟩ := H n (by omega)
    refine ⟨h', l', r', by rw [pk_un e]; exact a1, by rw [pk_un e, fx_up_n (by omega)]; exact a2, fun z => by rw [pk_un e]; exact a3 z, fun z => by rw [pk_un e]; exact a4 z, ?_⟩
    exact fv_Nd_up a5 (by omega) (by omega) (fun q hq => fx_up_n hq)
/-- a token of a call's result, its variables read through the call's frame -/
def fx_tk (dn : Nat → List Nat) (cv : Nat → Nat) (d f x : Nat) : fg_T := if x / 8 = 1 then Sum.inl (dn (cv (4 * d + x % 8))) else Sum.inr (x / 8, x % 8, f)
/-- what is left of all calls, the latest first -/
def fx_frs (out : Nat → List Nat) (dn : Nat → List Nat) (cr cn cv : Nat → Nat) : Nat → List fg_T
  | 0 => []
  | d + 1 => ((out (cr d)).drop (cn d)).map (fx_tk dn cv d (cr d / 5)) ++ fx_frs out dn cr cn cv d
/-- the operands, the latest first -/
def fx_stk (dn : Nat → List Nat) (oo : Nat → Nat) : Nat → List (List Nat)
  | 0 => []
  | k + 1 => dn (oo k) :: fx_stk dn oo k
theorem fx_stk_len (dn : Nat → List Nat) (oo : Nat → Nat) : ∀ k, (fx_stk dn oo k).length = k := by
  intro k
  induction k with
  | zero => rfl
  | succ k ih => show (fx_stk dn oo k).length + 1 = k + 1; rw [ih]
theorem fx_stk_c {dn dn' : Nat → List Nat} {oo oo' : Nat → Nat} : ∀ k, (∀ i, i < k → dn' (oo' i) = dn (oo i)) → fx_stk dn' oo' k = fx_stk dn oo k := by
  intro k
  induction k with
  | zero => intro _; rfl
  | succ k ih =>
    intro h
    show dn' (oo' k) :: fx_stk dn' oo' k = dn (oo k) :: fx_stk dn oo k
    rw [h k (by omega), ih (fun i hi => h i (by omega))]
theorem fx_stk_drop (dn : Nat → List Nat) (oo : Nat → Nat) : ∀ k a, a ≤ k → (fx_stk dn oo k).drop a = fx_stk dn oo (k - a) := by
  intro k
  induction k with
  | zero => intro a h; have : a = 0 := by omega
            subst this; rfl
  | succ k ih =>
    intro a h
    cases a with
    | zero => rfl
    | succ a =>
      show (fx_stk dn oo k).drop a = _
      rw [ih a (by omega), show k + 1 - (a + 1) = k - a by omega]
/-- the calls' frames hold: rows, places, bound variables -/
def fx_FR (out : Nat → List Nat) (rc : Nat → Nat) (N d : Nat) (cr cn cv : Nat → Nat) (ar_ an av : Nat → Int32) : Prop :=
  ∀ i, i < d → ar_ i = nI (cr i) ∧ an i = nI (cn i) ∧ (∃ f r, f < 4 ∧ r < rc f ∧ cr i = 5 * f + r) ∧ cn i ≤ (out (cr i)).length ∧
    ∀ x, x ∈ (out (cr i)).drop (cn i) → x / 8 = 1 → x % 8 < 4 ∧ cv (4 * i + x % 8) < N ∧ av (4 * i + x % 8) = nI (cv (4 * i + x % 8))
theorem fx_frs_c {out : Nat → List Nat} {rc : Nat → Nat} {N : Nat} {dn dn' : Nat → List Nat} {cr cn cv cr' cn' cv' : Nat → Nat} {ar_ an av : Nat → Int32} :
    ∀ d, fx_FR out rc N d cr cn cv ar_ an av → (∀ q, q < N → dn' q = dn q) → (∀ i, i < d → cr' i = cr i ∧ cn' i = cn i) → (∀ i, i < 4 * d → cv' i = cv i) →
      fx_frs out dn' cr' cn' cv' d = fx_frs out dn cr cn cv d := by
  intro d
  induction d with
  | zero => intro _ _ _ _; rfl
  | succ d ih =>
    intro F hd h1 h2
    show ((out (cr' d)).drop (cn' d)).map (fx_tk dn' cv' d (cr' d / 5)) ++ fx_frs out dn' cr' cn' cv' d = ((out (cr d)).drop (cn d)).map (fx_tk dn cv d (cr d / 5)) ++ fx_frs out dn cr cn cv d
    rw [ih (fun i hi => F i (by omega)) hd (fun i hi => h1 i (by omega)) (fun i hi => h2 i (by omega)), (h1 d (by omega)).1, (h1 d (by omega)).2]
    refine congrArg (· ++ _) (List.map_congr_left ?_)
    intro x hx
    unfold fx_tk
    by_cases hk : x / 8 = 1
    · obtain ⟨g1, g2, g3⟩ := (F d (by omega)).2.2.2.2 x hx hk
      rw [if_pos hk, if_pos hk, h2 _ (by omega), hd _ g2]
    · rw [if_neg hk, if_neg hk]
theorem fx_FR_c {out : Nat → List Nat} {rc : Nat → Nat} {N N' d : Nat} {cr cn cv cr' cn' cv' : Nat → Nat} {ar_ an av ar' an' av' : Nat → Int32}
    (F : fx_FR out rc N d cr cn cv ar_ an av) (hN : N ≤ N') (h1 : ∀ i, i < d → cr' i = cr i ∧ cn' i = cn i ∧ ar' i = ar_ i ∧ an' i = an i)
    (h2 : ∀ i, i < 4 * d → cv' i = cv i ∧ av' i = av i) : fx_FR out rc N' d cr' cn' cv' ar' an' av' := by
  intro i hi
  obtain ⟨a1, a2, a3, a4, a5⟩ := F i hi
  obtain ⟨e1, e2, e3, e4⟩ := h1 i hi
  rw [e1, e2, e3, e4]
  refine ⟨a1, a2, a3, a4, fun x hx hk => ?_⟩
  obtain ⟨g1, g2, g3⟩ := a5 x hx hk
  obtain ⟨u1, u2⟩ := h2 (4 * i + x % 8) (by omega)
  rw [u1, u2]
  exact ⟨g1, by omega, g3⟩
end
section
/-- the drafts -/
def fR_draft (c n : Nat) (T : Nat → Nat) (xd yk yw : Nat → Int32) : Prop :=
  ∀ i, i < n → fo_tk c (T i) ∧ xd i = nI (T i) ∧ yk i = nI (T i / 8) ∧ ((T i / 8 = 1 ∨ T i / 8 = 2 ∨ T i / 8 = 5) → yw i = nI (T i % 8))
/-- a row, at r: its pattern T of n tokens, its result as a list with heads first and as one with heads last -/
def fR_row (ar : Nat → Nat) (c : Nat) (xp xe xo xl yk yw : Nat → Int32) (T : Nat → Nat) (n : Nat) (pre pos : List Nat) (r : Nat) : Prop :=
  n ≤ 12 ∧ fe_full (fm_o ar T) n ∧
  (∀ j, j < n → fo_tk c (T j) ∧ T j / 8 < 5 ∧ xp (12 * r + j) = nI (T j) ∧ xe (12 * r + j) = nI (fe_pe (fm_o ar T) n j) ∧ yk (24 * r + j) = nI (T j / 8) ∧
    ((T j / 8 = 1 ∨ T j / 8 = 2) → yw (24 * r + j) = nI (T j % 8))) ∧
  (∀ i j, i < n → (T i / 8 = 3 ∨ T i / 8 = 4) → i ≤ j → j < fe_pe (fm_o ar T) n i → T j / 8 ≠ 1) ∧
  ff_PF (fg_rs ar c T n) 1 pre pos ∧ pre.length ≤ 12 ∧ xl r = nI pos.length ∧
  (∀ j, j < pos.length → xo (12 * r + j) = nI (fv_g pos j)) ∧
  (∀ j, j < pre.length → yk (24 * r + 12 + j) = nI (fv_g pre j / 8) ∧ yw (24 * r + 12 + j) = nI (fv_g pre j % 8))
/-- what the reference keeps of its own survey -/
def fR_know (ar : Nat → Nat) (rw' : (Nat → Nat) → Nat → Nat) (c f : Nat) (yn yc yz yo : Nat → Int32) : Prop :=
  yn f = 0 ∨ (yn f = 1 ∧ (∀ s r, 1 ≤ s → s ≤ 5 → r ≤ 5 → yc (30 * f + 5 * r + (s - 1)) = nI (fd_ct ar rw' c s r)) ∧
    ((yz f = 0 ∧ ∀ s, 1 ≤ s → s ≤ 5 → fd_ct ar rw' c s 0 = 0) ∨
      ∃ s j, 1 ≤ s ∧ s ≤ 5 ∧ yz f = nI s ∧ (∀ s', 1 ≤ s' → s' < s → fd_ct ar rw' c s' 0 = 0) ∧ j < c ^ s ∧ fd_P ar rw' c s 0 j = true ∧
        fd_cn (fd_P ar rw' c s 0) j = 0 ∧ ∀ i, i < s → yo (5 * f + i) = nI (fd_S c s j i)))
/-- a value in an array -/
def fR_val (ar : Nat → Nat) (c m : Nat) (W : Nat → Nat) (a : Nat → Int32) : Prop :=
  m ≤ 40 ∧ fe_full (fm_v ar W) m ∧ ∀ i, i < m → W i < c ∧ a i = nI (W i)
theorem fR_val_up {ar : Nat → Nat} {c m x : Nat} {W : Nat → Nat} {a : Nat → Int32} (h : fR_val ar c m W a) : fR_val (fo_u ar c x) (c + 1) m W a := by
  obtain ⟨h1, h2, h3⟩ := h
  refine ⟨h1, fe_full_congr (fun j hj => ?_) h2, fun i hi => ⟨by have := (h3 i hi).1; omega, (h3 i hi).2⟩⟩
  show ar (W j) = fo_u ar c x (W j)
  rw [fo_un (by have := (h3 j hj).1; omega)]
theorem fm_o_up {ar T : Nat → Nat} {c n x : Nat} (h : ∀ j, j < n → fo_tk c (T j)) : ∀ j, j < n → fm_o ar T j = fm_o (fo_u ar c x) T j := by
  intro j hj
  show fo_op ar (T j) = fo_op (fo_u ar c x) (T j)
  rw [fo_op_up (h j hj)]
theorem fR_draft_up {c n : Nat} {T : Nat → Nat} {xd yk yw : Nat → Int32} (h : fR_draft c n T xd yk yw) : fR_draft (c + 1) n T xd yk yw := by
  intro i hi
  obtain ⟨a, b⟩ := h i hi
  exact ⟨fo_tk_up a (by omega), b⟩
theorem fR_row_up {ar : Nat → Nat} {c x : Nat} {xp xe xo xl yk yw : Nat → Int32} {T : Nat → Nat} {n : Nat} {pre pos : List Nat} {r : Nat}
    (h : fR_row ar c xp xe xo xl yk yw T n pre pos r) : fR_row (fo_u ar c x) (c + 1) xp xe xo xl yk yw T n pre pos r := by
  obtain ⟨h1, h2, h3, h4, h5, h6⟩ := h
  have e := fm_o_up (x := x) (fun j hj => (h3 j hj).1) (ar := ar)
  have e2 := fe_pe_congr _ _ e
  refine ⟨h1, fe_full_congr e h2, fun j hj => ?_, fun i j hi hk hij hj => ?_, fg_rs_up h5, h6⟩
  · obtain ⟨a1, a2, a3, a4, a5⟩ := h3 j hj
    exact ⟨fo_tk_up a1 (by omega), a2, a3, by rw [← e2]; exact a4, a5⟩
  · rw [← e2] at hj
    exact h4 i j hi hk hij hj
end
section
/-- the nodes of the reference -/
def fy_H (ar : Nat → Nat) (c N : Nat) (hd lf rg sz : Nat → Int32) (dn : Nat → List Nat) : Prop :=
  ∀ n, n < N → ∃ h l r, hd n = nI h ∧ sz n = nI (dn n).length ∧ (lf n = if 1 ≤ ar h then nI l else -1) ∧ (rg n = if ar h = 2 then nI r else -1) ∧ fv_Nd ar c N dn n h l r
theorem fy_HH {ar : Nat → Nat} {c N : Nat} {nc nf ns nz : Nat → Int32} {dn : Nat → List Nat} (H : fy_H ar c N nc nf ns nz dn) : fv_H ar c N dn :=
  fun n hn => by
    obtain ⟨h, l, r, _, _, _, _, g⟩ := H n hn
    exact ⟨h, l, r, g⟩
theorem fy_H_new {ar : Nat → Nat} {c N : Nat} {nc nf ns nz : Nat → Int32} {dn : Nat → List Nat} (H : fy_H ar c N nc nf ns nz dn)
    {h l r : Nat} {L : List Nat} {xf xs : Int32} (hf : xf = if 1 ≤ ar h then nI l else -1) (hs : xs = if ar h = 2 then nI r else -1)
    (g : h < c ∧ L.length ≤ 40 ∧ ((ar h = 0 ∧ L = [h]) ∨ (ar h = 1 ∧ l < N ∧ L = h :: dn l) ∨ (ar h = 2 ∧ l < N ∧ r < N ∧ L = h :: (dn l ++ dn r)))) :
    fy_H ar c (N + 1) (upd nc N (nI h)) (upd nf N xf) (upd ns N xs) (upd nz N (nI L.length)) (fx_up dn N L) := by
  intro n hn
  by_cases e : n = N
  · subst e
    refine ⟨h, l, r, pk_us, by rw [pk_us, fx_up_s], by rw [pk_us]; exact hf, by rw [pk_us]; exact hs, g.1, by rw [fx_up_s]; exact g.2.1, ?_⟩
    rw [fx_up_s]
    rcases g.2.2 with ⟨a, b⟩ | ⟨a, b, d⟩ | ⟨a, b, b2, d⟩
    · exact Or.inl ⟨a, b⟩
    · exact Or.inr (Or.inl ⟨a, by omega, by rw [fx_up_n b]; exact d⟩)
    · exact Or.inr (Or.inr ⟨a, by omega, by omega, by rw [fx_up_n b, fx_up_n b2]; exact d⟩)
  · obtain ⟨h', l', r', a1, a2, a3, a4, a5⟩ := H n (by omega)
    refine ⟨h', l', r', by rw [pk_un e]; exact a1, by rw [pk_un e, fx_up_n (by omega)]; exact a2, by rw [pk_un e]; exact a3, by rw [pk_un e]; exact a4, ?_⟩
    exact fv_Nd_up a5 (by omega) (by omega) (fun q hq => fx_up_n hq)
/-- a token of the reference's work list -/
def fy_tok (dn : Nat → List Nat) (wk ww ow : Nat → Int32) (i : Nat) : fg_T :=
  if wk i = 6 then Sum.inl (dn (ww i).toNatClampNeg) else Sum.inr ((wk i).toNatClampNeg, (ww i).toNatClampNeg, (ow i).toNatClampNeg)
/-- what stands at one place of it -/
def fy_w1 (c N : Nat) (k v o : Int32) : Prop :=
  (k = 6 ∧ ∃ n, n < N ∧ v = nI n) ∨ (∃ k' v' o', k = nI k' ∧ v = nI v' ∧ o = nI o' ∧ ((k' = 2 ∧ v' < c) ∨ (k' = 5 ∧ v' < 4)) ∧ o' < 4)
def fy_W (c N w : Nat) (wk ww ow : Nat → Int32) : Prop := ∀ i, i < w → fy_w1 c N (wk i) (ww i) (ow i)
theorem fy_tok_v {dn : Nat → List Nat} {wk ww ow : Nat → Int32} {i n : Nat} (h : wk i = 6) (h2 : ww i = nI n) (hn : n < 2 ^ 31) : fy_tok dn wk ww ow i = Sum.inl (dn n) := by
  unfold fy_tok
  rw [if_pos h, h2, nI_clamp hn]
theorem fy_6 : ∀ k, k < 6 → ¬ nI k = 6 := by decide +kernel
theorem fy_tok_t {dn : Nat → List Nat} {wk ww ow : Nat → Int32} {i k v o : Nat} (h : wk i = nI k) (h2 : ww i = nI v) (h3 : ow i = nI o) (hk : k < 6) (hv : v < 2 ^ 31) (ho : o < 2 ^ 31) :
    fy_tok dn wk ww ow i = Sum.inr (k, v, o) := by
  unfold fy_tok
  rw [if_neg (by rw [h]; exact fy_6 k hk), h, h2, h3, nI_clamp (by omega), nI_clamp hv, nI_clamp ho]
theorem fy_tok_V {dn : Nat → List Nat} {wk ww ow : Nat → Int32} {i : Nat} : fg_V (fy_tok dn wk ww ow i) ↔ wk i = 6 := by
  unfold fy_tok fg_V
  by_cases h : wk i = 6
  · rw [if_pos h]; exact ⟨fun _ => h, fun _ => ⟨_, rfl⟩⟩
  · rw [if_neg h]
    exact ⟨fun ⟨L, e⟩ => (by cases e), fun g => absurd g h⟩
/-- more nodes, the same values -/
theorem fy_tok_c {dn dn' : Nat → List Nat} {c N w : Nat} {wk ww ow : Nat → Int32} (hw : fy_W c N w wk ww ow) (hN : N < 2 ^ 31) (h : ∀ q, q < N → dn' q = dn q) :
    ∀ i, i < w → fy_tok dn' wk ww ow i = fy_tok dn wk ww ow i := by
  intro i hi
  rcases hw i hi with ⟨a, n, b, e⟩ | ⟨k, v, o, a, b, d, e, f⟩
  · rw [fy_tok_v a e (by omega), fy_tok_v a e (by omega), h n b]
  · have hk : k < 6 := by omega
    unfold fy_tok
    rw [if_neg (by rw [a]; exact fy_6 k hk), if_neg (by rw [a]; exact fy_6 k hk)]
theorem fy_W_up {c N N' w : Nat} {wk ww ow : Nat → Int32} (hw : fy_W c N w wk ww ow) (h : N ≤ N') : fy_W c N' w wk ww ow := by
  intro i hi
  rcases hw i hi with ⟨a, n, b, e⟩ | g
  · exact Or.inl ⟨a, n, by omega, e⟩
  · exact Or.inr g
end
section
/-- what is common to both states between two calls -/
def fR_G (c n m g : Nat) (ar rc pl T : Nat → Nat) (pat : Nat → Nat → Nat) (pre pos : Nat → List Nat) (arg giv : Nat → Nat)
    (xrs yrn : Int32) (xD xP xPe xO xOl xAr xRl yDk yDw yK yW yCt yOz yOp yKn : Nat → Int32) : Prop :=
  c ≤ 6 ∧ n ≤ 40 ∧ (∀ i, ar i ≤ 2) ∧ (∀ f, rc f ≤ 5) ∧ fR_draft c n T xD yDk yDw ∧
  (∀ f i, f < 4 → i < rc f → fR_row ar c xP xPe xO xOl yK yW (pat (5 * f + i)) (pl (5 * f + i)) (pre (5 * f + i)) (pos (5 * f + i)) (5 * f + i)) ∧
  (m = 0 ∨ fR_val ar c m arg xAr) ∧
  ((xrs = -2 ∧ yrn = 0 ∧ g = 0) ∨ (yrn = 1 ∧ xrs = 0 ∧ fR_val ar c g giv xRl) ∨ (yrn = 1 ∧ xrs ≠ 0 ∧ xrs ≠ -2 ∧ g = 0)) ∧
  ∀ f, f < 4 → fR_know ar (fm_row ar pat pl rc f) c f yKn yCt yOz yOp
def i_Rel (_ : Nat) (u : SX) (v : SY) : Prop := match u with
  | (xcc, xdr, xas, xss, xnc, xdp, xoc, xrs, xrt, xrf, xrz, xA, xD, xDe, xUw, xRc, xP, xPe, xPl, xO, xOl, xAr, xS, xSe, xSn, xF, xNc, xNf, xNs, xNz, xCr, xCn, xCv, xOp, xRl, xTa, xUt) => match v with
    | (ycc, ydr, ynd, yln, yal, ygl, yst, ybl, yhw, yrn, ywk, yA, yDk, yDw, yK, yW, yPl, yRl, yRc, yHd, yLf, yRg, ySz, yLi, ySk, ySt, yAr, yGv, yF, yEn, yPc, yBd, yWk, yWw, yOw, yCt, yOz, yOp, yKn) => ∃ (c n m g : Nat) (ar rc pl T : Nat → Nat) (pat : Nat → Nat → Nat) (pre pos : Nat → List Nat) (arg giv : Nat → Nat),
      (xcc = nI c ∧ xdr = nI n ∧ xas = nI m ∧ xrz = nI g ∧ xA = fo_n ar ∧ xRc = fo_n rc ∧ xPl = fo_n pl ∧ ycc = nI c ∧ ydr = nI n ∧ yal = nI m ∧ ygl = nI g ∧ yst = xrt ∧ ybl = xrf ∧ yA = fo_n ar ∧ yRc = fo_n rc ∧ yPl = fo_n pl ∧ yRl = xOl ∧ yAr = xAr ∧ yGv = xRl) ∧ fR_G c n m g ar rc pl T pat pre pos arg giv xrs yrn xD xP xPe xO xOl xAr xRl yDk yDw yK yW yCt yOz yOp yKn
theorem i_un {k : Nat} {u : SX} {v : SY} (h : i_Rel k u v) : ∃ (c n m g : Nat) (ar rc pl T : Nat → Nat) (pat : Nat → Nat → Nat) (pre pos : Nat → List Nat) (arg giv : Nat → Nat) (xss xnc xdp xoc xrs xrt xrf ynd yln yhw yrn ywk : Int32) (xD xDe xUw xP xPe xO xOl xAr xS xSe xSn xF xNc xNf xNs xNz xCr xCn xCv xOp xRl xTa xUt yDk yDw yK yW yHd yLf yRg ySz yLi ySk ySt yF yEn yPc yBd yWk yWw yOw yCt yOz yOp yKn : Nat → Int32),
    u = (nI c, nI n, nI m, xss, xnc, xdp, xoc, xrs, xrt, xrf, nI g, fo_n ar, xD, xDe, xUw, fo_n rc, xP, xPe, fo_n pl, xO, xOl, xAr, xS, xSe, xSn, xF, xNc, xNf, xNs, xNz, xCr, xCn, xCv, xOp, xRl, xTa, xUt) ∧ v = (nI c, nI n, ynd, yln, nI m, nI g, xrt, xrf, yhw, yrn, ywk, fo_n ar, yDk, yDw, yK, yW, fo_n pl, xOl, fo_n rc, yHd, yLf, yRg, ySz, yLi, ySk, ySt, xAr, xRl, yF, yEn, yPc, yBd, yWk, yWw, yOw, yCt, yOz, yOp, yKn) ∧ fR_G c n m g ar rc pl T pat pre pos arg giv xrs yrn xD xP xPe xO xOl xAr xRl yDk yDw yK yW yCt yOz yOp yKn := by
  obtain ⟨xcc, xdr, xas, xss, xnc, xdp, xoc, xrs, xrt, xrf, xrz, xA, xD, xDe, xUw, xRc, xP, xPe, xPl, xO, xOl, xAr, xS, xSe, xSn, xF, xNc, xNf, xNs, xNz, xCr, xCn, xCv, xOp, xRl, xTa, xUt⟩ := u
  obtain ⟨ycc, ydr, ynd, yln, yal, ygl, yst, ybl, yhw, yrn, ywk, yA, yDk, yDw, yK, yW, yPl, yRl, yRc, yHd, yLf, yRg, ySz, yLi, ySk, ySt, yAr, yGv, yF, yEn, yPc, yBd, yWk, yWw, yOw, yCt, yOz, yOp, yKn⟩ := v
  obtain ⟨c, n, m, g, ar, rc, pl, T, pat, pre, pos, arg, giv, ⟨rfl, rfl, rfl, rfl, rfl, rfl, rfl, rfl, rfl, rfl, rfl, rfl, rfl, rfl, rfl, rfl, rfl, rfl, rfl⟩, h⟩ := h
  exact ⟨c, n, m, g, ar, rc, pl, T, pat, pre, pos, arg, giv, xss, xnc, xdp, xoc, xrs, yst, ybl, ynd, yln, yhw, yrn, ywk, xD, xDe, xUw, xP, xPe, xO, yRl, yAr, xS, xSe, xSn, xF, xNc, xNf, xNs, xNz, xCr, xCn, xCv, xOp, yGv, xTa, xUt, yDk, yDw, yK, yW, yHd, yLf, yRg, ySz, yLi, ySk, ySt, yF, yEn, yPc, yBd, yWk, yWw, yOw, yCt, yOz, yOp, yKn, rfl, rfl, h⟩
theorem i_mk {k : Nat} {c n m g : Nat} {ar rc pl T : Nat → Nat} {pat : Nat → Nat → Nat} {pre pos : Nat → List Nat} {arg giv : Nat → Nat} {xss xnc xdp xoc xrs xrt xrf ynd yln yhw yrn ywk : Int32} {xD xDe xUw xP xPe xO xOl xAr xS xSe xSn xF xNc xNf xNs xNz xCr xCn xCv xOp xRl xTa xUt yDk yDw yK yW yHd yLf yRg ySz yLi ySk ySt yF yEn yPc yBd yWk yWw yOw yCt yOz yOp yKn : Nat → Int32} (h : fR_G c n m g ar rc pl T pat pre pos arg giv xrs yrn xD xP xPe xO xOl xAr xRl yDk yDw yK yW yCt yOz yOp yKn) :
    i_Rel k (nI c, nI n, nI m, xss, xnc, xdp, xoc, xrs, xrt, xrf, nI g, fo_n ar, xD, xDe, xUw, fo_n rc, xP, xPe, fo_n pl, xO, xOl, xAr, xS, xSe, xSn, xF, xNc, xNf, xNs, xNz, xCr, xCn, xCv, xOp, xRl, xTa, xUt) (nI c, nI n, ynd, yln, nI m, nI g, xrt, xrf, yhw, yrn, ywk, fo_n ar, yDk, yDw, yK, yW, fo_n pl, xOl, fo_n rc, yHd, yLf, yRg, ySz, yLi, ySk, ySt, xAr, xRl, yF, yEn, yPc, yBd, yWk, yWw, yOw, yCt, yOz, yOp, yKn) :=
  ⟨c, n, m, g, ar, rc, pl, T, pat, pre, pos, arg, giv, ⟨rfl, rfl, rfl, rfl, rfl, rfl, rfl, rfl, rfl, rfl, rfl, rfl, rfl, rfl, rfl, rfl, rfl, rfl, rfl⟩, h⟩
theorem i_up {k : Nat} {u : SX} {v : SY} (h : i_Rel k u v) : i_Rel (k + 4) u v := h
theorem i_el {k : Nat} {u : SX} {v : SY} {P : SX → SY → Prop} (h : i_Rel k u v) (H : ∀ (c n m g : Nat) (ar rc pl T : Nat → Nat) (pat : Nat → Nat → Nat) (pre pos : Nat → List Nat) (arg giv : Nat → Nat) (xss xnc xdp xoc xrs xrt xrf ynd yln yhw yrn ywk : Int32) (xD xDe xUw xP xPe xO xOl xAr xS xSe xSn xF xNc xNf xNs xNz xCr xCn xCv xOp xRl xTa xUt yDk yDw yK yW yHd yLf yRg ySz yLi ySk ySt yF yEn yPc yBd yWk yWw yOw yCt yOz yOp yKn : Nat → Int32), fR_G c n m g ar rc pl T pat pre pos arg giv xrs yrn xD xP xPe xO xOl xAr xRl yDk yDw yK yW yCt yOz yOp yKn → P (nI c, nI n, nI m, xss, xnc, xdp, xoc, xrs, xrt, xrf, nI g, fo_n ar, xD, xDe, xUw, fo_n rc, xP, xPe, fo_n pl, xO, xOl, xAr, xS, xSe, xSn, xF, xNc, xNf, xNs, xNz, xCr, xCn, xCv, xOp, xRl, xTa, xUt) (nI c, nI n, ynd, yln, nI m, nI g, xrt, xrf, yhw, yrn, ywk, fo_n ar, yDk, yDw, yK, yW, fo_n pl, xOl, fo_n rc, yHd, yLf, yRg, ySz, yLi, ySk, ySt, xAr, xRl, yF, yEn, yPc, yBd, yWk, yWw, yOw, yCt, yOz, yOp, yKn)) : P u v := by
  obtain ⟨c, n, m, g, ar, rc, pl, T, pat, pre, pos, arg, giv, xss, xnc, xdp, xoc, xrs, xrt, xrf, ynd, yln, yhw, yrn, ywk, xD, xDe, xUw, xP, xPe, xO, xOl, xAr, xS, xSe, xSn, xF, xNc, xNf, xNs, xNz, xCr, xCn, xCv, xOp, xRl, xTa, xUt, yDk, yDw, yK, yW, yHd, yLf, yRg, ySz, yLi, ySk, ySt, yF, yEn, yPc, yBd, yWk, yWw, yOw, yCt, yOz, yOp, yKn, rfl, rfl, G⟩ := i_un h
  exact H _ _ _ _ _ _ _ _ _ _ _ _ _ _ _ _ _ _ _ _ _ _ _ _ _ _ _ _ _ _ _ _ _ _ _ _ _ _ _ _ _ _ _ _ _ _ _ _ _ _ _ _ _ _ _ _ _ _ _ _ _ _ _ _ _ _ _ _ _ _ G
end
section
/-- no function's number -/
def fo_no4 (p : Int32) : Prop := p < 0 ∨ nI 4 ≤ p
theorem fo_f4 (p : Int32) : fo_no4 p ∨ ∃ f, f < 4 ∧ p = nI f := by
  rcases pk_ix p (n := 4) (by decide) with h | h | h
  · exact Or.inl (Or.inl h)
  · exact Or.inl (Or.inr h)
  · exact Or.inr h
theorem x_isF0 {post : Int32 → Prop} {p : Int32} (h : fo_no4 p) (h0 : post 0) : wpX_isFunction post p := by
  by_cases z : p < 0
  · exact br_t z h0
  · exact br_f z (br_t (h.resolve_left z) h0)
theorem x_isF1 {post : Int32 → Prop} {f : Nat} (h : f < 4) (h0 : post 1) : wpX_isFunction post (nI f) :=
  br_f (nI_pos (by omega)) (br_f (nI_ge (b := 4) h (by decide)) h0)
theorem y_in0 {post : Int32 → Prop} {p : Int32} (h : fo_no4 p) (h0 : post 0) : wpY_in post p 0 3 := by
  by_cases z : p < 0
  · exact br_t z h0
  · refine br_f z (br_t ?_ h0)
    obtain ⟨j, hj, rfl⟩ := nI_of z
    have h2 := (nI_leI (a := 4) (by decide) hj).mp (h.resolve_left z)
    exact nI_lt (a := 3) (by omega) hj
theorem y_in1 {post : Int32 → Prop} {f : Nat} (h : f < 4) (h0 : post 1) : wpY_in post (nI f) 0 3 :=
  br_f (nI_pos (by omega)) (br_f (nI_nlt (a := 3) (by omega) (by decide)) h0)
section
variable {xcc xdr xas xss xnc xdp xoc xrs xrt xrf xrz : Int32} {xA xD xDe xUw xRc xP xPe xPl xO xOl xAr xS xSe xSn xF xNc xNf xNs xNz xCr xCn xCv xOp xRl xTa xUt : Nat → Int32}
theorem x_ops {post : Int32 → Prop} {ar : Nat → Nat} {c t : Nat} (hc : c ≤ 6) (ht : fo_tk c t) (h : post (nI (fo_op ar t))) :
    wpX_operandsOf post (xcc, xdr, xas, xss, xnc, xdp, xoc, xrs, xrt, xrf, xrz, fo_n ar, xD, xDe, xUw, xRc, xP, xPe, xPl, xO, xOl, xAr, xS, xSe, xSn, xF, xNc, xNf, xNs, xNz, xCr, xCn, xCv, xOp, xRl, xTa, xUt) (nI t) := by
  have h48 := fo_tk_le ht
  refine ⟨by decide, nm_r (fo_d8 (by omega)) ?_⟩
  refine pk_lt (t / 8) 2 (fun z => ?_) (fun z => pk_lt 5 (t / 8) (fun w => ?_) (fun w => pk_eq (t / 8) 2 (fun k2 => ?_) (fun k2 => pk_eq (t / 8) 3 (fun k3 => ?_) (fun k3 => pk_eq (t / 8) 4 (fun k4 => ?_) (fun k4 => pk_eq (t / 8) 5 (fun k5 => ?_) (fun k5 => trivial))))))
  · rw [fo_op01 (by omega)] at h; exact h
  · omega
  · refine ⟨by decide, ?_⟩
    rw [fo_r8 (by omega)]
    unfold fo_tk at ht
    refine ⟨pk_in (t % 8) 6 (by omega), ?_⟩
    rw [nI_clamp (by omega)]
    rw [fo_op2 k2] at h; exact h
  · rw [fo_op3 k3] at h; exact h
  · rw [fo_op45 (Or.inl k4)] at h; exact h
  · rw [fo_op45 (Or.inr k5)] at h; exact h
/-- the ends of the draft's terms: one term -/
theorem x_md_in {post : SX → Prop} {ar T : Nat → Nat} {n i : Nat} (hi : i < n) (hn : n ≤ 40) (ha : ∀ i, ar i ≤ 2)
    {J : Int32 → (Nat → Int32) → (Nat → Int32) → (Nat → Int32) → (Nat → Int32) → (Nat → Int32) → (Nat → Int32) → (Nat → Int32) → (Nat → Int32) → (Nat → Int32) → (Nat → Int32) → (Nat → Int32) → (Nat → Int32) → (Nat → Int32) → (Nat → Int32) → (Nat → Int32) → (Nat → Int32) → (Nat → Int32) → (Nat → Int32) → (Nat → Int32) → (Nat → Int32) → (Nat → Int32) → (Nat → Int32) → (Nat → Int32) → (Nat → Int32) → (Nat → Int32) → (Nat → Int32) → Prop} (hD : ∀ j, i < j → j < n → xDe j = nI (fe_pe (fm_o ar T) n j))
    (hJ : J (nI i + (-1)) xA xD (upd xDe i (nI (fe_pe (fm_o ar T) n i))) xUw xRc xP xPe xPl xO xOl xAr xS xSe xSn xF xNc xNf xNs xNz xCr xCn xCv xOp xRl xTa xUt) :
    ∀ d k e, k + d = fm_o ar T i → e = fe_en (fm_o ar T) (n - (i + 1)) k (i + 1) →
      wX_measureDraft_29 post J (nI i) (nI (fm_o ar T i)) xcc (nI n) xas xss xnc xdp xoc xrs xrt xrf xrz xA xD xDe xUw xRc xP xPe xPl xO xOl xAr xS xSe xSn xF xNc xNf xNs xNz xCr xCn xCv xOp xRl xTa xUt (d + 1) (nI e) (nI k) := by
  have ho : fm_o ar T i ≤ 2 := fo_op_le ha _
  intro d
  induction d with
  | zero =>
    intro k e hk he
    refine br_t (nI_le (by omega) (by omega)) ⟨vp_in_nI (by omega) (by decide), nm_r ?_ (nm_e hJ)⟩
    rw [nI_clamp (by omega), he, fe_pe_def _ hi, show k = fm_o ar T i by omega]
  | succ d ih =>
    intro k e hk he
    have hr := fe_rng (fm_o ar T) (n - (i + 1)) k (i + 1)
    have hs := fe_pe_snoc (fm_o ar T) hi (by omega) k
    rw [← he] at hr hs
    refine br_f (nI_ge (by omega) (by omega)) (pk_le n e (fun h => ?_) (fun h => ⟨vp_in_nI (by omega) (by decide), nm_r (e' := nI (fe_pe (fm_o ar T) n e)) ?_ (nm_r (nI_1 k) ?_)⟩))
    · refine nm_r (nI_1 k) (ih (k + 1) 1000 (by omega) ?_)
      rw [hs, if_neg (by omega)]
    · rw [nI_clamp (by omega), hD e (by omega) h]
    · refine ih (k + 1) _ (by omega) ?_
      rw [hs, if_pos h]
theorem x_md_out {post : SX → Prop} {ar T : Nat → Nat} {c n : Nat} (hc : c ≤ 6) (hn : n ≤ 40) (ha : ∀ i, ar i ≤ 2)
    (hT : ∀ i, i < n → fo_tk c (T i) ∧ xD i = nI (T i))
    (hp : ∀ D, (∀ j, j < n → D j = nI (fe_pe (fm_o ar T) n j)) → post (xcc, nI n, xas, xss, xnc, xdp, xoc, xrs, xrt, xrf, xrz, fo_n ar, xD, D, xUw, xRc, xP, xPe, xPl, xO, xOl, xAr, xS, xSe, xSn, xF, xNc, xNf, xNs, xNz, xCr, xCn, xCv, xOp, xRl, xTa, xUt)) :
    ∀ i D, i ≤ n → (∀ j, i ≤ j → j < n → D j = nI (fe_pe (fm_o ar T) n j)) →
      wX_measureDraft_7 post xcc (nI n) xas xss xnc xdp xoc xrs xrt xrf xrz (i + 1) (nI i + (-1)) (fo_n ar) xD D xUw xRc xP xPe xPl xO xOl xAr xS xSe xSn xF xNc xNf xNs xNz xCr xCn xCv xOp xRl xTa xUt := by
  intro i
  induction i with
  | zero => intro D _ h; exact br_t (by decide) (hp D (fun j hj => h j (by omega) hj))
  | succ k ih =>
    intro D hk h
    rw [pk_m1]
    refine br_f (nI_pos (by omega)) ⟨vp_in_nI (by omega) (by decide), ?_⟩
    rw [nI_clamp (by omega), (hT k (by omega)).2]
    refine x_ops hc (hT k (by omega)).1 (nm_r (nI_1 k) ⟨_, x_md_in (T := T) (by omega) hn ha (fun j h1 h2 => h j (by omega) h2) (ih _ (by omega) ?_) _ 0 (k + 1) (Nat.zero_add _) (by rw [fe_en0])⟩)
    intro j h1 h2
    by_cases e : j = k
    · subst e; exact pk_us
    · rw [pk_un e]; exact h j (by omega) h2
theorem x_md {post : SX → Prop} {ar T : Nat → Nat} {c n : Nat} (hc : c ≤ 6) (hn : n ≤ 40) (ha : ∀ i, ar i ≤ 2)
    (hT : ∀ i, i < n → fo_tk c (T i) ∧ xD i = nI (T i))
    (hp : ∀ D, (∀ j, j < n → D j = nI (fe_pe (fm_o ar T) n j)) → post (xcc, nI n, xas, xss, xnc, xdp, xoc, xrs, xrt, xrf, xrz, fo_n ar, xD, D, xUw, xRc, xP, xPe, xPl, xO, xOl, xAr, xS, xSe, xSn, xF, xNc, xNf, xNs, xNz, xCr, xCn, xCv, xOp, xRl, xTa, xUt)) :
    wpX_measureDraft post (xcc, nI n, xas, xss, xnc, xdp, xoc, xrs, xrt, xrf, xrz, fo_n ar, xD, xDe, xUw, xRc, xP, xPe, xPl, xO, xOl, xAr, xS, xSe, xSn, xF, xNc, xNf, xNs, xNz, xCr, xCn, xCv, xOp, xRl, xTa, xUt) := by
  refine nm_r (e' := nI n + (-1)) (Int32.sub_eq_add_neg _ _) ⟨_, x_md_out hc hn ha hT hp n xDe (Nat.le_refl _) (fun j h1 h2 => by omega)⟩
end
end
section
/-- the tokens from fr on are those of a result; s: the variables that it may have -/
def fp_res (T : Nat → Nat) (s fr n : Nat) : Prop := ∀ i, fr ≤ i → i < n → (T i / 8 = 1 ∧ s.testBit (T i % 8) = true) ∨ T i / 8 = 2 ∨ T i / 8 = 5
theorem fp_13 {t : Nat} (h1 : t = 1) (h : t = 3 ∨ t = 4) : False := by omega
theorem fp_v4 {c t : Nat} (h : fo_tk c t) (h1 : t / 8 = 1) : t % 8 < 4 := by
  unfold fo_tk at h; omega
section
variable {xcc xdr xas xss xnc xdp xoc xrs xrt xrf xrz : Int32} {xA xD xDe xUw xRc xP xPe xPl xO xOl xAr xS xSe xSn xF xNc xNf xNs xNz xCr xCn xCv xOp xRl xTa xUt : Nat → Int32}
theorem x_pv75n {post : Int32 → Prop} {J : Int32 → Int32 → Int32 → Prop} {x1 x2 x3 : Int32} {i k : Nat} (hk : k ≠ 1) (hk2 : k < 2 ^ 31)
    (h : J x2 x3 (nI (i + 1))) : wX_patternVariables_75 post J x1 x2 x3 (nI i) (nI k) xcc xdr xas xss xnc xdp xoc xrs xrt xrf xrz xA xD xDe xUw xRc xP xPe xPl xO xOl xAr xS xSe xSn xF xNc xNf xNs xNz xCr xCn xCv xOp xRl xTa xUt :=
  br_f (fun z => hk ((nI_eq (b := 1) hk2 (by decide)).mp z)) (nm_r (nI_1 i) h)
theorem x_pv_loop {post : Int32 → Prop} {T pe : Nat → Nat} {c n e : Nat} (hn : n ≤ 40) (he : e ≤ n) (he2 : e ≤ 12)
    (hT : ∀ i, i < n → fo_tk c (T i) ∧ xD i = nI (T i)) (hD : ∀ i, i < n → xDe i = nI (pe i)) (hpe : ∀ i, i < e → i < pe i ∧ pe i ≤ e)
    (hnest : ∀ i j, i < e → i ≤ j → j < pe i → pe j ≤ pe i) (h0 : fp_bad T pe e → post (-1)) (h1 : ¬ fp_bad T pe e → post (nI (fp_set T e))) :
    ∀ d i cu, i + d = e → ¬ fp_bad T pe i → cu ≤ e → (∀ q, q < i → (T q / 8 = 3 ∨ T q / 8 = 4) → pe q ≤ cu) →
      (cu = 0 ∨ ∃ q, q < i ∧ (T q / 8 = 3 ∨ T q / 8 = 4) ∧ pe q = cu) →
      wX_patternVariables_23 post (nI e) xcc xdr xas xss xnc xdp xoc xrs xrt xrf xrz xA xD xDe xUw xRc xP xPe xPl xO xOl xAr xS xSe xSn xF xNc xNf xNs xNz xCr xCn xCv xOp xRl xTa xUt (d + 1) (nI (fp_set T i)) (nI cu) (nI i) := by
  intro d
  induction d with
  | zero =>
    intro i cu hi hb _ _ _
    have : i = e := by omega
    subst this
    exact br_t (nI_le (Nat.le_refl _) (by omega)) (h1 hb)
  | succ d ih =>
    intro i cu hi hb hcu hA hB
    have hie : i < e := by omega
    have hin : i < n := by omega
    obtain ⟨ht, hx⟩ := hT i hin
    have h48 := fo_tk_le ht
    have bad : (T i / 8 = 5 ∨ (T i / 8 = 1 ∧ ((∃ j, j < i ∧ T j = T i) ∨ ∃ j, j ≤ i ∧ (T j / 8 = 3 ∨ T j / 8 = 4) ∧ i < pe j))) → post (-1) :=
      fun z => h0 ⟨i, hie, z⟩
    have nb : ¬ (T i / 8 = 5 ∨ (T i / 8 = 1 ∧ ((∃ j, j < i ∧ T j = T i) ∨ ∃ j, j ≤ i ∧ (T j / 8 = 3 ∨ T j / 8 = 4) ∧ i < pe j))) → ¬ fp_bad T pe (i + 1) := by
      rintro z ⟨q, hq, w⟩
      by_cases e' : q = i
      · subst e'; exact z w
      · exact hb ⟨q, by omega, w⟩
    refine br_f (nI_ge (by omega) (by omega)) ⟨vp_in_nI (by omega) (by decide), by decide, nm_r (e' := nI (T i / 8)) ?_ ?_⟩
    · rw [nI_clamp (by omega), hx, fo_d8 (by omega)]
    have hor : (T i / 8 = 3 ∨ T i / 8 = 4) → wX_patternVariables_61 post (wX_patternVariables_23 post (nI e) xcc xdr xas xss xnc xdp xoc xrs xrt xrf xrz xA xD xDe xUw xRc xP xPe xPl xO xOl xAr xS xSe xSn xF xNc xNf xNs xNz xCr xCn xCv xOp xRl xTa xUt (d + 1)) (nI e) (nI (fp_set T i)) (nI cu) (nI i) (nI (T i / 8)) xcc xdr xas xss xnc xdp xoc xrs xrt xrf xrz xA xD xDe xUw xRc xP xPe xPl xO xOl xAr xS xSe xSn xF xNc xNf xNs xNz xCr xCn xCv xOp xRl xTa xUt := by
      intro hk
      have hs : fp_set T (i + 1) = fp_set T i := by simp only [fp_set]; rw [if_neg (by omega)]
      refine pk_lt i cu (fun z => x_pv75n (by omega) (by omega) ?_) (fun z => ⟨vp_in_nI (by omega) (by decide), nm_r (e' := nI (pe i)) ?_ (x_pv75n (by omega) (by omega) ?_)⟩)
      · rw [← hs]
        refine ih (i + 1) cu (by omega) (nb (by omega)) hcu ?_ ?_
        · intro q hq hkq
          by_cases e' : q = i
          · subst e'
            rcases hB with g | ⟨q', g1, g2, g3⟩
            · omega
            · have := hnest q' q (by omega) (by omega) (by omega)
              omega
          · exact hA q (by omega) hkq
        · rcases hB with g | ⟨q', g1, g2, g3⟩
          · exact Or.inl g
          · exact Or.inr ⟨q', by omega, g2, g3⟩
      · rw [nI_clamp (by omega), hD i hin]
      · rw [← hs]
        refine ih (i + 1) (pe i) (by omega) (nb (by omega)) (hpe i hie).2 ?_ (Or.inr ⟨i, by omega, hk, rfl⟩)
        intro q hq hkq
        by_cases e' : q = i
        · subst e'; exact Nat.le_refl _
        · have := hA q (by omega) hkq
          have := (hpe i hie).1
          omega
    refine pk_eq (T i / 8) 5 (fun k5 => bad (Or.inl k5)) (fun k5 => pk_eq (T i / 8) 3 (fun k3 => hor (Or.inl k3)) (fun k3 => pk_eq (T i / 8) 4 (fun k4 => hor (Or.inr k4)) (fun k4 => ?_)))
    by_cases k1 : T i / 8 = 1
    · have v4 := fp_v4 ht k1
      have hs16 := fp_set_lt i (fun j hj => fp_v4 (hT j (by omega)).1)
      have hbit := fp_set_bit v4 i (fun j hj => fp_v4 (hT j (by omega)).1)
      have hb2 := fp_bx _ hs16 _ v4
      have hs : fp_set T (i + 1) = fp_set T i ||| 2 ^ (T i % 8) := by simp only [fp_set]; rw [if_pos k1]
      refine br_t (congrArg nI k1) ⟨vp_in_nI (by omega) (by decide), by decide, nm_r (e' := (1 : Int32) <<< (nI (T i % 8) &&& 31)) ?_ ?_⟩
      · rw [nI_clamp (by omega), hx, fo_r8 (by omega)]
      refine pk_lt i cu (fun z => ?_) (fun z => br_c (fun w => ?_) (fun w => ?_))
      · rcases hB with g | ⟨q', g1, g2, g3⟩
        · omega
        · exact bad (Or.inr ⟨k1, Or.inr ⟨q', by omega, g2, by omega⟩⟩)
      · have w' := hb2.1.mp w
        refine nm_r (hb2.2.trans (congrArg nI hs.symm)) (nm_r (nI_1 i) (ih (i + 1) cu (by omega) (nb ?_) hcu ?_ ?_))
        · rintro (g | ⟨_, ⟨j, hj, g⟩ | ⟨j, hj, g1, g2⟩⟩)
          · omega
          · have := hbit.mpr ⟨j, hj, by omega⟩
            rw [w'] at this; exact absurd this (by decide)
          · by_cases e' : j = i
            · subst e'; exact fp_13 k1 g1
            · have := hA j (by omega) g1
              omega
        · intro q hq hkq
          by_cases e' : q = i
          · subst e'; exact (fp_13 k1 hkq).elim
          · exact hA q (by omega) hkq
        · rcases hB with g | ⟨q', g1, g2, g3⟩
          · exact Or.inl g
          · exact Or.inr ⟨q', by omega, g2, g3⟩
      · have w' : (fp_set T i).testBit (T i % 8) = true := by
          cases hz : (fp_set T i).testBit (T i % 8) with
          | true => rfl
          | false => exact absurd (hb2.1.mpr hz) w
        obtain ⟨j, hj, g⟩ := hbit.mp w'
        exact bad (Or.inr ⟨k1, Or.inl ⟨j, hj, by omega⟩⟩)
    · have hs : fp_set T (i + 1) = fp_set T i := by simp only [fp_set]; rw [if_neg k1]
      refine x_pv75n k1 (by omega) ?_
      rw [← hs]
      refine ih (i + 1) cu (by omega) (nb (by omega)) hcu ?_ ?_
      · intro q hq hkq
        by_cases e' : q = i
        · subst e'; exact (hkq.elim k3 k4).elim
        · exact hA q (by omega) hkq
      · rcases hB with g | ⟨q', g1, g2, g3⟩
        · exact Or.inl g
        · exact Or.inr ⟨q', by omega, g2, g3⟩
/-- the pattern's variables, or -1 -/
theorem x_pv {post : Int32 → Prop} {T pe : Nat → Nat} {c n e : Nat} (hn : n ≤ 40) (he3 : e ≤ 1000)
    (hT : ∀ i, i < n → fo_tk c (T i) ∧ xD i = nI (T i)) (hD : ∀ i, i < n → xDe i = nI (pe i)) (hpe : e ≤ n → ∀ i, i < e → i < pe i ∧ pe i ≤ e)
    (hnest : e ≤ n → ∀ i j, i < e → i ≤ j → j < pe i → pe j ≤ pe i) (h0 : ¬ (e ≤ n ∧ e ≤ 12 ∧ ¬ fp_bad T pe e) → post (-1))
    (h1 : e ≤ n → e ≤ 12 → ¬ fp_bad T pe e → post (nI (fp_set T e))) : wpX_patternVariables post (xcc, nI n, xas, xss, xnc, xdp, xoc, xrs, xrt, xrf, xrz, xA, xD, xDe, xUw, xRc, xP, xPe, xPl, xO, xOl, xAr, xS, xSe, xSn, xF, xNc, xNf, xNs, xNz, xCr, xCn, xCv, xOp, xRl, xTa, xUt) (nI e) := by
  refine pk_lt n e (fun z => h0 (by omega)) (fun z => pk_le e 12 (fun w => ?_) (fun w => h0 (by omega)))
  refine ⟨e + 1, x_pv_loop hn z w hT hD (hpe z) (hnest z) (fun b => h0 (fun g => g.2.2 b)) (h1 z w) e 0 0 (by omega) ?_ (by omega) ?_ (Or.inl rfl)⟩
  · rintro ⟨q, hq, _⟩; omega
  · intro q hq; omega
theorem x_io75 {post J : Int32 → Prop} {T : Nat → Nat} {c s i : Nat} (hi : i < 40) (ht : fo_tk c (T i)) (hx : xD i = nI (T i)) (hs : s < 16)
    (h0 : T i / 8 = 1 → s.testBit (T i % 8) = false → post 0) (h1 : (T i / 8 = 1 → s.testBit (T i % 8) = true) → J (nI (i + 1))) :
    wX_isOutcome_75 post J (nI s) (nI i) (nI (T i / 8)) xcc xdr xas xss xnc xdp xoc xrs xrt xrf xrz xA xD xDe xUw xRc xP xPe xPl xO xOl xAr xS xSe xSn xF xNc xNf xNs xNz xCr xCn xCv xOp xRl xTa xUt := by
  have h48 := fo_tk_le ht
  refine pk_eq (T i / 8) 1 (fun k1 => ⟨vp_in_nI hi (by decide), by decide, ?_⟩) (fun k1 => nm_r (nI_1 i) (h1 (fun z => absurd z k1)))
  rw [nI_clamp (by omega), hx, fo_r8 (by omega)]
  have hb := fp_bx s hs _ (fp_v4 ht k1)
  refine br_c (fun w => h0 k1 (hb.1.mp w)) (fun w => nm_r (nI_1 i) (h1 (fun _ => ?_)))
  cases hz : s.testBit (T i % 8) with
  | true => rfl
  | false => exact absurd (hb.1.mpr hz) w
theorem x_io_loop {post : Int32 → Prop} {T : Nat → Nat} {c n s fr : Nat} (hn : n ≤ 40) (hs : s < 16)
    (hT : ∀ i, i < n → fo_tk c (T i) ∧ xD i = nI (T i)) (h0 : ¬ fp_res T s fr n → post 0) (h1 : fp_res T s fr n → post 1) :
    ∀ d i, i + d = n → fr ≤ i → fp_res T s fr i → wX_isOutcome_36 post (nI s) xcc (nI n) xas xss xnc xdp xoc xrs xrt xrf xrz xA xD xDe xUw xRc xP xPe xPl xO xOl xAr xS xSe xSn xF xNc xNf xNs xNz xCr xCn xCv xOp xRl xTa xUt (d + 1) (nI i) := by
  intro d
  induction d with
  | zero =>
    intro i hi _ hr
    have : i = n := by omega
    subst this
    exact br_t (nI_le (Nat.le_refl _) (by omega)) (h1 hr)
  | succ d ih =>
    intro i hi hf hr
    obtain ⟨ht, hx⟩ := hT i (by omega)
    have h48 := fo_tk_le ht
    have no : ¬ ((T i / 8 = 1 ∧ s.testBit (T i % 8) = true) ∨ T i / 8 = 2 ∨ T i / 8 = 5) → post 0 :=
      fun z => h0 (fun g => z (g i hf (by omega)))
    refine br_f (nI_ge (by omega) (by omega)) ⟨vp_in_nI (by omega) (by decide), by decide, nm_r (e' := nI (T i / 8)) ?_ ?_⟩
    · rw [nI_clamp (by omega), hx, fo_d8 (by omega)]
    have yes : (T i / 8 = 1 ∨ T i / 8 = 2 ∨ T i / 8 = 5) → wX_isOutcome_75 post (wX_isOutcome_36 post (nI s) xcc (nI n) xas xss xnc xdp xoc xrs xrt xrf xrz xA xD xDe xUw xRc xP xPe xPl xO xOl xAr xS xSe xSn xF xNc xNf xNs xNz xCr xCn xCv xOp xRl xTa xUt (d + 1)) (nI s) (nI i) (nI (T i / 8)) xcc (nI n) xas xss xnc xdp xoc xrs xrt xrf xrz xA xD xDe xUw xRc xP xPe xPl xO xOl xAr xS xSe xSn xF xNc xNf xNs xNz xCr xCn xCv xOp xRl xTa xUt := by
      intro hk
      refine x_io75 (by omega) ht hx hs (fun k1 z => no ?_) (fun z => ih (i + 1) (by omega) (by omega) ?_)
      · rw [z]
        rintro (⟨_, g⟩ | g | g)
        · cases g
        · omega
        · omega
      · intro j h2 h3
        by_cases e : j = i
        · subst e
          rcases hk with k | k
          · exact Or.inl ⟨k, z k⟩
          · exact Or.inr k
        · exact hr j h2 (by omega)
    exact pk_eq (T i / 8) 1 (fun k1 => yes (Or.inl k1)) (fun k1 => pk_eq (T i / 8) 2 (fun k2 => yes (Or.inr (Or.inl k2))) (fun k2 =>
      pk_eq (T i / 8) 5 (fun k5 => yes (Or.inr (Or.inr k5))) (fun k5 => no (by omega))))
theorem x_io {post : Int32 → Prop} {T pe : Nat → Nat} {c n s fr : Nat} (hn : n ≤ 40) (hs : s < 16) (hf : fr ≤ 1000)
    (hT : ∀ i, i < n → fo_tk c (T i) ∧ xD i = nI (T i)) (hD : ∀ i, i < n → xDe i = nI (pe i)) (hb : ∀ i, i < n → pe i ≤ 1000)
    (h0 : ¬ (fr < n ∧ pe fr = n ∧ n - fr ≤ 12 ∧ fp_res T s fr n) → post 0)
    (h1 : fr < n → pe fr = n → n - fr ≤ 12 → fp_res T s fr n → post 1) : wpX_isOutcome post (xcc, nI n, xas, xss, xnc, xdp, xoc, xrs, xrt, xrf, xrz, xA, xD, xDe, xUw, xRc, xP, xPe, xPl, xO, xOl, xAr, xS, xSe, xSn, xF, xNc, xNf, xNs, xNz, xCr, xCn, xCv, xOp, xRl, xTa, xUt) (nI fr) (nI s) := by
  refine pk_le n fr (fun z => h0 (by omega)) (fun z => ⟨vp_in_nI (by omega) (by decide), ?_⟩)
  rw [nI_clamp (by omega), hD fr z]
  have := hb fr z
  refine pk_eq (pe fr) n (fun w => ?_) (fun w => h0 (fun g => w g.2.1))
  refine pk_le (n - fr) 12 (fun y => ⟨n - fr + 1, ?_⟩) (fun y => h0 (by omega)) (pk_sub (by omega))
  exact x_io_loop hn hs hT (fun g => h0 (fun g2 => g g2.2.2.2)) (h1 z w y) (n - fr) fr (by omega) (Nat.le_refl _) (fun i a b => by omega)
end
end
section
theorem fv_g_lo {a : List Nat} {x j : Nat} (h : j < a.length) : fv_g (a ++ [x]) j = fv_g a j := by
  unfold fv_g
  rw [List.getD_eq_getElem?_getD, List.getD_eq_getElem?_getD, List.getElem?_append_left h]
theorem fv_g_hi {a : List Nat} {x : Nat} : fv_g (a ++ [x]) a.length = x := by
  unfold fv_g
  rw [List.getD_eq_getElem?_getD, List.getElem?_append_right (Nat.le_refl _), Nat.sub_self]
  rfl
/-- a stack in an array, its top first in the list -/
def fs_stk (U : Nat → Int32) : List Nat → Prop
  | [] => True
  | u :: st => U st.length = nI u ∧ fs_stk U st
theorem fs_stk_u {U : Nat → Int32} {x : Int32} : ∀ st k, st.length ≤ k → fs_stk U st → fs_stk (upd U k x) st := by
  intro st
  induction st with
  | nil => intro k _ _; trivial
  | cons u st ih =>
    intro k hk h
    rw [List.length_cons] at hk
    exact ⟨by rw [pk_un (by omega)]; exact h.1, ih k (by omega) h.2⟩
theorem fs_lenF {α β : Type} {rt : Nat → α → β → Prop} {yt : Nat → α} {op : Nat → Nat} {fr u p : Nat} {st : List Nat} {out : List β}
    (h : fs_FU rt yt op fr u st p out) : fr ≤ u ∧ u < p ∧ out.length + (st.length + 1) = p - fr := by
  obtain ⟨o0, o1, hu, h1, rfl, hS⟩ := h
  have a := (ff_len h1).1
  rw [fe_sl_len] at a
  obtain ⟨b, d⟩ := fs_len _ _ _ hS
  rw [List.length_append]
  omega
def fs_ST {α β : Type} (rt : Nat → α → β → Prop) (yt : Nat → α) (op : Nat → Nat) (fr : Nat) (st : List Nat) (p : Nat) (out : List β) : Prop :=
  fs_SO rt yt op fr st p out ∨ ∃ u st', st = u :: st' ∧ fs_FU rt yt op fr u st' p out
section
variable {xcc xdr xas xss xnc xdp xoc xrs xrt xrf xrz : Int32} {xA xD xDe xUw xRc xP xPe xPl xO xOl xAr xS xSe xSn xF xNc xNf xNs xNz xCr xCn xCv xOp xRl xTa xUt : Nat → Int32}
theorem x_sp_loop {post : SX → Prop} {T pe : Nat → Nat} {e r : Nat} (he : e ≤ 12) (hr : r < 20)
    (hT : ∀ i, i < e → xD i = nI (T i)) (hD : ∀ i, i < e → xDe i = nI (pe i)) {xP0 xE0 : Nat → Int32}
    (hp : ∀ P E, (∀ j, j < e → P (12 * r + j) = nI (T j) ∧ E (12 * r + j) = nI (pe j)) → (∀ q, (q < 12 * r ∨ 12 * r + 12 ≤ q) → P q = xP0 q ∧ E q = xE0 q) →
      post (xcc, xdr, xas, xss, xnc, xdp, xoc, xrs, xrt, xrf, xrz, xA, xD, xDe, xUw, xRc, P, E, upd xPl r (nI e), xO, xOl, xAr, xS, xSe, xSn, xF, xNc, xNf, xNs, xNz, xCr, xCn, xCv, xOp, xRl, xTa, xUt)) :
    ∀ d i P E, i + d = e → (∀ j, j < i → P (12 * r + j) = nI (T j) ∧ E (12 * r + j) = nI (pe j)) → (∀ q, (q < 12 * r ∨ 12 * r + 12 ≤ q) → P q = xP0 q ∧ E q = xE0 q) →
      wX_storePattern_8 post (nI r) (nI e) (nI (12 * r)) xcc xdr xas xss xnc xdp xoc xrs xrt xrf xrz (d + 1) (nI i) xA xD xDe xUw xRc P E xPl xO xOl xAr xS xSe xSn xF xNc xNf xNs xNz xCr xCn xCv xOp xRl xTa xUt := by
  intro d
  induction d with
  | zero =>
    intro i P E hi h1 h2
    have : i = e := by omega
    subst this
    exact br_t (nI_le (Nat.le_refl _) (by omega)) ⟨vp_in_nI hr (by decide), nm_r (by rw [nI_clamp (by omega)]) (hp P E h1 h2)⟩
  | succ d ih =>
    intro i P E hi h1 h2
    have hin : vp_in (nI (12 * r) + nI i) 240 := by rw [nI_add]; exact vp_in_nI (by omega) (by decide)
    refine br_f (nI_ge (by omega) (by omega)) ⟨vp_in_nI (by omega) (by decide), hin, nm_r (e' := upd P (12 * r + i) (nI (T i))) ?_ ⟨vp_in_nI (by omega) (by decide), hin, nm_r (e' := upd E (12 * r + i) (nI (pe i))) ?_ (nm_r (nI_1 i) (ih (i + 1) _ _ (by omega) ?_ ?_))⟩⟩
    · rw [nI_add, nI_clamp (by omega), nI_clamp (by omega), hT i (by omega)]
    · rw [nI_add, nI_clamp (by omega), nI_clamp (by omega), hD i (by omega)]
    · intro j hj
      by_cases e' : j = i
      · subst e'; exact ⟨pk_us, pk_us⟩
      · rw [pk_un (by omega), pk_un (by omega)]; exact h1 j (by omega)
    · intro q hq
      rw [pk_un (by omega), pk_un (by omega)]; exact h2 q hq
theorem x_sp {post : SX → Prop} {T pe : Nat → Nat} {e r : Nat} (he : e ≤ 12) (hr : r < 20)
    (hT : ∀ i, i < e → xD i = nI (T i)) (hD : ∀ i, i < e → xDe i = nI (pe i))
    (hp : ∀ P E, (∀ j, j < e → P (12 * r + j) = nI (T j) ∧ E (12 * r + j) = nI (pe j)) → (∀ q, (q < 12 * r ∨ 12 * r + 12 ≤ q) → P q = xP q ∧ E q = xPe q) →
      post (xcc, xdr, xas, xss, xnc, xdp, xoc, xrs, xrt, xrf, xrz, xA, xD, xDe, xUw, xRc, P, E, upd xPl r (nI e), xO, xOl, xAr, xS, xSe, xSn, xF, xNc, xNf, xNs, xNz, xCr, xCn, xCv, xOp, xRl, xTa, xUt)) : wpX_storePattern post (xcc, xdr, xas, xss, xnc, xdp, xoc, xrs, xrt, xrf, xrz, xA, xD, xDe, xUw, xRc, xP, xPe, xPl, xO, xOl, xAr, xS, xSe, xSn, xF, xNc, xNf, xNs, xNz, xCr, xCn, xCv, xOp, xRl, xTa, xUt) (nI r) (nI e) :=
  nm_r ((fo_m12 r).trans (congrArg nI (Nat.mul_comm r 12))) ⟨e + 1, x_sp_loop he hr hT hD hp e 0 xP xPe (by omega) (fun j hj => by omega) (fun q _ => ⟨rfl, rfl⟩)⟩
theorem x_so_in {post : SX → Prop} {ar T Tp : Nat → Nat} {c np n fr r p : Nat} (hn : n ≤ 40) (hp : p < n) (hfr : fr ≤ p) (h12 : n - fr ≤ 12) (hr : r < 20)
    (hT : ∀ i, i < n → xD i = nI (T i)) (hD : ∀ i, i < n → xDe i = nI (fe_pe (fm_o ar T) n i)) (hfull : fe_pe (fm_o ar T) n fr = n)
    (hval : ∀ u, fr ≤ u → u < n → fg_rs ar c Tp np (fo_op ar (T u)) (T u) (T u)) {xO0 : Nat → Int32}
    {J : Int32 → Int32 → Int32 → (Nat → Int32) → (Nat → Int32) → (Nat → Int32) → (Nat → Int32) → (Nat → Int32) → (Nat → Int32) → (Nat → Int32) → (Nat → Int32) → (Nat → Int32) → (Nat → Int32) → (Nat → Int32) → (Nat → Int32) → (Nat → Int32) → (Nat → Int32) → (Nat → Int32) → (Nat → Int32) → (Nat → Int32) → (Nat → Int32) → (Nat → Int32) → (Nat → Int32) → (Nat → Int32) → (Nat → Int32) → (Nat → Int32) → (Nat → Int32) → (Nat → Int32) → (Nat → Int32) → Prop}
    (hJ : ∀ st out O, fs_SO (fg_rs ar c Tp np) T (fm_o ar T) fr st (p + 1) out → fs_stk xUw st → (∀ j, j < out.length → O (12 * r + j) = nI (fv_g out j)) →
      (∀ q, (q < 12 * r ∨ 12 * r + 12 ≤ q) → O q = xO0 q) → J (nI out.length) (nI st.length) (nI (p + 1)) xA xD xDe xUw xRc xP xPe xPl O xOl xAr xS xSe xSn xF xNc xNf xNs xNz xCr xCn xCv xOp xRl xTa xUt) :
    ∀ st out O, fs_ST (fg_rs ar c Tp np) T (fm_o ar T) fr st (p + 1) out → fs_stk xUw st → (∀ j, j < out.length → O (12 * r + j) = nI (fv_g out j)) →
      (∀ q, (q < 12 * r ∨ 12 * r + 12 ≤ q) → O q = xO0 q) →
      wX_storeOutcome_35 post J (nI r) (nI (12 * r)) (nI p) xcc (nI n) xas xss xnc xdp xoc xrs xrt xrf xrz (st.length + 1) (nI out.length) (nI st.length) xA xD xDe xUw xRc xP xPe xPl O xOl xAr xS xSe xSn xF xNc xNf xNs xNz xCr xCn xCv xOp xRl xTa xUt := by
  have hop : ∀ j k y, fg_rs ar c Tp np k (T j) y → fm_o ar T j = k := fun j k y h => h.2.1.symm
  have ender : ∀ (st : List Nat) (out : List Nat) (O : Nat → Int32), fs_SO (fg_rs ar c Tp np) T (fm_o ar T) fr st (p + 1) out → fs_stk xUw st → (∀ j, j < out.length → O (12 * r + j) = nI (fv_g out j)) →
      (∀ q, (q < 12 * r ∨ 12 * r + 12 ≤ q) → O q = xO0 q) →
      wX_storeOutcome_35 post J (nI r) (nI (12 * r)) (nI p) xcc (nI n) xas xss xnc xdp xoc xrs xrt xrf xrz (st.length + 1) (nI out.length) (nI st.length) xA xD xDe xUw xRc xP xPe xPl O xOl xAr xS xSe xSn xF xNc xNf xNs xNz xCr xCn xCv xOp xRl xTa xUt := by
    intro st out O hS hU hO hF
    have hl := fs_len _ _ _ hS
    have hj := hJ st out O hS hU hO hF
    cases st with
    | nil => exact br_t (by decide) (nm_r (nI_1 p) hj)
    | cons u st =>
      obtain ⟨m, o0, o1, hu, hm, hpf, ho, hS'⟩ := id hS
      have hfu := (fs_len _ _ _ hS').1
      have he := fs_endS (N := n) hop hS (by omega) (by omega)
      have hpe : p + 1 < fe_pe (fm_o ar T) n u := he
      have hb := (fe_pe_sub (fm_o ar T) hfull (by omega) hfu (by omega)).2
      rw [List.length_cons] at hl ⊢
      refine br_f (nI_nle (by omega) (by omega)) ?_
      have e1 : nI (st.length + 1) - 1 = nI st.length := nI_pred _
      rw [e1]
      refine ⟨vp_in_nI (by omega) (by decide), ?_⟩
      rw [nI_clamp (by omega), hU.1]
      refine ⟨vp_in_nI (by omega) (by decide), ?_⟩
      rw [nI_clamp (by omega), hD u (by omega)]
      refine br_f ?_ (nm_r (nI_1 p) hj)
      rw [nI_1, nI_eq (by omega) (by omega)]
      omega
  intro st
  induction st with
  | nil =>
    intro out O h hU hO hF
    rcases h with h | ⟨u, st', e, _⟩
    · exact ender [] out O h hU hO hF
    · cases e
  | cons u st ih =>
    intro out O h hU hO hF
    rcases h with h | ⟨u', st', e, hFU⟩
    · exact ender (u :: st) out O h hU hO hF
    · cases e
      obtain ⟨l1, l2, l3⟩ := fs_lenF hFU
      have he : fe_pe (fm_o ar T) n u = p + 1 := fs_endF (N := n) hop hFU (by omega)
      rw [List.length_cons]
      refine br_f (nI_nle (by omega) (by omega)) ?_
      have e1 : nI (st.length + 1) - 1 = nI st.length := nI_pred _
      rw [e1]
      refine ⟨vp_in_nI (by omega) (by decide), ?_⟩
      rw [nI_clamp (by omega), hU.1]
      refine ⟨vp_in_nI (by omega) (by decide), ?_⟩
      rw [nI_clamp (by omega), hD u (by omega)]
      refine br_t (by rw [he, nI_1]) (nm_r (pk_m1 _) ⟨vp_in_nI (by omega) (by decide), ?_⟩)
      rw [nI_clamp (by omega), hU.1]
      refine ⟨vp_in_nI (by omega) (by decide), by rw [nI_add]; exact vp_in_nI (by omega) (by decide), ?_⟩
      rw [nI_add, nI_clamp (by omega), nI_clamp (by omega), hT u (by omega)]
      have hnew := ih (out ++ [T u]) (upd O (12 * r + out.length) (nI (T u))) ?_ hU.2 ?_ ?_
      · rw [List.length_append] at hnew
        exact nm_e (nm_r (nI_1 _) hnew)
      · exact fs_pop (xt := T) (hval u l1 (by omega)) hFU
      · intro j hj
        rw [List.length_append] at hj
        have hj' : j < out.length + 1 := hj
        by_cases e' : j = out.length
        · subst e'; rw [pk_us, fv_g_hi]
        · rw [pk_un (by omega), fv_g_lo (by omega)]; exact hO j (by omega)
      · intro q hq
        rw [pk_un (by omega)]; exact hF q hq
theorem x_so_out {post : SX → Prop} {ar T Tp : Nat → Nat} {c np n fr r : Nat} (hn : n ≤ 40) (h12 : n - fr ≤ 12) (hr : r < 20)
    (hT : ∀ i, i < n → xD i = nI (T i)) (hD : ∀ i, i < n → xDe i = nI (fe_pe (fm_o ar T) n i)) (hfull : fe_pe (fm_o ar T) n fr = n)
    (hval : ∀ u, fr ≤ u → u < n → fg_rs ar c Tp np (fo_op ar (T u)) (T u) (T u)) {xO0 : Nat → Int32}
    (hp : ∀ U O out, ff_PF (fg_rs ar c Tp np) 1 (fe_sl T fr (n - fr)) out → (∀ j, j < out.length → O (12 * r + j) = nI (fv_g out j)) →
      (∀ q, (q < 12 * r ∨ 12 * r + 12 ≤ q) → O q = xO0 q) → post (xcc, nI n, xas, xss, xnc, xdp, xoc, xrs, xrt, xrf, xrz, xA, xD, xDe, U, xRc, xP, xPe, xPl, O, upd xOl r (nI out.length), xAr, xS, xSe, xSn, xF, xNc, xNf, xNs, xNz, xCr, xCn, xCv, xOp, xRl, xTa, xUt)) :
    ∀ d p st out U O, p + d = n → fr ≤ p → fs_SO (fg_rs ar c Tp np) T (fm_o ar T) fr st p out → fs_stk U st → (∀ j, j < out.length → O (12 * r + j) = nI (fv_g out j)) →
      (∀ q, (q < 12 * r ∨ 12 * r + 12 ≤ q) → O q = xO0 q) →
      wX_storeOutcome_14 post (nI r) (nI (12 * r)) xcc (nI n) xas xss xnc xdp xoc xrs xrt xrf xrz (d + 1) (nI out.length) (nI st.length) (nI p) xA xD xDe U xRc xP xPe xPl O xOl xAr xS xSe xSn xF xNc xNf xNs xNz xCr xCn xCv xOp xRl xTa xUt := by
  have hop : ∀ j k y, fg_rs ar c Tp np k (T j) y → fm_o ar T j = k := fun j k y h => h.2.1.symm
  intro d
  induction d with
  | zero =>
    intro p st out U O hpd hf hS hU hO hF
    have : p = n := by omega
    subst this
    refine br_t (nI_le (Nat.le_refl _) (by omega)) ⟨vp_in_nI hr (by decide), nm_r (by rw [nI_clamp (by omega)]) (hp U O out ?_ hO hF)⟩
    cases st with
    | nil => exact fs_final hop hS hfull (by omega)
    | cons u st =>
      obtain ⟨m, o0, o1, hu, hm, hpf, ho, hS'⟩ := id hS
      have hfu := (fs_len _ _ _ hS').1
      have he := fs_endS (N := p) hop hS (Nat.le_refl _) (by omega)
      have hb := (fe_pe_sub (fm_o ar T) hfull (by omega) hfu (by omega)).2
      unfold fe_pe at hb
      omega
  | succ d ih =>
    intro p st out U O hpd hf hS hU hO hF
    have hl := fs_len _ _ _ hS
    refine br_f (nI_ge (by omega) (by omega)) ⟨vp_in_nI (by omega) (by decide), nm_r (e' := upd U st.length (nI p)) (by rw [nI_clamp (by omega)]) (nm_r (nI_1 _) ⟨(p :: st).length + 1, ?_⟩)⟩
    refine x_so_in (xUw := upd U st.length (nI p)) hn (by omega) hf h12 hr hT hD hfull hval (fun st' out' O' a1 a2 a3 a4 => ih (p + 1) st' out' _ O' (by omega) (by omega) a1 a2 a3 a4) (p :: st) out O ?_ ⟨pk_us, fs_stk_u st _ (Nat.le_refl _) hU⟩ hO hF
    by_cases z : 0 < fm_o ar T p
    · exact Or.inl ((fs_push hS).1 z)
    · exact Or.inr ⟨p, st, rfl, (fs_push hS).2 (by omega)⟩
theorem x_so {post : SX → Prop} {ar T Tp : Nat → Nat} {c np n fr r : Nat} (hn : n ≤ 40) (hf : fr < n) (h12 : n - fr ≤ 12) (hr : r < 20)
    (hT : ∀ i, i < n → xD i = nI (T i)) (hD : ∀ i, i < n → xDe i = nI (fe_pe (fm_o ar T) n i)) (hfull : fe_pe (fm_o ar T) n fr = n)
    (hval : ∀ u, fr ≤ u → u < n → fg_rs ar c Tp np (fo_op ar (T u)) (T u) (T u))
    (hp : ∀ U O out, ff_PF (fg_rs ar c Tp np) 1 (fe_sl T fr (n - fr)) out → (∀ j, j < out.length → O (12 * r + j) = nI (fv_g out j)) →
      (∀ q, (q < 12 * r ∨ 12 * r + 12 ≤ q) → O q = xO q) → post (xcc, nI n, xas, xss, xnc, xdp, xoc, xrs, xrt, xrf, xrz, xA, xD, xDe, U, xRc, xP, xPe, xPl, O, upd xOl r (nI out.length), xAr, xS, xSe, xSn, xF, xNc, xNf, xNs, xNz, xCr, xCn, xCv, xOp, xRl, xTa, xUt)) :
    wpX_storeOutcome post (xcc, nI n, xas, xss, xnc, xdp, xoc, xrs, xrt, xrf, xrz, xA, xD, xDe, xUw, xRc, xP, xPe, xPl, xO, xOl, xAr, xS, xSe, xSn, xF, xNc, xNf, xNs, xNz, xCr, xCn, xCv, xOp, xRl, xTa, xUt) (nI r) (nI fr) :=
  nm_r ((fo_m12 r).trans (congrArg nI (Nat.mul_comm r 12))) ⟨n - fr + 1, x_so_out hn h12 hr hT hD hfull hval hp (n - fr) fr [] [] xUw xO (by omega) (Nat.le_refl _) fs_start trivial (fun j hj => by cases hj) (fun q _ => rfl)⟩
end
end
section
theorem fo_ko {k o : Nat} (h : 1 ≤ k) : nI k + (nI o - 1) = nI (o + (k - 1)) := by
  obtain ⟨q, rfl⟩ : ∃ q, k = q + 1 := ⟨k - 1, by omega⟩
  rw [Nat.add_sub_cancel, ← nI_1 q, ← nI_add o q]
  generalize nI o = a
  generalize nI q = b
  grind
section
variable {ycc ydr ynd yln yal ygl yst ybl yhw yrn ywk : Int32} {yA yDk yDw yK yW yPl yRl yRc yHd yLf yRg ySz yLi ySk ySt yAr yGv yF yEn yPc yBd yWk yWw yOw yCt yOz yOp yKn : Nat → Int32}
theorem y_ops {post : Int32 → Prop} {ar : Nat → Nat} {c t : Nat} {w : Int32} (hc : c ≤ 6) (ht : fo_tk c t) (hw : t / 8 = 2 → w = nI (t % 8))
    (h : post (nI (fo_op ar t))) : wpY_operands post (ycc, ydr, ynd, yln, yal, ygl, yst, ybl, yhw, yrn, ywk, fo_n ar, yDk, yDw, yK, yW, yPl, yRl, yRc, yHd, yLf, yRg, ySz, yLi, ySk, ySt, yAr, yGv, yF, yEn, yPc, yBd, yWk, yWw, yOw, yCt, yOz, yOp, yKn) (nI (t / 8)) w := by
  have h48 := fo_tk_le ht
  refine pk_eq (t / 8) 2 (fun k2 => ?_) (fun k2 => pk_eq (t / 8) 3 (fun k3 => ?_) (fun k3 => pk_eq (t / 8) 4 (fun k4 => ?_) (fun k4 => pk_eq (t / 8) 5 (fun k5 => ?_) (fun k5 => ?_))))
  · rw [hw k2]
    unfold fo_tk at ht
    refine ⟨vp_in_nI (by omega) (by decide), ?_⟩
    rw [nI_clamp (by omega)]
    rw [fo_op2 k2] at h; exact h
  · rw [fo_op3 k3] at h; exact h
  · rw [fo_op45 (Or.inl k4)] at h; exact h
  · rw [fo_op45 (Or.inr k5)] at h; exact h
  · unfold fo_tk at ht
    rw [fo_op01 (by omega)] at h; exact h
theorem y_eo_loop {post : Int32 → Prop} {ar T : Nat → Nat} {c n : Nat} (hc : c ≤ 6) (hn : n ≤ 40) (ha : ∀ i, ar i ≤ 2)
    (hT : ∀ i, i < n → fo_tk c (T i) ∧ yDk i = nI (T i / 8) ∧ (T i / 8 = 2 → yDw i = nI (T i % 8))) {e : Nat}
    (h0 : e = 1000 → post (-1)) (h1 : e ≠ 1000 → post (nI e)) :
    ∀ d k i, i + d = n → k ≤ i + 1 → e = fe_en (fm_o ar T) d k i → wY_endOf_4 post ycc (nI n) ynd yln yal ygl yst ybl yhw yrn ywk (fo_n ar) yDk yDw yK yW yPl yRl yRc yHd yLf yRg ySz yLi ySk ySt yAr yGv yF yEn yPc yBd yWk yWw yOw yCt yOz yOp yKn (d + 1) (nI k) (nI i) := by
  intro d
  induction d with
  | zero =>
    intro k i hi hk he
    refine pk_le k 0 (fun z => ?_) (fun z => ?_)
    · have : k = 0 := by omega
      subst this
      rw [fe_en0] at he
      rw [← he]; exact h1 (by omega)
    · refine br_t (by rw [show i = n by omega]) (h0 ?_)
      obtain ⟨q, rfl⟩ : ∃ q, k = q + 1 := ⟨k - 1, by omega⟩
      exact he
  | succ d ih =>
    intro k i hi hk he
    refine pk_le k 0 (fun z => ?_) (fun z => ?_)
    · have : k = 0 := by omega
      subst this
      rw [fe_en0] at he
      rw [← he]; exact h1 (by omega)
    · obtain ⟨ht, hx, hw⟩ := hT i (by omega)
      refine pk_eq i n (fun w => by omega) (fun w => ⟨vp_in_nI (by omega) (by decide), vp_in_nI (by omega) (by decide), ?_⟩)
      rw [nI_clamp (by omega), hx]
      refine y_ops hc ht hw (nm_r (fo_ko z) (nm_r (nI_1 i) (ih _ _ (by omega) ?_ ?_)))
      · have := fo_op_le ha (T i); omega
      · obtain ⟨q, rfl⟩ : ∃ q, k = q + 1 := ⟨k - 1, by omega⟩
        exact he
theorem y_eo {post : Int32 → Prop} {ar T : Nat → Nat} {c n i : Nat} (hc : c ≤ 6) (hn : n ≤ 40) (ha : ∀ i, ar i ≤ 2) (hi : i ≤ n)
    (hT : ∀ i, i < n → fo_tk c (T i) ∧ yDk i = nI (T i / 8) ∧ (T i / 8 = 2 → yDw i = nI (T i % 8)))
    (h0 : fe_pe (fm_o ar T) n i = 1000 → post (-1)) (h1 : fe_pe (fm_o ar T) n i ≠ 1000 → post (nI (fe_pe (fm_o ar T) n i))) :
    wpY_endOf post (ycc, nI n, ynd, yln, yal, ygl, yst, ybl, yhw, yrn, ywk, fo_n ar, yDk, yDw, yK, yW, yPl, yRl, yRc, yHd, yLf, yRg, ySz, yLi, ySk, ySt, yAr, yGv, yF, yEn, yPc, yBd, yWk, yWw, yOw, yCt, yOz, yOp, yKn) (nI i) :=
  ⟨n - i + 1, y_eo_loop hc hn ha hT h0 h1 (n - i) 1 i (by omega) (by omega) rfl⟩
theorem y_vo_in {post : Int32 → Prop} {J : Int32 → Int32 → Prop} {T : Nat → Nat} {e i : Nat} {x1 x2 : Int32} (he : e ≤ 40)
    (hT : ∀ j, j < e → T j < 48 ∧ yDk j = nI (T j / 8)) (h0 : (∃ j, i ≤ j ∧ j < e ∧ T j / 8 = 1) → post (-1))
    (h1 : (∀ j, i ≤ j → j < e → T j / 8 ≠ 1) → J x2 (nI (i + 1))) :
    ∀ d j, j + d = e → i ≤ j → (∀ q, i ≤ q → q < j → T q / 8 ≠ 1) → wY_varsOf_89 post J x1 x2 (nI i) (nI e) ycc ydr ynd yln yal ygl yst ybl yhw yrn ywk yA yDk yDw yK yW yPl yRl yRc yHd yLf yRg ySz yLi ySk ySt yAr yGv yF yEn yPc yBd yWk yWw yOw yCt yOz yOp yKn (d + 1) (nI j) := by
  intro d
  induction d with
  | zero =>
    intro j hj _ h
    have : j = e := by omega
    subst this
    exact br_t (nI_le (Nat.le_refl _) (by omega)) (nm_r (nI_1 i) (h1 h))
  | succ d ih =>
    intro j hj hij h
    obtain ⟨h48, hx⟩ := hT j (by omega)
    refine br_f (nI_ge (by omega) (by omega)) ⟨vp_in_nI (by omega) (by decide), ?_⟩
    rw [nI_clamp (by omega), hx]
    refine pk_eq (T j / 8) 1 (fun k1 => h0 ⟨j, hij, by omega, k1⟩) (fun k1 => nm_r (nI_1 j) (ih (j + 1) (by omega) (by omega) ?_))
    intro q h2 h3
    by_cases e' : q = j
    · subst e'; exact k1
    · exact h q h2 (by omega)
theorem y_vo_loop {post : Int32 → Prop} {ar T : Nat → Nat} {c n e : Nat} (hc : c ≤ 6) (hn : n ≤ 40) (ha : ∀ i, ar i ≤ 2) (he : e ≤ n)
    (hT : ∀ i, i < n → fo_tk c (T i) ∧ yDk i = nI (T i / 8) ∧ ((T i / 8 = 1 ∨ T i / 8 = 2 ∨ T i / 8 = 5) → yDw i = nI (T i % 8)))
    (hpe : ∀ i, i < e → i < fe_pe (fm_o ar T) n i ∧ fe_pe (fm_o ar T) n i ≤ e)
    (h0 : fp_bad T (fe_pe (fm_o ar T) n) e → post (-1)) (h1 : ¬ fp_bad T (fe_pe (fm_o ar T) n) e → post (nI (fp_set T e))) :
    ∀ d i, i + d = e → (∀ q, q < i → T q / 8 ≠ 5 ∧ (T q / 8 = 1 → ∀ j, j < q → T j ≠ T q) ∧
        ((T q / 8 = 3 ∨ T q / 8 = 4) → ∀ j, q ≤ j → j < fe_pe (fm_o ar T) n q → T j / 8 ≠ 1)) →
      wY_varsOf_4 post (nI e) ycc (nI n) ynd yln yal ygl yst ybl yhw yrn ywk (fo_n ar) yDk yDw yK yW yPl yRl yRc yHd yLf yRg ySz yLi ySk ySt yAr yGv yF yEn yPc yBd yWk yWw yOw yCt yOz yOp yKn (d + 1) (nI (fp_set T i)) (nI i) := by
  intro d
  induction d with
  | zero =>
    intro i hi hg
    have : i = e := by omega
    subst this
    refine br_t (nI_le (Nat.le_refl _) (by omega)) (h1 ?_)
    rintro ⟨q, hq, k5 | ⟨k1, ⟨j, hj, g⟩ | ⟨j, hj, g1, g2⟩⟩⟩
    · exact (hg q hq).1 k5
    · exact (hg q hq).2.1 k1 j hj g
    · exact (hg j (by omega)).2.2 g1 q hj g2 k1
  | succ d ih =>
    intro i hi hg
    have hie : i < e := by omega
    obtain ⟨ht, hx, hw⟩ := hT i (by omega)
    have h48 := fo_tk_le ht
    have hpi := hpe i hie
    have step : (T i / 8 ≠ 5 ∧ (T i / 8 = 1 → ∀ j, j < i → T j ≠ T i) ∧ ((T i / 8 = 3 ∨ T i / 8 = 4) → ∀ j, i ≤ j → j < fe_pe (fm_o ar T) n i → T j / 8 ≠ 1)) →
        wY_varsOf_4 post (nI e) ycc (nI n) ynd yln yal ygl yst ybl yhw yrn ywk (fo_n ar) yDk yDw yK yW yPl yRl yRc yHd yLf yRg ySz yLi ySk ySt yAr yGv yF yEn yPc yBd yWk yWw yOw yCt yOz yOp yKn (d + 1) (nI (fp_set T (i + 1))) (nI (i + 1)) := by
      intro g
      refine ih (i + 1) (by omega) ?_
      intro q hq
      by_cases e' : q = i
      · subst e'; exact g
      · exact hg q (by omega)
    refine br_f (nI_ge (by omega) (by omega)) ⟨vp_in_nI (by omega) (by decide), nm_r (e' := nI (T i / 8)) (by rw [nI_clamp (by omega), hx]) ?_⟩
    refine pk_eq (T i / 8) 5 (fun k5 => h0 ⟨i, hie, Or.inl k5⟩) (fun k5 => ?_)
    have hs16 := fp_set_lt i (fun j hj => fp_v4 (hT j (by omega)).1)
    refine pk_eq (T i / 8) 1 (fun k1 => ⟨vp_in_nI (by omega) (by decide), ?_⟩) (fun k1 => br_f (fun z => k1 ((nI_eq (b := 1) (by omega) (by decide)).mp z)) ?_)
    · have v4 := fp_v4 ht k1
      have hbit := fp_set_bit v4 i (fun j hj => fp_v4 (hT j (by omega)).1)
      have hb := fp_by _ hs16 _ v4
      have hb2 := fp_bx _ hs16 _ v4
      have hs : fp_set T (i + 1) = fp_set T i ||| 2 ^ (T i % 8) := by simp only [fp_set]; rw [if_pos k1]
      rw [nI_clamp (by omega), hw (Or.inl k1)]
      refine br_c (fun w => ?_) (fun w => br_t (congrArg nI k1) ⟨vp_in_nI (by omega) (by decide), nm_r (e' := nI (fp_set T (i + 1))) ?_ ?_⟩)
      · obtain ⟨j, hj, g⟩ := hbit.mp (hb.1.mp w)
        exact h0 ⟨i, hie, Or.inr ⟨k1, Or.inl ⟨j, hj, by omega⟩⟩⟩
      · rw [nI_clamp (by omega), hw (Or.inl k1), hb2.2, hs]
      · refine pk_eq (T i / 8) 3 (fun k3 => by omega) (fun k3 => pk_eq (T i / 8) 4 (fun k4 => by omega) (fun k4 => nm_r (nI_1 i) (step ⟨k5, fun _ j hj g => ?_, fun h => by omega⟩)))
        exact w (hb.1.mpr (hbit.mpr ⟨j, hj, by omega⟩))
    · have hs : fp_set T (i + 1) = fp_set T i := by simp only [fp_set]; rw [if_neg k1]
      rw [hs] at step
      have hor : (T i / 8 = 3 ∨ T i / 8 = 4) → wY_varsOf_79 post (wY_varsOf_4 post (nI e) ycc (nI n) ynd yln yal ygl yst ybl yhw yrn ywk (fo_n ar) yDk yDw yK yW yPl yRl yRc yHd yLf yRg ySz yLi ySk ySt yAr yGv yF yEn yPc yBd yWk yWw yOw yCt yOz yOp yKn (d + 1)) (nI e) (nI (fp_set T i)) (nI i) ycc (nI n) ynd yln yal ygl yst ybl yhw yrn ywk (fo_n ar) yDk yDw yK yW yPl yRl yRc yHd yLf yRg ySz yLi ySk ySt yAr yGv yF yEn yPc yBd yWk yWw yOw yCt yOz yOp yKn := by
        intro hk
        refine y_eo (T := T) hc hn ha (by omega) (fun j hj => ⟨(hT j hj).1, (hT j hj).2.1, fun k => (hT j hj).2.2 (Or.inr (Or.inl k))⟩) (fun z => by omega) (fun z => ?_)
        refine ⟨fe_pe (fm_o ar T) n i - i + 1, y_vo_in (T := T) (by omega) (fun j hj => ⟨fo_tk_le (hT j (by omega)).1, (hT j (by omega)).2.1⟩) (fun g => ?_) (fun g => step ⟨k5, fun h => by omega, fun _ => g⟩) _ i (by omega) (Nat.le_refl _) (fun q a b => by omega)⟩
        obtain ⟨j, g1, g2, g3⟩ := g
        exact h0 ⟨j, by omega, Or.inr ⟨g3, Or.inr ⟨i, g1, hk, g2⟩⟩⟩
      exact pk_eq (T i / 8) 3 (fun k3 => hor (Or.inl k3)) (fun k3 => pk_eq (T i / 8) 4 (fun k4 => hor (Or.inr k4)) (fun k4 => nm_r (nI_1 i) (step ⟨k5, fun h => absurd h k1, fun h => by omega⟩)))
theorem y_vo {post : Int32 → Prop} {ar T : Nat → Nat} {c n e : Nat} (hc : c ≤ 6) (hn : n ≤ 40) (ha : ∀ i, ar i ≤ 2) (he : e ≤ n)
    (hT : ∀ i, i < n → fo_tk c (T i) ∧ yDk i = nI (T i / 8) ∧ ((T i / 8 = 1 ∨ T i / 8 = 2 ∨ T i / 8 = 5) → yDw i = nI (T i % 8)))
    (hpe : ∀ i, i < e → i < fe_pe (fm_o ar T) n i ∧ fe_pe (fm_o ar T) n i ≤ e)
    (h0 : fp_bad T (fe_pe (fm_o ar T) n) e → post (-1)) (h1 : ¬ fp_bad T (fe_pe (fm_o ar T) n) e → post (nI (fp_set T e))) :
    wpY_varsOf post (ycc, nI n, ynd, yln, yal, ygl, yst, ybl, yhw, yrn, ywk, fo_n ar, yDk, yDw, yK, yW, yPl, yRl, yRc, yHd, yLf, yRg, ySz, yLi, ySk, ySt, yAr, yGv, yF, yEn, yPc, yBd, yWk, yWw, yOw, yCt, yOz, yOp, yKn) (nI e) :=
  ⟨e + 1, y_vo_loop hc hn ha he hT hpe h0 h1 e 0 (by omega) (fun q hq => by omega)⟩
theorem y_ir_loop {post : Int32 → Prop} {T : Nat → Nat} {c n s fr : Nat} (hn : n ≤ 40) (hs : s < 16)
    (hT : ∀ i, i < n → fo_tk c (T i) ∧ yDk i = nI (T i / 8) ∧ ((T i / 8 = 1 ∨ T i / 8 = 2 ∨ T i / 8 = 5) → yDw i = nI (T i % 8)))
    (h0 : ¬ fp_res T s fr n → post 0) (h1 : fp_res T s fr n → post 1) :
    ∀ d i, i + d = n → fr ≤ i → fp_res T s fr i → wY_isResult_2 post (nI s) ycc (nI n) ynd yln yal ygl yst ybl yhw yrn ywk yA yDk yDw yK yW yPl yRl yRc yHd yLf yRg ySz yLi ySk ySt yAr yGv yF yEn yPc yBd yWk yWw yOw yCt yOz yOp yKn (d + 1) (nI i) := by
  intro d
  induction d with
  | zero =>
    intro i hi _ hr
    have : i = n := by omega
    subst this
    exact br_t (nI_le (Nat.le_refl _) (by omega)) (h1 hr)
  | succ d ih =>
    intro i hi hf hr
    obtain ⟨ht, hx, hw⟩ := hT i (by omega)
    have h48 := fo_tk_le ht
    have no : ¬ ((T i / 8 = 1 ∧ s.testBit (T i % 8) = true) ∨ T i / 8 = 2 ∨ T i / 8 = 5) → post 0 :=
      fun z => h0 (fun g => z (g i hf (by omega)))
    have yes : ((T i / 8 = 1 ∧ s.testBit (T i % 8) = true) ∨ T i / 8 = 2 ∨ T i / 8 = 5) → wY_isResult_2 post (nI s) ycc (nI n) ynd yln yal ygl yst ybl yhw yrn ywk yA yDk yDw yK yW yPl yRl yRc yHd yLf yRg ySz yLi ySk ySt yAr yGv yF yEn yPc yBd yWk yWw yOw yCt yOz yOp yKn (d + 1) (nI (i + 1)) := by
      intro g
      refine ih (i + 1) (by omega) (by omega) ?_
      intro j h2 h3
      by_cases e : j = i
      · subst e; exact g
      · exact hr j h2 (by omega)
    refine br_f (nI_ge (by omega) (by omega)) ⟨vp_in_nI (by omega) (by decide), nm_r (e' := nI (T i / 8)) (by rw [nI_clamp (by omega), hx]) ?_⟩
    refine pk_eq (T i / 8) 0 (fun k => no (by omega)) (fun k0 => pk_eq (T i / 8) 3 (fun k => no (by omega)) (fun k3 => pk_eq (T i / 8) 4 (fun k => no (by omega)) (fun k4 =>
      pk_eq (T i / 8) 1 (fun k1 => ⟨vp_in_nI (by omega) (by decide), ?_⟩) (fun k1 => nm_r (nI_1 i) (yes (by unfold fo_tk at ht; omega))))))
    rw [nI_clamp (by omega), hw (Or.inl k1)]
    have hb := fp_by s hs _ (fp_v4 ht k1)
    refine br_c (fun w => no ?_) (fun w => nm_r (nI_1 i) (yes (Or.inl ⟨k1, ?_⟩)))
    · rw [hb.2.mp w]
      rintro (⟨_, g⟩ | g | g)
      · cases g
      · omega
      · omega
    · cases hz : s.testBit (T i % 8) with
      | true => rfl
      | false => exact absurd (hb.2.mpr hz) w
theorem y_ir {post : Int32 → Prop} {T : Nat → Nat} {c n s fr : Nat} (hn : n ≤ 40) (hs : s < 16) (hf : fr ≤ n)
    (hT : ∀ i, i < n → fo_tk c (T i) ∧ yDk i = nI (T i / 8) ∧ ((T i / 8 = 1 ∨ T i / 8 = 2 ∨ T i / 8 = 5) → yDw i = nI (T i % 8)))
    (h0 : ¬ fp_res T s fr n → post 0) (h1 : fp_res T s fr n → post 1) : wpY_isResult post (ycc, nI n, ynd, yln, yal, ygl, yst, ybl, yhw, yrn, ywk, yA, yDk, yDw, yK, yW, yPl, yRl, yRc, yHd, yLf, yRg, ySz, yLi, ySk, ySt, yAr, yGv, yF, yEn, yPc, yBd, yWk, yWw, yOw, yCt, yOz, yOp, yKn) (nI fr) (nI s) :=
  ⟨n - fr + 1, y_ir_loop hn hs hT h0 h1 (n - fr) fr (by omega) (Nat.le_refl _) (fun i a b => by omega)⟩
end
end
section
/-- the first i cells copied -/
def fo_cp (A B : Nat → Int32) (i : Nat) : Nat → Int32 := fun q => if q < i then B q else A q
theorem fo_cp0 (A B : Nat → Int32) : fo_cp A B 0 = A := by
  funext q; unfold fo_cp; rw [if_neg (by omega)]
theorem fo_cpS (A B : Nat → Int32) (i : Nat) : upd (fo_cp A B i) i (B i) = fo_cp A B (i + 1) := by
  funext q
  unfold upd fo_cp
  by_cases e : q = i
  · subst e; rw [if_pos rfl, if_pos (by omega)]
  · rw [if_neg e]
    by_cases h : q < i
    · rw [if_pos h, if_pos (by omega)]
    · rw [if_neg h, if_neg (by omega)]
theorem fo_cpl {A B : Nat → Int32} {i q : Nat} (h : q < i) : fo_cp A B i q = B q := if_pos h
theorem fo_cpc {A B B' : Nat → Int32} {i : Nat} (h : ∀ q, q < i → B q = B' q) : fo_cp A B i = fo_cp A B' i := by
  funext q
  unfold fo_cp
  split
  · exact h q (by assumption)
  · rfl
theorem fR_know_n {ar : Nat → Nat} {rw1 rw2 : (Nat → Nat) → Nat → Nat} {c f : Nat} {yn yn' yc yz yo : Nat → Int32} (h : fR_know ar rw1 c f yn yc yz yo)
    (e : yn' f = yn f) (er : rw2 = rw1) : fR_know ar rw2 c f yn' yc yz yo := by
  subst er
  unfold fR_know
  rw [e]
  exact h
theorem fo_z1 : ¬ (1 : Int32) = 0 := by decide
theorem fo_vb0 : vp_nar .boolean 0 = 0 := rfl
theorem fo_vb1 : vp_nar .boolean 1 = 1 := rfl
section
variable {ycc ydr ynd yln yal ygl yst ybl yhw yrn ywk : Int32} {yA yDk yDw yK yW yPl yRl yRc yHd yLf yRg ySz yLi ySk ySt yAr yGv yF yEn yPc yBd yWk yWw yOw yCt yOz yOp yKn : Nat → Int32}
theorem y_con39 {post : Int32 → SY → Prop} (hp : ∀ K, (∀ q, q < 4 → K q = 0) → post (ycc - 1) (ycc, ydr, ynd, yln, yal, ygl, yst, ybl, yhw, yrn, ywk, yA, yDk, yDw, yK, yW, yPl, yRl, yRc, yHd, yLf, yRg, ySz, yLi, ySk, ySt, yAr, yGv, yF, yEn, yPc, yBd, yWk, yWw, yOw, yCt, yOz, yOp, K)) : ∀ d i K, i + d = 4 → (∀ q, q < i → K q = 0) →
    wY_con_39 post ycc ydr ynd yln yal ygl yst ybl yhw yrn ywk (d + 1) (nI i) yA yDk yDw yK yW yPl yRl yRc yHd yLf yRg ySz yLi ySk ySt yAr yGv yF yEn yPc yBd yWk yWw yOw yCt yOz yOp K := by
  intro d
  induction d with
  | zero =>
    intro i K hi h
    exact br_t (nI_le (a := 4) (by omega) (by omega)) (hp K (fun q hq => h q (by omega)))
  | succ d ih =>
    intro i K hi h
    refine br_f (nI_ge (b := 4) (by omega) (by omega)) ⟨vp_in_nI (by omega) (by decide), nm_r (e' := upd K i 0) (by rw [nI_clamp (by omega)]; rfl) (nm_r (nI_1 i) (ih (i + 1) _ (by omega) ?_))⟩
    intro q hq
    by_cases e : q = i
    · subst e; exact pk_us
    · rw [pk_un e]; exact h q (by omega)
end
section
variable {xcc xdr xas xss xnc xdp xoc xrs xrt xrf xrz : Int32} {xA xD xDe xUw xRc xP xPe xPl xO xOl xAr xS xSe xSn xF xNc xNf xNs xNz xCr xCn xCv xOp xRl xTa xUt : Nat → Int32}
theorem x_use19 {post : Int32 → SX → Prop} {g : Nat} {A : Nat → Int32} (hg : g ≤ 40) (hp : post xas (xcc, xdr, xas, xss, xnc, xdp, xoc, xrs, xrt, xrf, nI g, xA, xD, xDe, xUw, xRc, xP, xPe, xPl, xO, xOl, fo_cp A xRl g, xS, xSe, xSn, xF, xNc, xNf, xNs, xNz, xCr, xCn, xCv, xOp, xRl, xTa, xUt)) : ∀ d i B, i + d = g → B = fo_cp A xRl i →
    wX_use_19 post xcc xdr xas xss xnc xdp xoc xrs xrt xrf (nI g) (d + 1) (nI i) xA xD xDe xUw xRc xP xPe xPl xO xOl B xS xSe xSn xF xNc xNf xNs xNz xCr xCn xCv xOp xRl xTa xUt := by
  intro d
  induction d with
  | zero =>
    intro i B hi hB
    subst hB
    have : i = g := by omega
    subst this
    exact br_t (nI_le (Nat.le_refl _) (by omega)) hp
  | succ d ih =>
    intro i B hi hB
    subst hB
    refine br_f (nI_ge (by omega) (by omega)) ⟨vp_in_nI (by omega) (by decide), vp_in_nI (by omega) (by decide), nm_e (nm_r (nI_1 i) (ih (i + 1) _ (by omega) ?_))⟩
    rw [nI_clamp (by omega), fo_cpS]
end
section
variable {ycc ydr ynd yln yal ygl yst ybl yhw yrn ywk : Int32} {yA yDk yDw yK yW yPl yRl yRc yHd yLf yRg ySz yLi ySk ySt yAr yGv yF yEn yPc yBd yWk yWw yOw yCt yOz yOp yKn : Nat → Int32}
theorem y_use19 {post : Int32 → SY → Prop} {g : Nat} {A : Nat → Int32} (hg : g ≤ 40) (hp : post (nI g) (ycc, ydr, ynd, yln, yal, nI g, yst, ybl, yhw, yrn, ywk, yA, yDk, yDw, yK, yW, yPl, yRl, yRc, yHd, yLf, yRg, ySz, yLi, ySk, ySt, fo_cp A yGv g, yGv, yF, yEn, yPc, yBd, yWk, yWw, yOw, yCt, yOz, yOp, yKn)) : ∀ d i B, i + d = g → B = fo_cp A yGv i →
    wY_use_19 post ycc ydr ynd yln yal (nI g) yst ybl yhw yrn ywk (d + 1) (nI i) yA yDk yDw yK yW yPl yRl yRc yHd yLf yRg ySz yLi ySk ySt B yGv yF yEn yPc yBd yWk yWw yOw yCt yOz yOp yKn := by
  intro d
  induction d with
  | zero =>
    intro i B hi hB
    subst hB
    have : i = g := by omega
    subst this
    exact br_t (nI_le (Nat.le_refl _) (by omega)) hp
  | succ d ih =>
    intro i B hi hB
    subst hB
    refine br_f (nI_ge (by omega) (by omega)) ⟨vp_in_nI (by omega) (by decide), vp_in_nI (by omega) (by decide), nm_e (nm_r (nI_1 i) (ih (i + 1) _ (by omega) ?_))⟩
    rw [nI_clamp (by omega), fo_cpS]
end
end
section
theorem i_vc0 : wpX_init (fun u => wpY_init (fun v => i_Rel 0 u v)) := by
  refine ⟨0, 0, 0, 0, fun _ => 0, fun _ => 0, fun _ => 0, fun _ => 0, fun _ _ => 0, fun _ => [], fun _ => [], fun _ => 0, fun _ => 0, ⟨rfl, rfl, rfl, rfl, rfl, rfl, rfl, rfl, rfl, rfl, rfl, rfl, rfl, rfl, rfl, rfl, rfl, rfl, rfl⟩, ?_⟩
  refine ⟨by omega, by omega, fun _ => Nat.zero_le _, fun _ => Nat.zero_le _, fun i hi => absurd hi (Nat.not_lt_zero _), fun f i _ hi => absurd hi (Nat.not_lt_zero _), Or.inl rfl, Or.inl ⟨rfl, rfl, rfl⟩, fun f _ => Or.inl rfl⟩
end
section
theorem i_vc_con {k : Nat} {u : SX} {v : SY} (I : i_Rel k u v) (hk : k + 4 ≤ 2048) (v1 : Int32) : wpX_con (fun r u' => wpY_con (fun r' v' => r' = r ∧ i_Rel (k + 4) u' v') v v1) u v1 := by
  refine i_el (P := fun u v => wpX_con (fun r u' => wpY_con (fun r' v' => r' = r ∧ i_Rel (k + 4) u' v') v v1) u v1) I ?_
  intro c n m g ar rc pl T pat pre pos arg giv xss xnc xdp xoc xrs xrt xrf ynd yln yhw yrn ywk xD xDe xUw xP xPe xO xOl xAr xS xSe xSn xF xNc xNf xNs xNz xCr xCn xCv xOp xRl xTa xUt yDk yDw yK yW yHd yLf yRg ySz yLi ySk ySt yF yEn yPc yBd yWk yWw yOw yCt yOz yOp yKn G
  by_cases c6 : c = 6
  · subst c6
    exact br_t rfl (br_t rfl ⟨rfl, i_mk G⟩)
  · have hc := G.1
    have hc6 : ¬ nI c = 6 := fun z => c6 ((nI_eq (b := 6) (by omega) (by decide)).mp z)
    by_cases h0 : v1 < 0
    · exact br_f hc6 (br_t h0 (br_f hc6 (br_t h0 (br_t rfl ⟨rfl, i_mk G⟩))))
    · by_cases h2 : v1 ≤ 2
      · obtain ⟨a, ha, rfl⟩ := nI_of2 (n := 2) (M := 2) (by decide) h0 h2
        have eu : upd (fo_n ar) (nI c).toNatClampNeg (nI a) = fo_n (fo_u ar c a) := by rw [nI_clamp (by omega), fo_nu]
        refine br_f hc6 (br_f h0 (br_t h2 ⟨vp_in_nI (by omega) (by decide), nm_r eu (nm_r (nI_1 c) ?_)⟩))
        refine br_f hc6 (br_f h0 (br_f (nI_nlt (a := 2) (by omega) (by omega)) (br_f fo_z1 (nm_r (nI_1 c) ⟨vp_in_nI (by omega) (by decide), nm_r eu ⟨5, y_con39 (fun K hK => ⟨rfl, i_mk (c := c + 1) (n := n) (m := m) (g := g) (ar := fo_u ar c a) (rc := rc) (pl := pl) (T := T) (pat := pat) (pre := pre) (pos := pos) (arg := arg) (giv := giv) ?_⟩) 4 0 _ rfl (fun q hq => by omega)⟩⟩))))
        obtain ⟨g1, g2, g3, g4, g5, g6, g7, g8, g9⟩ := G
        refine ⟨by omega, g2, fun i => ?_, g4, fR_draft_up g5, fun f i hf hi => fR_row_up (g6 f i hf hi), g7.imp id fR_val_up, ?_, fun f hf => Or.inl (hK f hf)⟩
        · by_cases e : i = c
          · subst e; rw [fo_us]; exact ha
          · rw [fo_un e]; exact g3 i
        · rcases g8 with h | ⟨h1, h2, h3⟩ | h
          · exact Or.inl h
          · exact Or.inr (Or.inl ⟨h1, h2, fR_val_up h3⟩)
          · exact Or.inr (Or.inr h)
      · refine br_f hc6 (br_f h0 (br_f h2 (br_f hc6 (br_f h0 (br_t ?_ (br_t rfl ⟨rfl, i_mk G⟩))))))
        exact Int32.not_le.mp h2
end
section
theorem i_vc_drop {k : Nat} {u : SX} {v : SY} (I : i_Rel k u v) (hk : k + 4 ≤ 2048) (v1 : Int32) : wpX_drop (fun r u' => wpY_drop (fun r' v' => r' = r ∧ i_Rel (k + 4) u' v') v v1) u v1 := by
  refine i_el (P := fun u v => wpX_drop (fun r u' => wpY_drop (fun r' v' => r' = r ∧ i_Rel (k + 4) u' v') v v1) u v1) I ?_
  intro c n m g ar rc pl T pat pre pos arg giv xss xnc xdp xoc xrs xrt xrf ynd yln yhw yrn ywk xD xDe xUw xP xPe xO xOl xAr xS xSe xSn xF xNc xNf xNs xNz xCr xCn xCv xOp xRl xTa xUt yDk yDw yK yW yHd yLf yRg ySz yLi ySk ySt yF yEn yPc yBd yWk yWw yOw yCt yOz yOp yKn G
  rcases fo_f4 v1 with h | ⟨f, hf, rfl⟩
  · unfold wpX_drop
    refine x_isF0 h (br_t rfl ?_)
    unfold wpY_drop
    exact y_in0 h (br_t rfl ⟨rfl, i_mk G⟩)
  · have hi : vp_in (nI f) 4 := vp_in_nI hf (by decide)
    have eu : upd (fo_n rc) (nI f).toNatClampNeg 0 = fo_n (fo_u rc f 0) := by rw [nI_clamp (by omega)]; exact fo_nu rc f 0
    have ek : upd yKn (nI f).toNatClampNeg (vp_nar .boolean 0) = upd yKn f 0 := by rw [nI_clamp (by omega)]; rfl
    unfold wpX_drop
    refine x_isF1 hf (br_f fo_z1 ⟨hi, fun x ex => ⟨hi, nm_r eu ?_⟩⟩)
    unfold wpY_drop
    refine y_in1 hf (br_f fo_z1 ⟨hi, fun y ey => ⟨hi, nm_r eu ⟨hi, nm_r ek ⟨ey.trans ex.symm, i_mk (c := c) (n := n) (m := m) (g := g) (ar := ar) (rc := fo_u rc f 0) (pl := pl) (T := T) (pat := pat) (pre := pre) (pos := pos) (arg := arg) (giv := giv) ?_⟩⟩⟩⟩)
    obtain ⟨g1, g2, g3, g4, g5, g6, g7, g8, g9⟩ := G
    refine ⟨g1, g2, g3, fun f' => ?_, g5, fun f' i hf' hi' => ?_, g7, g8, fun f' hf' => ?_⟩
    · by_cases e : f' = f
      · subst e; rw [fo_us]; omega
      · rw [fo_un e]; exact g4 f'
    · by_cases e : f' = f
      · subst e; rw [fo_us] at hi'; omega
      · rw [fo_un e] at hi'; exact g6 f' i hf' hi'
    · by_cases e : f' = f
      · subst e; exact Or.inl pk_us
      · refine fR_know_n (g9 f' hf') (pk_un e) ?_
        funext S m'
        exact fm_row_congr S m' (fo_un e) (fun i _ => ⟨rfl, rfl⟩)
end
section
theorem i_vc_result {k : Nat} {u : SX} {v : SY} (I : i_Rel k u v) (hk : k + 4 ≤ 2048) (v1 : Int32) : wpX_result (fun r => wpY_result (fun r' => r' = r ∧ i_Rel (k + 4) u v) v v1) u v1 := by
  refine i_el (P := fun u v => wpX_result (fun r => wpY_result (fun r' => r' = r ∧ i_Rel (k + 4) u v) v v1) u v1) I ?_
  intro c n m g ar rc pl T pat pre pos arg giv xss xnc xdp xoc xrs xrt xrf ynd yln yhw yrn ywk xD xDe xUw xP xPe xO xOl xAr xS xSe xSn xF xNc xNf xNs xNz xCr xCn xCv xOp xRl xTa xUt yDk yDw yK yW yHd yLf yRg ySz yLi ySk ySt yF yEn yPc yBd yWk yWw yOw yCt yOz yOp yKn G
  have I' : i_Rel (k + 4) (nI c, nI n, nI m, xss, xnc, xdp, xoc, xrs, xrt, xrf, nI g, fo_n ar, xD, xDe, xUw, fo_n rc, xP, xPe, fo_n pl, xO, xOl, xAr, xS, xSe, xSn, xF, xNc, xNf, xNs, xNz, xCr, xCn, xCv, xOp, xRl, xTa, xUt) (nI c, nI n, ynd, yln, nI m, nI g, xrt, xrf, yhw, yrn, ywk, fo_n ar, yDk, yDw, yK, yW, fo_n pl, xOl, fo_n rc, yHd, yLf, yRg, ySz, yLi, ySk, ySt, xAr, xRl, yF, yEn, yPc, yBd, yWk, yWw, yOw, yCt, yOz, yOp, yKn) := i_mk G
  have bad : g = 0 → wpY_result (fun r' => r' = -1 ∧ i_Rel (k + 4) (nI c, nI n, nI m, xss, xnc, xdp, xoc, xrs, xrt, xrf, nI g, fo_n ar, xD, xDe, xUw, fo_n rc, xP, xPe, fo_n pl, xO, xOl, xAr, xS, xSe, xSn, xF, xNc, xNf, xNs, xNz, xCr, xCn, xCv, xOp, xRl, xTa, xUt) (nI c, nI n, ynd, yln, nI m, nI g, xrt, xrf, yhw, yrn, ywk, fo_n ar, yDk, yDw, yK, yW, fo_n pl, xOl, fo_n rc, yHd, yLf, yRg, ySz, yLi, ySk, ySt, xAr, xRl, yF, yEn, yPc, yBd, yWk, yWw, yOw, yCt, yOz, yOp, yKn)) (nI c, nI n, ynd, yln, nI m, nI g, xrt, xrf, yhw, yrn, ywk, fo_n ar, yDk, yDw, yK, yW, fo_n pl, xOl, fo_n rc, yHd, yLf, yRg, ySz, yLi, ySk, ySt, xAr, xRl, yF, yEn, yPc, yBd, yWk, yWw, yOw, yCt, yOz, yOp, yKn) v1 := fun hg => by
    subst hg
    by_cases h0 : v1 < 0
    · exact br_t h0 (br_t rfl ⟨rfl, I'⟩)
    · refine br_f h0 (br_t ?_ (br_t rfl ⟨rfl, I'⟩))
      obtain ⟨j, hj, rfl⟩ := nI_of h0
      exact Int32.lt_of_lt_of_le (by decide : nI 0 - 1 < 0) (nI_pos' hj)
  rcases G.2.2.2.2.2.2.2.1 with ⟨h1, h2, h3⟩ | ⟨h1, h2, h3⟩ | ⟨h1, h2, h3, h4⟩
  · exact br_f (by rw [h1]; decide) (bad h3)
  · obtain ⟨q1, q2, q3⟩ := h3
    refine br_t h2 ?_
    have q0 := q2.1
    have e1 : nI g - 1 = nI (g - 1) := fo_s1 q2.1
    by_cases h0 : v1 < 0
    · exact br_t h0 (br_t h0 (br_t rfl ⟨rfl, I'⟩))
    · obtain ⟨j, hj, rfl⟩ := nI_of h0
      refine br_f h0 ?_
      by_cases hg : j < g
      · have hi : vp_in (nI j) 40 := vp_in_nI (by omega) (by decide)
        refine br_t (nI_lt hg (by omega)) ⟨hi, br_f h0 (br_f ?_ (br_f fo_z1 ⟨hi, rfl, I'⟩))⟩
        rw [e1]; exact nI_nlt (by omega) (by omega)
      · refine br_f (nI_nlt (by omega) hj) (br_f h0 (br_t ?_ (br_t rfl ⟨rfl, I'⟩)))
        rw [e1]; exact nI_lt (by omega) hj
  · exact br_f h2 (bad h4)
end
section
theorem i_vc_ran {k : Nat} {u : SX} {v : SY} (I : i_Rel k u v) (hk : k + 4 ≤ 2048) (v1 : Int32) : wpX_ran (fun r => wpY_ran (fun r' => r' = r ∧ i_Rel (k + 4) u v) v v1) u v1 := by
  refine i_el (P := fun u v => wpX_ran (fun r => wpY_ran (fun r' => r' = r ∧ i_Rel (k + 4) u v) v v1) u v1) I ?_
  intro c n m g ar rc pl T pat pre pos arg giv xss xnc xdp xoc xrs xrt xrf ynd yln yhw yrn ywk xD xDe xUw xP xPe xO xOl xAr xS xSe xSn xF xNc xNf xNs xNz xCr xCn xCv xOp xRl xTa xUt yDk yDw yK yW yHd yLf yRg ySz yLi ySk ySt yF yEn yPc yBd yWk yWw yOw yCt yOz yOp yKn G
  have I' : i_Rel (k + 4) (nI c, nI n, nI m, xss, xnc, xdp, xoc, xrs, xrt, xrf, nI g, fo_n ar, xD, xDe, xUw, fo_n rc, xP, xPe, fo_n pl, xO, xOl, xAr, xS, xSe, xSn, xF, xNc, xNf, xNs, xNz, xCr, xCn, xCv, xOp, xRl, xTa, xUt) (nI c, nI n, ynd, yln, nI m, nI g, xrt, xrf, yhw, yrn, ywk, fo_n ar, yDk, yDw, yK, yW, fo_n pl, xOl, fo_n rc, yHd, yLf, yRg, ySz, yLi, ySk, ySt, xAr, xRl, yF, yEn, yPc, yBd, yWk, yWw, yOw, yCt, yOz, yOp, yKn) := i_mk G
  have go : yrn = 1 → xrs ≠ -2 → wpX_ran (fun r => wpY_ran (fun r' => r' = r ∧ i_Rel (k + 4) (nI c, nI n, nI m, xss, xnc, xdp, xoc, xrs, xrt, xrf, nI g, fo_n ar, xD, xDe, xUw, fo_n rc, xP, xPe, fo_n pl, xO, xOl, xAr, xS, xSe, xSn, xF, xNc, xNf, xNs, xNz, xCr, xCn, xCv, xOp, xRl, xTa, xUt) (nI c, nI n, ynd, yln, nI m, nI g, xrt, xrf, yhw, yrn, ywk, fo_n ar, yDk, yDw, yK, yW, fo_n pl, xOl, fo_n rc, yHd, yLf, yRg, ySz, yLi, ySk, ySt, xAr, xRl, yF, yEn, yPc, yBd, yWk, yWw, yOw, yCt, yOz, yOp, yKn)) (nI c, nI n, ynd, yln, nI m, nI g, xrt, xrf, yhw, yrn, ywk, fo_n ar, yDk, yDw, yK, yW, fo_n pl, xOl, fo_n rc, yHd, yLf, yRg, ySz, yLi, ySk, ySt, xAr, xRl, yF, yEn, yPc, yBd, yWk, yWw, yOw, yCt, yOz, yOp, yKn) v1) (nI c, nI n, nI m, xss, xnc, xdp, xoc, xrs, xrt, xrf, nI g, fo_n ar, xD, xDe, xUw, fo_n rc, xP, xPe, fo_n pl, xO, xOl, xAr, xS, xSe, xSn, xF, xNc, xNf, xNs, xNz, xCr, xCn, xCv, xOp, xRl, xTa, xUt) v1 := fun h1 h2 => by
    have h1' : ¬ yrn = 0 := by rw [h1]; decide
    by_cases h0 : v1 < 0
    · exact br_f h2 (br_t h0 (br_f h1' (br_t h0 (br_t rfl ⟨rfl, I'⟩))))
    · by_cases h3 : 2 < v1
      · exact br_f h2 (br_f h0 (br_t h3 (br_f h1' (br_f h0 (br_t h3 (br_t rfl ⟨rfl, I'⟩))))))
      · refine br_f h2 (br_f h0 (br_f h3 ?_))
        by_cases e0 : v1 = 0
        · exact br_t e0 (br_f h1' (br_f h0 (br_f h3 (br_f fo_z1 (br_t e0 ⟨rfl, I'⟩)))))
        · refine br_f e0 ?_
          by_cases e1 : v1 = 1
          · exact br_t e1 (br_f h1' (br_f h0 (br_f h3 (br_f fo_z1 (br_f e0 (br_t e1 ⟨rfl, I'⟩))))))
          · exact br_f e1 (br_c (fun e2 => br_f h1' (br_f h0 (br_f h3 (br_f fo_z1 (br_f e0 (br_f e1 ⟨rfl, I'⟩)))))) (fun _ => trivial))
  rcases G.2.2.2.2.2.2.2.1 with ⟨h1, h2, h3⟩ | ⟨h1, h2, h3⟩ | ⟨h1, h2, h3, h4⟩
  · exact br_t h1 (br_t h2 ⟨rfl, I'⟩)
  · exact go h1 (by rw [h2]; decide)
  · exact go h1 h3
end
section
theorem i_vc_use {k : Nat} {u : SX} {v : SY} (I : i_Rel k u v) (hk : k + 4 ≤ 2048) : wpX_use (fun r u' => wpY_use (fun r' v' => r' = r ∧ i_Rel (k + 4) u' v') v) u := by
  refine i_el (P := fun u v => wpX_use (fun r u' => wpY_use (fun r' v' => r' = r ∧ i_Rel (k + 4) u' v') v) u) I ?_
  intro c n m g ar rc pl T pat pre pos arg giv xss xnc xdp xoc xrs xrt xrf ynd yln yhw yrn ywk xD xDe xUw xP xPe xO xOl xAr xS xSe xSn xF xNc xNf xNs xNz xCr xCn xCv xOp xRl xTa xUt yDk yDw yK yW yHd yLf yRg ySz yLi ySk ySt yF yEn yPc yBd yWk yWw yOw yCt yOz yOp yKn G
  have bad : g = 0 → xrs ≠ 0 → wpX_use (fun r u' => wpY_use (fun r' v' => r' = r ∧ i_Rel (k + 4) u' v') (nI c, nI n, ynd, yln, nI m, nI g, xrt, xrf, yhw, yrn, ywk, fo_n ar, yDk, yDw, yK, yW, fo_n pl, xOl, fo_n rc, yHd, yLf, yRg, ySz, yLi, ySk, ySt, xAr, xRl, yF, yEn, yPc, yBd, yWk, yWw, yOw, yCt, yOz, yOp, yKn)) (nI c, nI n, nI m, xss, xnc, xdp, xoc, xrs, xrt, xrf, nI g, fo_n ar, xD, xDe, xUw, fo_n rc, xP, xPe, fo_n pl, xO, xOl, xAr, xS, xSe, xSn, xF, xNc, xNf, xNs, xNz, xCr, xCn, xCv, xOp, xRl, xTa, xUt) := fun hg h => by
    subst hg
    exact br_f h (br_t rfl ⟨rfl, i_mk G⟩)
  rcases G.2.2.2.2.2.2.2.1 with ⟨h1, h2, h3⟩ | ⟨h1, h2, h3⟩ | ⟨h1, h2, h3, h4⟩
  · exact bad h3 (by rw [h1]; decide)
  · have q1 := h3.1
    have q2 := h3.2.1.1
    refine br_t h2 ⟨g + 1, ?_⟩
    have base := fo_cp0 xAr xRl
    refine x_use19 q1 ?_ g 0 xAr (by omega) base.symm
    refine br_f (nI_ne0 q2 (by omega)) ⟨g + 1, y_use19 q1 ⟨rfl, i_mk (c := c) (n := n) (m := g) (g := g) (ar := ar) (rc := rc) (pl := pl) (T := T) (pat := pat) (pre := pre) (pos := pos) (arg := giv) (giv := giv) ?_⟩ g 0 xAr (by omega) base.symm⟩
    obtain ⟨g1, g2, g3, g4, g5, g6, g7, g8, g9⟩ := G
    refine ⟨g1, g2, g3, g4, g5, g6, Or.inr ⟨q1, h3.2.1, fun i hi => ⟨(h3.2.2 i hi).1, ?_⟩⟩, g8, g9⟩
    rw [fo_cpl hi]; exact (h3.2.2 i hi).2
  · exact bad h4 h2
end
section
/-- a token that may be appended -/
def fo_vt (c : Nat) (p q : Int32) (k v : Nat) : Prop := k < 6 ∧ p = nI k ∧ v < 8 ∧ ((k = 1 ∨ k = 5) → v < 4 ∧ q = nI v) ∧ (k = 2 → v < c ∧ q = nI v) ∧ ((k = 0 ∨ k = 3 ∨ k = 4) → v = 0)
section
variable {xcc xdr xas xss xnc xdp xoc xrs xrt xrf xrz : Int32} {xA xD xDe xUw xRc xP xPe xPl xO xOl xAr xS xSe xSn xF xNc xNf xNs xNz xCr xCn xCv xOp xRl xTa xUt : Nat → Int32}
theorem x_isT {post : Int32 → Prop} {c : Nat} {p q : Int32} (hc : c ≤ 6) (h1 : (∃ k v, fo_vt c p q k v) → post 1) (h0 : (¬ ∃ k v, fo_vt c p q k v) → post 0) :
    wpX_isToken post (nI c, xdr, xas, xss, xnc, xdp, xoc, xrs, xrt, xrf, xrz, xA, xD, xDe, xUw, xRc, xP, xPe, xPl, xO, xOl, xAr, xS, xSe, xSn, xF, xNc, xNf, xNs, xNz, xCr, xCn, xCv, xOp, xRl, xTa, xUt) p q := by
  rcases pk_ix p (n := 6) (by decide) with h | h | ⟨k, hk, rfl⟩
  · refine br_t h (h0 ?_)
    rintro ⟨k, v, a, rfl, _⟩
    exact nI_pos (by omega) h
  · have hn : ¬ p < 0 := fun z => absurd (Int32.lt_of_le_of_lt h z) (by decide)
    refine br_f hn (br_t ?_ (h0 ?_))
    · exact Int32.lt_of_lt_of_le (by decide : (5 : Int32) < nI 6) h
    · rintro ⟨k, v, a, rfl, _⟩
      exact nI_ge a (by decide) h
  · refine br_f (nI_pos (by omega)) (br_f (nI_nlt (a := 5) (by omega) (by decide)) ?_)
    have plain : (k = 0 ∨ k = 3 ∨ k = 4) → post 1 := fun z => h1 ⟨k, 0, hk, rfl, by omega, fun _ => by omega, fun _ => by omega, fun _ => rfl⟩
    have four : (k = 1 ∨ k = 5) → (∀ v, v < 4 → q = nI v → post 1) ∧ (fo_no4 q → post 0) := fun z =>
      ⟨fun v hv e => h1 ⟨k, v, hk, rfl, by omega, fun _ => ⟨hv, e⟩, fun _ => by omega, fun _ => by omega⟩, fun b => h0 (by
        rintro ⟨k', v, a, e, _, a1, _⟩
        have : k = k' := (nI_eq (by omega) (by omega)).mp e
        subst this
        obtain ⟨g1, rfl⟩ := a1 z
        rcases b with b | b
        · exact nI_pos (by omega) b
        · exact nI_ge g1 (by decide) b)⟩
    refine pk_eq k 0 (fun z => plain (by omega)) (fun z0 => pk_eq k 1 (fun z => ?_) (fun z1 => pk_eq k 2 (fun z => ?_) (fun z2 => pk_eq k 3 (fun z => plain (by omega)) (fun z3 => pk_eq k 4 (fun z => plain (by omega)) (fun z4 => pk_eq k 5 (fun z => ?_) (fun z5 => trivial))))))
    · obtain ⟨f1, f2⟩ := four (Or.inl z)
      rcases fo_f4 q with b | ⟨v, hv, rfl⟩
      · by_cases z' : q < 0
        · exact br_t z' (f2 b)
        · exact br_f z' (br_t (b.resolve_left z') (f2 b))
      · exact br_f (nI_pos (by omega)) (br_f (nI_ge (b := 4) hv (by decide)) (f1 v hv rfl))
    · have bad : (q < 0 ∨ nI c ≤ q) → post 0 := fun b => h0 (by
        rintro ⟨k', v, a, e, _, _, a1, _⟩
        have : k = k' := (nI_eq (by omega) (by omega)).mp e
        subst this
        obtain ⟨g1, rfl⟩ := a1 z
        rcases b with b | b
        · exact nI_pos (by omega) b
        · exact nI_ge g1 (by omega) b)
      rcases pk_ix q (n := c) (by omega) with b | b | ⟨v, hv, rfl⟩
      · exact br_t b (bad (Or.inl b))
      · by_cases z' : q < 0
        · exact br_t z' (bad (Or.inl z'))
        · exact br_f z' (br_t b (bad (Or.inr b)))
      · exact br_f (nI_pos (by omega)) (br_f (nI_ge hv (by omega)) (h1 ⟨k, v, hk, rfl, by omega, fun _ => by omega, fun _ => ⟨hv, rfl⟩, fun _ => by omega⟩))
    · obtain ⟨f1, f2⟩ := four (Or.inr z)
      rcases fo_f4 q with b | ⟨v, hv, rfl⟩
      · exact x_isF0 b ⟨rfl, f2 b⟩
      · exact x_isF1 hv ⟨rfl, f1 v hv rfl⟩
theorem x_tok39 {post : Int32 → SX → Prop} {c n k v : Nat} {q : Int32} (hn : n < 40) (h : fo_vt c (nI k) q k v) {z : Int32} (hz : (z = 0 ∧ (k = 1 ∨ k = 2 ∨ k = 5)) ∨ (z = 1 ∧ (k = 0 ∨ k = 3 ∨ k = 4)))
    (hp : post (nI (n + 1)) (xcc, nI (n + 1), xas, xss, xnc, xdp, xoc, xrs, xrt, xrf, xrz, xA, upd xD n (nI (8 * k + v)), xDe, xUw, xRc, xP, xPe, xPl, xO, xOl, xAr, xS, xSe, xSn, xF, xNc, xNf, xNs, xNz, xCr, xCn, xCv, xOp, xRl, xTa, xUt)) : wX_token_39 post (nI k) q z xcc (nI n) xas xss xnc xdp xoc xrs xrt xrf xrz xA xD xDe xUw xRc xP xPe xPl xO xOl xAr xS xSe xSn xF xNc xNf xNs xNz xCr xCn xCv xOp xRl xTa xUt := by
  obtain ⟨a1, _, a2, a3, a4, a5⟩ := h
  have key : ∀ w : Int32, w = nI v → wX_token_61 post w (nI k * 8) (nI n) xcc (nI n) xas xss xnc xdp xoc xrs xrt xrf xrz xA xD xDe xUw xRc xP xPe xPl xO xOl xAr xS xSe xSn xF xNc xNf xNs xNz xCr xCn xCv xOp xRl xTa xUt := by
    intro w hw
    refine ⟨vp_in_nI hn (by decide), nm_r ?_ (nm_r (nI_1 n) hp)⟩
    rw [nI_clamp (by omega), hw]
    refine congrArg (upd xD n) ?_
    rw [show nI k * 8 = nI (k * 8) from pk_mul k 8, nI_add, Nat.mul_comm]
  rcases hz with ⟨rfl, hk⟩ | ⟨rfl, hk⟩
  · refine br_t rfl (key q ?_)
    rcases hk with e | e | e
    · exact (a3 (Or.inl e)).2
    · exact (a4 e).2
    · exact (a3 (Or.inr e)).2
  · refine br_f fo_z1 (key 0 ?_)
    rw [a5 hk]; rfl
end
section
variable {ycc ydr ynd yln yal ygl yst ybl yhw yrn ywk : Int32} {yA yDk yDw yK yW yPl yRl yRc yHd yLf yRg ySz yLi ySk ySt yAr yGv yF yEn yPc yBd yWk yWw yOw yCt yOz yOp yKn : Nat → Int32}
theorem y_tok39 {post : Int32 → SY → Prop} {n : Nat} {p q z : Int32} (hn : n ≤ 40) (h0 : (n = 40 ∨ z = 0 ∨ ¬ ∃ k, k < 6 ∧ p = nI k) → post (-1) (ycc, nI n, ynd, yln, yal, ygl, yst, ybl, yhw, yrn, ywk, yA, yDk, yDw, yK, yW, yPl, yRl, yRc, yHd, yLf, yRg, ySz, yLi, ySk, ySt, yAr, yGv, yF, yEn, yPc, yBd, yWk, yWw, yOw, yCt, yOz, yOp, yKn))
    (h1 : ∀ k, k < 6 → p = nI k → ¬ z = 0 → n < 40 → post (nI (n + 1)) (ycc, nI (n + 1), ynd, yln, yal, ygl, yst, ybl, yhw, yrn, ywk, yA, upd yDk n p, upd yDw n q, yK, yW, yPl, yRl, yRc, yHd, yLf, yRg, ySz, yLi, ySk, ySt, yAr, yGv, yF, yEn, yPc, yBd, yWk, yWw, yOw, yCt, yOz, yOp, yKn)) : wY_token_39 post p q z ycc (nI n) ynd yln yal ygl yst ybl yhw yrn ywk yA yDk yDw yK yW yPl yRl yRc yHd yLf yRg ySz yLi ySk ySt yAr yGv yF yEn yPc yBd yWk yWw yOw yCt yOz yOp yKn := by
  rcases pk_ix p (n := 6) (by decide) with h | h | ⟨k, hk, rfl⟩
  · refine br_t h (br_t rfl (h0 (Or.inr (Or.inr ?_))))
    rintro ⟨k, a, rfl⟩
    exact nI_pos (by omega) h
  · have hn : ¬ p < 0 := fun z => absurd (Int32.lt_of_le_of_lt h z) (by decide)
    refine br_f hn (br_t (Int32.lt_of_lt_of_le (by decide : (5 : Int32) < nI 6) h) (br_t rfl (h0 (Or.inr (Or.inr ?_)))))
    rintro ⟨k, a, rfl⟩
    exact nI_ge a (by decide) h
  · refine br_f (nI_pos (by omega)) (br_f (nI_nlt (a := 5) (by omega) (by decide)) (br_f fo_z1 (br_c (fun z => h0 (Or.inr (Or.inl z))) (fun z0 => pk_eq n 40 (fun z => h0 (Or.inl z)) (fun z1 => ⟨vp_in_nI (by omega) (by decide), nm_r ?_ ⟨vp_in_nI (by omega) (by decide), nm_r ?_ (nm_r (nI_1 n) (h1 k hk rfl z0 (by omega)))⟩⟩)))))
    · rw [nI_clamp (by omega)]
    · rw [nI_clamp (by omega)]
theorem y_tok {post : Int32 → SY → Prop} {c n : Nat} {p q : Int32} (hc : c ≤ 6) (hn : n ≤ 40) (h0 : (n = 40 ∨ ¬ ∃ k v, fo_vt c p q k v) → post (-1) (nI c, nI n, ynd, yln, yal, ygl, yst, ybl, yhw, yrn, ywk, yA, yDk, yDw, yK, yW, yPl, yRl, yRc, yHd, yLf, yRg, ySz, yLi, ySk, ySt, yAr, yGv, yF, yEn, yPc, yBd, yWk, yWw, yOw, yCt, yOz, yOp, yKn))
    (h1 : n < 40 → (∃ k v, fo_vt c p q k v) → post (nI (n + 1)) (nI c, nI (n + 1), ynd, yln, yal, ygl, yst, ybl, yhw, yrn, ywk, yA, upd yDk n p, upd yDw n q, yK, yW, yPl, yRl, yRc, yHd, yLf, yRg, ySz, yLi, ySk, ySt, yAr, yGv, yF, yEn, yPc, yBd, yWk, yWw, yOw, yCt, yOz, yOp, yKn)) : wpY_token post (nI c, nI n, ynd, yln, yal, ygl, yst, ybl, yhw, yrn, ywk, yA, yDk, yDw, yK, yW, yPl, yRl, yRc, yHd, yLf, yRg, ySz, yLi, ySk, ySt, yAr, yGv, yF, yEn, yPc, yBd, yWk, yWw, yOw, yCt, yOz, yOp, yKn) p q := by
  have good : ∀ z : Int32, (z = 0 → ¬ ∃ k v, fo_vt c p q k v) → (∀ k, k < 6 → p = nI k → ¬ z = 0 → ∃ v, fo_vt c p q k v) → wY_token_39 post p q z (nI c) (nI n) ynd yln yal ygl yst ybl yhw yrn ywk yA yDk yDw yK yW yPl yRl yRc yHd yLf yRg ySz yLi ySk ySt yAr yGv yF yEn yPc yBd yWk yWw yOw yCt yOz yOp yKn := by
    intro z hz hg
    refine y_tok39 hn (fun h => h0 ?_) (fun k hk e hz h => h1 h ⟨k, hg k hk e hz⟩)
    rcases h with h | h | h
    · exact Or.inl h
    · exact Or.inr (hz h)
    · exact Or.inr (fun ⟨k, v, a⟩ => h ⟨k, a.1, a.2.1⟩)
  have ne : ∀ a b : Nat, a < 6 → b < 6 → nI a = nI b → a = b := fun a b ha hb e => (nI_eq (by omega) (by omega)).mp e
  have four : (p = nI 1 ∨ p = nI 5) → wY_token_10 post p q (nI c) (nI n) ynd yln yal ygl yst ybl yhw yrn ywk yA yDk yDw yK yW yPl yRl yRc yHd yLf yRg ySz yLi ySk ySt yAr yGv yF yEn yPc yBd yWk yWw yOw yCt yOz yOp yKn := by
    intro hp
    have hk : ∀ k, k < 6 → p = nI k → k = 1 ∨ k = 5 := fun k h e => by
      rcases hp with g | g
      · exact Or.inl (ne k 1 h (by decide) (e.symm.trans g))
      · exact Or.inr (ne k 5 h (by decide) (e.symm.trans g))
    rcases fo_f4 q with b | ⟨v, hv, rfl⟩
    · refine y_in0 b (good 0 (fun _ => ?_) (fun k _ _ z => absurd rfl z))
      rintro ⟨k, v, a, e, _, a1, _⟩
      obtain ⟨g1, rfl⟩ := a1 (hk k a e)
      rcases b with b | b
      · exact nI_pos (by omega) b
      · exact nI_ge g1 (by decide) b
    · refine y_in1 hv (good 1 (fun z => absurd z fo_z1) (fun k h e _ => ⟨v, h, e, by omega, fun _ => ⟨hv, rfl⟩, fun z => ?_, fun z => ?_⟩))
      · have := hk k h e; omega
      · have := hk k h e; omega
  refine br_c (fun z => four (Or.inl z)) (fun z1 => br_c (fun z => four (Or.inr z)) (fun z5 => br_c (fun z2 => ?_) (fun z2 => ?_)))
  · have hk : ∀ k, k < 6 → p = nI k → k = 2 := fun k h e => ne k 2 h (by decide) (e.symm.trans z2)
    have bad : (q < 0 ∨ nI c ≤ q) → ¬ ∃ k v, fo_vt c p q k v := by
      rintro b ⟨k, v, a, e, _, _, a1, _⟩
      obtain ⟨g1, rfl⟩ := a1 (hk k a e)
      rcases b with b | b
      · exact nI_pos (by omega) b
      · exact nI_ge g1 (by omega) b
    rcases pk_ix q (n := c) (by omega) with b | b | ⟨v, hv, rfl⟩
    · exact br_t b (good 0 (fun _ => bad (Or.inl b)) (fun _ _ _ z => absurd rfl z))
    · by_cases z' : q < 0
      · exact br_t z' (good 0 (fun _ => bad (Or.inl z')) (fun _ _ _ z => absurd rfl z))
      · refine br_f z' (br_t ?_ (good 0 (fun _ => bad (Or.inr b)) (fun _ _ _ z => absurd rfl z)))
        obtain ⟨j, hj, rfl⟩ := nI_of z'
        have hcj := (nI_leI (by omega) hj).mp b
        by_cases c0 : c = 0
        · subst c0
          exact Int32.lt_of_lt_of_le (by decide : nI 0 - 1 < 0) (nI_pos' hj)
        · rw [fo_s1 (by omega)]; exact nI_lt (by omega) hj
    · refine br_f (nI_pos (by omega)) (br_f ?_ (good 1 (fun z => absurd z fo_z1) (fun k h e _ => ⟨v, h, e, by omega, fun z => ?_, fun _ => ⟨hv, rfl⟩, fun z => ?_⟩)))
      · rw [fo_s1 (by omega)]; exact nI_nlt (by omega) (by omega)
      · have := hk k h e; omega
      · have := hk k h e; omega
  · refine good 1 (fun z => absurd z fo_z1) (fun k h e _ => ⟨0, h, e, by omega, fun z => ?_, fun z => ?_, fun _ => rfl⟩)
    · rcases z with z | z <;> subst z
      · exact absurd e z1
      · exact absurd e z5
    · subst z; exact absurd e z2
end
theorem fR_draft_new {c n k v : Nat} {T : Nat → Nat} {xd yk yw : Nat → Int32} {q : Int32} (h : fR_draft c n T xd yk yw) (hv : fo_vt c (nI k) q k v) :
    fR_draft c (n + 1) (fo_u T n (8 * k + v)) (upd xd n (nI (8 * k + v))) (upd yk n (nI k)) (upd yw n q) := by
  obtain ⟨a1, _, a2, a3, a4, a5⟩ := hv
  intro i hi
  by_cases e : i = n
  · subst e
    rw [fo_us, pk_us, pk_us, pk_us]
    have e1 : (8 * k + v) / 8 = k := by omega
    have e2 : (8 * k + v) % 8 = v := by omega
    refine ⟨?_, rfl, by rw [e1], fun z => ?_⟩
    · unfold fo_tk
      rw [e1, e2]
      by_cases k15 : k = 1 ∨ k = 5
      · have := (a3 k15).1; omega
      · by_cases k2 : k = 2
        · have := (a4 k2).1; omega
        · omega
    · rw [e1] at z; rw [e2]
      rcases z with z | z | z
      · exact (a3 (Or.inl z)).2
      · exact (a4 z).2
      · exact (a3 (Or.inr z)).2
  · rw [fo_un e, pk_un e, pk_un e, pk_un e]
    exact h i (by omega)
theorem i_vc_token {k : Nat} {u : SX} {v : SY} (I : i_Rel k u v) (hk : k + 4 ≤ 2048) (v1 : Int32) (v2 : Int32) : wpX_token (fun r u' => wpY_token (fun r' v' => r' = r ∧ i_Rel (k + 4) u' v') v v1 v2) u v1 v2 := by
  refine i_el (P := fun u v => wpX_token (fun r u' => wpY_token (fun r' v' => r' = r ∧ i_Rel (k + 4) u' v') v v1 v2) u v1 v2) I ?_
  intro c n m g ar rc pl T pat pre pos arg giv xss xnc xdp xoc xrs xrt xrf ynd yln yhw yrn ywk xD xDe xUw xP xPe xO xOl xAr xS xSe xSn xF xNc xNf xNs xNz xCr xCn xCv xOp xRl xTa xUt yDk yDw yK yW yHd yLf yRg ySz yLi ySk ySt yF yEn yPc yBd yWk yWw yOw yCt yOz yOp yKn G
  have hc := G.1
  have hn := G.2.1
  by_cases n40 : n = 40
  · subst n40
    exact br_t rfl (y_tok hc hn (fun _ => ⟨rfl, i_mk G⟩) (fun h => by omega))
  · refine br_f (fun z => n40 ((nI_eq (b := 40) (by omega) (by decide)).mp z)) (x_isT hc (fun hv => br_f fo_z1 ?_) (fun hv => br_t rfl (y_tok hc hn (fun _ => ⟨rfl, i_mk G⟩) (fun _ h => absurd h hv))))
    obtain ⟨kd, w, hv⟩ := hv
    obtain ⟨a1, rfl, a2, a3, a4, a5⟩ := id hv
    have G' : fR_G c (n + 1) m g ar rc pl (fo_u T n (8 * kd + w)) pat pre pos arg giv xrs yrn (upd xD n (nI (8 * kd + w))) xP xPe xO xOl xAr xRl (upd yDk n (nI kd)) (upd yDw n v2) yK yW yCt yOz yOp yKn := by
      obtain ⟨g1, g2, g3, g4, g5, g6⟩ := G
      exact ⟨g1, by omega, g3, g4, fR_draft_new g5 hv, g6⟩
    have Y1 : wpY_token (fun r' v' => r' = nI (n + 1) ∧ i_Rel (k + 4) (nI c, nI (n + 1), nI m, xss, xnc, xdp, xoc, xrs, xrt, xrf, nI g, fo_n ar, upd xD n (nI (8 * kd + w)), xDe, xUw, fo_n rc, xP, xPe, fo_n pl, xO, xOl, xAr, xS, xSe, xSn, xF, xNc, xNf, xNs, xNz, xCr, xCn, xCv, xOp, xRl, xTa, xUt) v') (nI c, nI n, ynd, yln, nI m, nI g, xrt, xrf, yhw, yrn, ywk, fo_n ar, yDk, yDw, yK, yW, fo_n pl, xOl, fo_n rc, yHd, yLf, yRg, ySz, yLi, ySk, ySt, xAr, xRl, yF, yEn, yPc, yBd, yWk, yWw, yOw, yCt, yOz, yOp, yKn) (nI kd) v2 := y_tok hc hn (fun h => absurd ⟨kd, w, hv⟩ (h.resolve_left n40)) (fun _ _ => ⟨rfl, i_mk G'⟩)
    refine pk_eq kd 0 (fun z => x_tok39 (by omega) hv (Or.inr ⟨rfl, by omega⟩) Y1) (fun z0 => pk_eq kd 3 (fun z => x_tok39 (by omega) hv (Or.inr ⟨rfl, by omega⟩) Y1) (fun z3 =>
      pk_eq kd 4 (fun z => x_tok39 (by omega) hv (Or.inr ⟨rfl, by omega⟩) Y1) (fun z4 => x_tok39 (by omega) hv (Or.inl ⟨rfl, by omega⟩) Y1)))
end
section
/-- the draft is a value -/
def fo_dv (ar T : Nat → Nat) (n : Nat) : Prop := (∀ i, i < n → T i / 8 = 2) ∧ 0 < n ∧ fe_pe (fm_o ar T) n 0 = n
section
variable {xcc xdr xas xss xnc xdp xoc xrs xrt xrf xrz : Int32} {xA xD xDe xUw xRc xP xPe xPl xO xOl xAr xS xSe xSn xF xNc xNf xNs xNz xCr xCn xCv xOp xRl xTa xUt : Nat → Int32}
theorem x_idv_loop {post : Int32 → SX → Prop} {ar T : Nat → Nat} {c n : Nat} (hc : c ≤ 6) (hn : n ≤ 40) (ha : ∀ i, ar i ≤ 2)
    (hT : ∀ i, i < n → fo_tk c (T i) ∧ xD i = nI (T i)) (h0 : ¬ fo_dv ar T n → ∀ D, post 0 (xcc, nI n, xas, xss, xnc, xdp, xoc, xrs, xrt, xrf, xrz, fo_n ar, xD, D, xUw, xRc, xP, xPe, xPl, xO, xOl, xAr, xS, xSe, xSn, xF, xNc, xNf, xNs, xNz, xCr, xCn, xCv, xOp, xRl, xTa, xUt))
    (h1 : fo_dv ar T n → ∀ D, post 1 (xcc, nI n, xas, xss, xnc, xdp, xoc, xrs, xrt, xrf, xrz, fo_n ar, xD, D, xUw, xRc, xP, xPe, xPl, xO, xOl, xAr, xS, xSe, xSn, xF, xNc, xNf, xNs, xNz, xCr, xCn, xCv, xOp, xRl, xTa, xUt)) :
    ∀ d i, i + d = n → (∀ j, j < i → T j / 8 = 2) → wX_isDraftValue_2 post xcc (nI n) xas xss xnc xdp xoc xrs xrt xrf xrz (fo_n ar) xD xDe xUw xRc xP xPe xPl xO xOl xAr xS xSe xSn xF xNc xNf xNs xNz xCr xCn xCv xOp xRl xTa xUt (d + 1) (nI i) := by
  intro d
  induction d with
  | zero =>
    intro i hi h
    have : i = n := by omega
    subst this
    refine br_t (nI_le (Nat.le_refl _) (by omega)) (x_md hc hn ha hT (fun D hD => ?_))
    refine pk_le i 0 (fun z => h0 (fun g => by have := g.2.1; omega) D) (fun z => ?_)
    rw [hD 0 z]
    have hr := fe_pe_rng (fm_o ar T) (n := i) (i := 0) (by omega)
    exact pk_eq (fe_pe (fm_o ar T) i 0) i (fun w => h1 ⟨h, z, w⟩ D) (fun w => h0 (fun g => w g.2.2) D)
  | succ d ih =>
    intro i hi h
    obtain ⟨ht, hx⟩ := hT i (by omega)
    have h48 := fo_tk_le ht
    refine br_f (nI_ge (by omega) (by omega)) ⟨vp_in_nI (by omega) (by decide), by decide, ?_⟩
    rw [nI_clamp (by omega), hx, fo_d8 (by omega)]
    refine pk_eq (T i / 8) 2 (fun k2 => nm_r (nI_1 i) (ih (i + 1) (by omega) ?_)) (fun k2 => h0 (fun g => k2 (g.1 i (by omega))) xDe)
    intro j hj
    by_cases e : j = i
    · subst e; exact k2
    · exact h j (by omega)
theorem x_give19 {post : Int32 → SX → Prop} {T : Nat → Nat} {n : Nat} {A : Nat → Int32} {b : Int32} (hn : n ≤ 40) (hb : ¬ b = 0)
    (hT : ∀ i, i < n → T i < 48 ∧ xD i = nI (T i)) (hp : post xas (xcc, 0, xas, xss, xnc, xdp, xoc, xrs, xrt, xrf, xrz, xA, xD, xDe, xUw, xRc, xP, xPe, xPl, xO, xOl, fo_cp A (fo_n fun q => T q % 8) n, xS, xSe, xSn, xF, xNc, xNf, xNs, xNz, xCr, xCn, xCv, xOp, xRl, xTa, xUt)) :
    ∀ d i B, i + d = n → B = fo_cp A (fo_n fun q => T q % 8) i → wX_give_19 post b xcc (nI n) xas xss xnc xdp xoc xrs xrt xrf xrz (d + 1) (nI i) xA xD xDe xUw xRc xP xPe xPl xO xOl B xS xSe xSn xF xNc xNf xNs xNz xCr xCn xCv xOp xRl xTa xUt := by
  intro d
  induction d with
  | zero =>
    intro i B hi hB
    subst hB
    have : i = n := by omega
    subst this
    exact br_t (nI_le (Nat.le_refl _) (by omega)) (br_f hb hp)
  | succ d ih =>
    intro i B hi hB
    subst hB
    obtain ⟨h48, hx⟩ := hT i (by omega)
    refine br_f (nI_ge (by omega) (by omega)) ⟨vp_in_nI (by omega) (by decide), by decide, vp_in_nI (by omega) (by decide), nm_e (nm_r (nI_1 i) (ih (i + 1) _ (by omega) ?_))⟩
    rw [nI_clamp (by omega), hx, fo_r8 (by omega), ← fo_cpS]
    rfl
theorem x_give {post : Int32 → SX → Prop} {ar T : Nat → Nat} {c n : Nat} (hc : c ≤ 6) (hn : n ≤ 40) (ha : ∀ i, ar i ≤ 2)
    (hT : ∀ i, i < n → fo_tk c (T i) ∧ xD i = nI (T i)) (h0 : ¬ fo_dv ar T n → ∀ D, post (-2) (xcc, 0, xas, xss, xnc, xdp, xoc, xrs, xrt, xrf, xrz, fo_n ar, xD, D, xUw, xRc, xP, xPe, xPl, xO, xOl, xAr, xS, xSe, xSn, xF, xNc, xNf, xNs, xNz, xCr, xCn, xCv, xOp, xRl, xTa, xUt))
    (h1 : fo_dv ar T n → ∀ D, post (nI n) (xcc, 0, nI n, xss, xnc, xdp, xoc, xrs, xrt, xrf, xrz, fo_n ar, xD, D, xUw, xRc, xP, xPe, xPl, xO, xOl, fo_cp xAr (fo_n fun q => T q % 8) n, xS, xSe, xSn, xF, xNc, xNf, xNs, xNz, xCr, xCn, xCv, xOp, xRl, xTa, xUt)) :
    wpX_give post (xcc, nI n, xas, xss, xnc, xdp, xoc, xrs, xrt, xrf, xrz, fo_n ar, xD, xDe, xUw, xRc, xP, xPe, xPl, xO, xOl, xAr, xS, xSe, xSn, xF, xNc, xNf, xNs, xNz, xCr, xCn, xCv, xOp, xRl, xTa, xUt) := by
  refine ⟨n + 1, x_idv_loop hc hn ha hT (fun g D => br_t rfl (br_t rfl (h0 g D))) (fun g D => br_f fo_z1 ⟨n + 1, ?_⟩) n 0 (by omega) (fun j hj => by omega)⟩
  exact x_give19 hn fo_z1 (fun i hi => ⟨fo_tk_le (hT i hi).1, (hT i hi).2⟩) (h1 g D) n 0 xAr (by omega) (fo_cp0 _ _).symm
end
section
variable {ycc ydr ynd yln yal ygl yst ybl yhw yrn ywk : Int32} {yA yDk yDw yK yW yPl yRl yRc yHd yLf yRg ySz yLi ySk ySt yAr yGv yF yEn yPc yBd yWk yWw yOw yCt yOz yOp yKn : Nat → Int32}
theorem y_give77 {post : Int32 → SY → Prop} {n : Nat} {A : Nat → Int32} (hn : n ≤ 40) (hp : post (nI n) (ycc, ydr, ynd, yln, yal, ygl, yst, ybl, yhw, yrn, ywk, yA, yDk, yDw, yK, yW, yPl, yRl, yRc, yHd, yLf, yRg, ySz, yLi, ySk, ySt, fo_cp A yDw n, yGv, yF, yEn, yPc, yBd, yWk, yWw, yOw, yCt, yOz, yOp, yKn)) :
    ∀ d i B, i + d = n → B = fo_cp A yDw i → wY_give_77 post (nI n) ycc ydr ynd yln yal ygl yst ybl yhw yrn ywk (d + 1) (nI i) yA yDk yDw yK yW yPl yRl yRc yHd yLf yRg ySz yLi ySk ySt B yGv yF yEn yPc yBd yWk yWw yOw yCt yOz yOp yKn := by
  intro d
  induction d with
  | zero =>
    intro i B hi hB
    subst hB
    have : i = n := by omega
    subst this
    exact br_t (nI_le (Nat.le_refl _) (by omega)) hp
  | succ d ih =>
    intro i B hi hB
    subst hB
    refine br_f (nI_ge (by omega) (by omega)) ⟨vp_in_nI (by omega) (by decide), vp_in_nI (by omega) (by decide), nm_e (nm_r (nI_1 i) (ih (i + 1) _ (by omega) ?_))⟩
    rw [nI_clamp (by omega), fo_cpS]
theorem y_give26 {post : Int32 → SY → Prop} {T : Nat → Nat} {n : Nat} {x1 : Int32} {b0 : Prop} (hn : n ≤ 40)
    (hT : ∀ i, i < n → T i < 48 ∧ yDk i = nI (T i / 8)) (hx : b0 → x1 = nI n) (h0 : ¬ (b0 ∧ ∀ i, i < n → T i / 8 = 2) → post (-2) (ycc, 0, ynd, yln, yal, ygl, yst, ybl, yhw, yrn, ywk, yA, yDk, yDw, yK, yW, yPl, yRl, yRc, yHd, yLf, yRg, ySz, yLi, ySk, ySt, yAr, yGv, yF, yEn, yPc, yBd, yWk, yWw, yOw, yCt, yOz, yOp, yKn))
    (h1 : b0 → (∀ i, i < n → T i / 8 = 2) → post (nI n) (ycc, 0, ynd, yln, nI n, ygl, yst, ybl, yhw, yrn, ywk, yA, yDk, yDw, yK, yW, yPl, yRl, yRc, yHd, yLf, yRg, ySz, yLi, ySk, ySt, fo_cp yAr yDw n, yGv, yF, yEn, yPc, yBd, yWk, yWw, yOw, yCt, yOz, yOp, yKn)) :
    ∀ d i b, i + d = n → (b = true ↔ b0 ∧ ∀ j, j < i → T j / 8 = 2) → wY_give_26 post x1 ycc (nI n) ynd yln yal ygl yst ybl yhw yrn ywk yA yDk yDw yK yW yPl yRl yRc yHd yLf yRg ySz yLi ySk ySt yAr yGv yF yEn yPc yBd yWk yWw yOw yCt yOz yOp yKn (d + 1) (fo_b b) (nI i) := by
  intro d
  induction d with
  | zero =>
    intro i b hi hb
    have : i = n := by omega
    subst this
    refine br_t (nI_le (Nat.le_refl _) (by omega)) (fo_br (fun z => h0 (fun g => ?_)) (fun z => ?_))
    · rw [hb.mpr g] at z; cases z
    · obtain ⟨g1, g2⟩ := hb.mp z
      rw [hx g1]
      exact ⟨i + 1, y_give77 hn (h1 g1 g2) i 0 yAr (by omega) (fo_cp0 _ _).symm⟩
  | succ d ih =>
    intro i b hi hb
    obtain ⟨h48, hk⟩ := hT i (by omega)
    refine br_f (nI_ge (by omega) (by omega)) ⟨vp_in_nI (by omega) (by decide), ?_⟩
    rw [nI_clamp (by omega), hk]
    refine pk_eq (T i / 8) 2 (fun k2 => nm_r (e' := fo_b b) ?_ (nm_r (nI_1 i) (ih (i + 1) b (by omega) ?_))) (fun k2 => nm_r (e' := fo_b false) ?_ (nm_r (nI_1 i) (ih (i + 1) false (by omega) ?_)))
    · cases b <;> decide
    · rw [hb]
      refine and_congr_right (fun _ => ⟨fun h j hj => ?_, fun h j hj => h j (by omega)⟩)
      by_cases e : j = i
      · subst e; exact k2
      · exact h j (by omega)
    · cases b <;> decide
    · constructor
      · intro z; cases z
      · intro g; exact absurd (g.2 i (by omega)) k2
theorem y_give {post : Int32 → SY → Prop} {ar T : Nat → Nat} {c n : Nat} (hc : c ≤ 6) (hn : n ≤ 40) (ha : ∀ i, ar i ≤ 2)
    (hT : ∀ i, i < n → fo_tk c (T i) ∧ yDk i = nI (T i / 8) ∧ (T i / 8 = 2 → yDw i = nI (T i % 8))) (h0 : ¬ fo_dv ar T n → post (-2) (ycc, 0, ynd, yln, yal, ygl, yst, ybl, yhw, yrn, ywk, fo_n ar, yDk, yDw, yK, yW, yPl, yRl, yRc, yHd, yLf, yRg, ySz, yLi, ySk, ySt, yAr, yGv, yF, yEn, yPc, yBd, yWk, yWw, yOw, yCt, yOz, yOp, yKn))
    (h1 : fo_dv ar T n → post (nI n) (ycc, 0, ynd, yln, nI n, ygl, yst, ybl, yhw, yrn, ywk, fo_n ar, yDk, yDw, yK, yW, yPl, yRl, yRc, yHd, yLf, yRg, ySz, yLi, ySk, ySt, fo_cp yAr yDw n, yGv, yF, yEn, yPc, yBd, yWk, yWw, yOw, yCt, yOz, yOp, yKn)) : wpY_give post (ycc, nI n, ynd, yln, yal, ygl, yst, ybl, yhw, yrn, ywk, fo_n ar, yDk, yDw, yK, yW, yPl, yRl, yRc, yHd, yLf, yRg, ySz, yLi, ySk, ySt, yAr, yGv, yF, yEn, yPc, yBd, yWk, yWw, yOw, yCt, yOz, yOp, yKn) := by
  have hr := fe_pe_rng (fm_o ar T) (n := n) (i := 0) (by omega)
  have hT' : ∀ i, i < n → T i < 48 ∧ yDk i = nI (T i / 8) := fun i hi => ⟨fo_tk_le (hT i hi).1, (hT i hi).2.1⟩
  have no : ∀ x1 : Int32, ¬ (0 < n ∧ fe_pe (fm_o ar T) n 0 = n) → wY_give_26 post x1 ycc (nI n) ynd yln yal ygl yst ybl yhw yrn ywk (fo_n ar) yDk yDw yK yW yPl yRl yRc yHd yLf yRg ySz yLi ySk ySt yAr yGv yF yEn yPc yBd yWk yWw yOw yCt yOz yOp yKn (n + 1) 0 0 := fun x1 h =>
    y_give26 (b0 := False) hn hT' (fun z => z.elim) (fun _ => h0 (fun g => h g.2)) (fun z => z.elim) n 0 false (by omega) ⟨fun z => (by cases z), fun z => z.1.elim⟩
  refine y_eo (T := T) (i := 0) hc hn ha (Nat.zero_le _) hT (fun z => br_t (by decide) ⟨n + 1, no _ ?_⟩) (fun z => ?_)
  · omega
  · refine pk_le (fe_pe (fm_o ar T) n 0) 0 (fun w => ⟨n + 1, no _ (by omega)⟩) (fun w => pk_eq (fe_pe (fm_o ar T) n 0) n (fun y => ⟨n + 1, ?_⟩) (fun y => ⟨n + 1, no _ (by omega)⟩))
    refine y_give26 (b0 := True) hn hT' (fun _ => by rw [y]) (fun g => h0 (fun g2 => g ⟨trivial, g2.1⟩)) (fun _ g => h1 ⟨g, by omega, y⟩) n 0 true (by omega) ⟨fun _ => ⟨trivial, fun j hj => by omega⟩, fun _ => rfl⟩
end
theorem fo_dvv {ar T : Nat → Nat} {c n : Nat} (hT : ∀ i, i < n → fo_tk c (T i)) (h : fo_dv ar T n) (hn : n ≤ 40) (A : Nat → Int32) :
    fR_val ar c n (fun q => T q % 8) (fo_cp A (fo_n fun q => T q % 8) n) := by
  refine ⟨hn, fe_full_congr (op := fm_o ar T) (fun j hj => fo_op2 (h.1 j hj)) ⟨h.2.1, by omega, h.2.2⟩, fun i hi => ⟨?_, by rw [fo_cpl hi]; rfl⟩⟩
  have h1 := hT i hi
  have h2 := h.1 i hi
  unfold fo_tk at h1
  show T i % 8 < c
  omega
theorem i_vc_give {k : Nat} {u : SX} {v : SY} (I : i_Rel k u v) (hk : k + 4 ≤ 2048) : wpX_give (fun r u' => wpY_give (fun r' v' => r' = r ∧ i_Rel (k + 4) u' v') v) u := by
  refine i_el (P := fun u v => wpX_give (fun r u' => wpY_give (fun r' v' => r' = r ∧ i_Rel (k + 4) u' v') v) u) I ?_
  intro c n m g ar rc pl T pat pre pos arg giv xss xnc xdp xoc xrs xrt xrf ynd yln yhw yrn ywk xD xDe xUw xP xPe xO xOl xAr xS xSe xSn xF xNc xNf xNs xNz xCr xCn xCv xOp xRl xTa xUt yDk yDw yK yW yHd yLf yRg ySz yLi ySk ySt yF yEn yPc yBd yWk yWw yOw yCt yOz yOp yKn G
  obtain ⟨g1, g2, g3, g4, g5, g6, g7, g8, g9⟩ := G
  have hX : ∀ i, i < n → fo_tk c (T i) ∧ xD i = nI (T i) := fun i hi => ⟨(g5 i hi).1, (g5 i hi).2.1⟩
  have hY : ∀ i, i < n → fo_tk c (T i) ∧ yDk i = nI (T i / 8) ∧ (T i / 8 = 2 → yDw i = nI (T i % 8)) := fun i hi =>
    ⟨(g5 i hi).1, (g5 i hi).2.2.1, fun z => (g5 i hi).2.2.2 (Or.inr (Or.inl z))⟩
  refine x_give g1 g2 g3 hX (fun q D => y_give g1 g2 g3 hY (fun _ => ⟨rfl, i_mk (c := c) (n := 0) (m := m) (g := g) (ar := ar) (rc := rc) (pl := pl) (T := T) (pat := pat) (pre := pre) (pos := pos) (arg := arg) (giv := giv) ?_⟩) (fun z => absurd z q)) (fun q D => y_give g1 g2 g3 hY (fun z => absurd q z) (fun _ => ⟨rfl, ?_⟩))
  · exact ⟨g1, by omega, g3, g4, fun i hi => by omega, g6, g7, g8, g9⟩
  · rw [show fo_cp xAr yDw n = fo_cp xAr (fo_n fun q => T q % 8) n from fo_cpc (fun z hz => (hY z hz).2.2 (q.1 z hz))]
    refine i_mk (c := c) (n := 0) (m := n) (g := g) (ar := ar) (rc := rc) (pl := pl) (T := T) (pat := pat) (pre := pre) (pos := pos) (arg := fun q => T q % 8) (giv := giv) ⟨g1, by omega, g3, g4, fun i hi => by omega, g6, Or.inr (fo_dvv (fun i hi => (hX i hi).1) q g2 xAr), g8, g9⟩
end
section
/-- the draft is a pattern and then a result; e: where the pattern ends -/
def fo_dr (ar T : Nat → Nat) (n e : Nat) : Prop :=
  e ≤ n ∧ e ≤ 12 ∧ ¬ fp_bad T (fe_pe (fm_o ar T) n) e ∧ e < n ∧ fe_pe (fm_o ar T) n e = n ∧ n - e ≤ 12 ∧ fp_res T (fp_set T e) e n
theorem fo_drv {ar T : Nat → Nat} {c n e : Nat} (hT : ∀ i, i < n → fo_tk c (T i)) (h : fo_dr ar T n e) : ∀ u, e ≤ u → u < n → fg_rs ar c T e (fo_op ar (T u)) (T u) (T u) := by
  intro u h1 h2
  refine ⟨rfl, rfl, ?_⟩
  have ht := hT u h2
  rcases h.2.2.2.2.2.2 u h1 h2 with ⟨k, b⟩ | k | k
  · have v4 := fp_v4 ht k
    obtain ⟨j, hj, e'⟩ := (fp_set_bit v4 e (fun j hj => fp_v4 (hT j (by have := h.1; omega)))).mp b
    exact Or.inl ⟨k, v4, j, hj, by omega⟩
  · unfold fo_tk at ht; exact Or.inr (Or.inl ⟨k, by omega⟩)
  · unfold fo_tk at ht; exact Or.inr (Or.inr ⟨k, by omega⟩)
section
variable {xcc xdr xas xss xnc xdp xoc xrs xrt xrf xrz : Int32} {xA xD xDe xUw xRc xP xPe xPl xO xOl xAr xS xSe xSn xF xNc xNf xNs xNz xCr xCn xCv xOp xRl xTa xUt : Nat → Int32}
theorem x_row111 {post : Int32 → SX → Prop} {f : Nat} (hf : f < 4) {rc : Nat → Nat} (hp : post (nI (rc f)) (xcc, 0, xas, xss, xnc, xdp, xoc, xrs, xrt, xrf, xrz, xA, xD, xDe, xUw, fo_n rc, xP, xPe, xPl, xO, xOl, xAr, xS, xSe, xSn, xF, xNc, xNf, xNs, xNz, xCr, xCn, xCv, xOp, xRl, xTa, xUt)) : wX_row_111 post (nI f) 1 xcc xdr xas xss xnc xdp xoc xrs xrt xrf xrz xA xD xDe xUw (fo_n rc) xP xPe xPl xO xOl xAr xS xSe xSn xF xNc xNf xNs xNz xCr xCn xCv xOp xRl xTa xUt := by
  refine br_f fo_z1 ⟨vp_in_nI hf (by decide), ?_⟩
  rw [nI_clamp (by omega)]
  exact hp
theorem x_row {post : Int32 → SX → Prop} {ar T rc : Nat → Nat} {c n f e : Nat} (hc : c ≤ 6) (hn : n ≤ 40) (ha : ∀ i, ar i ≤ 2) (hf : f < 4) (hrc : rc f < 5)
    (hT : ∀ i, i < n → fo_tk c (T i) ∧ xD i = nI (T i)) (he : e = fe_pe (fm_o ar T) n 0) (h0 : ¬ fo_dr ar T n e → ∀ D, post (-2) (xcc, 0, xas, xss, xnc, xdp, xoc, xrs, xrt, xrf, xrz, fo_n ar, xD, D, xUw, fo_n rc, xP, xPe, xPl, xO, xOl, xAr, xS, xSe, xSn, xF, xNc, xNf, xNs, xNz, xCr, xCn, xCv, xOp, xRl, xTa, xUt))
    (h1 : fo_dr ar T n e → ∀ D P E U O out, (∀ j, j < e → P (12 * (5 * f + rc f) + j) = nI (T j) ∧ E (12 * (5 * f + rc f) + j) = nI (fe_pe (fm_o ar T) n j)) →
      (∀ q, (q < 12 * (5 * f + rc f) ∨ 12 * (5 * f + rc f) + 12 ≤ q) → P q = xP q ∧ E q = xPe q) → ff_PF (fg_rs ar c T e) 1 (fe_sl T e (n - e)) out →
      (∀ j, j < out.length → O (12 * (5 * f + rc f) + j) = nI (fv_g out j)) → (∀ q, (q < 12 * (5 * f + rc f) ∨ 12 * (5 * f + rc f) + 12 ≤ q) → O q = xO q) →
      post (nI (rc f + 1)) (xcc, 0, xas, xss, xnc, xdp, xoc, xrs, xrt, xrf, xrz, fo_n ar, xD, D, U, fo_n (fo_u rc f (rc f + 1)), P, E, upd xPl (5 * f + rc f) (nI e), O, upd xOl (5 * f + rc f) (nI out.length), xAr, xS, xSe, xSn, xF, xNc, xNf, xNs, xNz, xCr, xCn, xCv, xOp, xRl, xTa, xUt)) :
    wpX_row post (xcc, nI n, xas, xss, xnc, xdp, xoc, xrs, xrt, xrf, xrz, fo_n ar, xD, xDe, xUw, fo_n rc, xP, xPe, xPl, xO, xOl, xAr, xS, xSe, xSn, xF, xNc, xNf, xNs, xNz, xCr, xCn, xCv, xOp, xRl, xTa, xUt) (nI f) := by
  have hr := fe_pe_rng (fm_o ar T) (n := n) (i := 0) (by omega)
  rw [← he] at hr
  unfold wpX_row
  refine x_isF1 hf (br_f fo_z1 ⟨vp_in_nI hf (by decide), ?_⟩)
  rw [nI_clamp (by omega)]
  refine br_f (fun z => ?_) (x_md hc hn ha hT (fun D hD => ?_))
  · have := (nI_eq (b := 5) (by omega) (by decide)).mp z
    omega
  have bad : ¬ fo_dr ar T n e → wX_row_67 post (nI f) (nI e) xcc (nI n) xas xss xnc xdp xoc xrs xrt xrf xrz (fo_n ar) xD D xUw (fo_n rc) xP xPe xPl xO xOl xAr xS xSe xSn xF xNc xNf xNs xNz xCr xCn xCv xOp xRl xTa xUt := fun g => br_t rfl (br_t rfl (h0 g D))
  have cut : e ≤ n → ∀ i, i < e → i < fe_pe (fm_o ar T) n i ∧ fe_pe (fm_o ar T) n i ≤ e := fun g i hi => by
    obtain ⟨a, b⟩ := fe_pe_cut (fm_o ar T) he.symm g (by omega) (Nat.zero_le i) hi
    rw [a]; exact b
  have main : wX_row_42 post (nI f) (nI e) xcc (nI n) xas xss xnc xdp xoc xrs xrt xrf xrz (fo_n ar) xD D xUw (fo_n rc) xP xPe xPl xO xOl xAr xS xSe xSn xF xNc xNf xNs xNz xCr xCn xCv xOp xRl xTa xUt := by
    refine x_pv hn (by omega) hT hD cut (fun g i j hi hij hj => fe_pe_nest _ (by have := (cut g i hi).2; omega) (by omega) hij hj) (fun g => br_t rfl (bad (fun g2 => g ⟨g2.1, g2.2.1, g2.2.2.1⟩))) (fun g1 g2 g3 => br_f ?_ ?_)
    · have hs16 := fp_set_lt e (fun j hj => fp_v4 (hT j (by omega)).1)
      exact fun z => absurd (z ▸ nI_pos' (n := fp_set T e) (by omega)) (by decide)
    have hs16 := fp_set_lt e (fun j hj => fp_v4 (hT j (by omega)).1)
    refine x_io hn hs16 (by omega) hT hD (fun i hi => by have := fe_pe_rng (fm_o ar T) (n := n) (i := i) (by omega); omega) (fun g => br_t rfl (bad (fun g4 => g g4.2.2.2))) (fun w1 w2 w3 w4 => br_f fo_z1 ?_)
    have good : fo_dr ar T n e := ⟨g1, g2, g3, w1, w2, w3, w4⟩
    refine br_f fo_z1 ⟨vp_in_nI hf (by decide), nm_r (e' := nI (5 * f + rc f)) ?_ ?_⟩
    · rw [nI_clamp (by omega), show nI f * 5 = nI (f * 5) from pk_mul f 5]
      show nI (f * 5) + nI (rc f) = _
      rw [nI_add, Nat.mul_comm]
    refine x_sp (T := T) (pe := fe_pe (fm_o ar T) n) g2 (by omega) (fun i hi => (hT i (by omega)).2) (fun i hi => hD i (by omega)) (fun P E a1 a2 => ?_)
    refine x_so (T := T) (Tp := T) (np := e) hn w1 w3 (by omega) (fun i hi => (hT i hi).2) hD w2 (fo_drv (fun i hi => (hT i hi).1) good) (fun U O out b1 b2 b3 => ?_)
    refine ⟨vp_in_nI hf (by decide), vp_in_nI hf (by decide), nm_r (e' := fo_n (fo_u rc f (rc f + 1))) ?_ (x_row111 hf ?_)⟩
    · rw [nI_clamp (by omega), show fo_n rc f + 1 = nI (rc f + 1) from nI_1 _, fo_nu]
    · rw [fo_us]; exact h1 good D P E U O out a1 a2 b1 b2 b3
  refine pk_eq n 0 (fun z => ?_) (fun z => ?_)
  · have : e = 1000 := by rw [he]; subst z; rfl
    rw [this] at main
    exact main
  · rw [hD 0 (by omega), ← he]
    exact main
end
section
variable {ycc ydr ynd yln yal ygl yst ybl yhw yrn ywk : Int32} {yA yDk yDw yK yW yPl yRl yRc yHd yLf yRg ySz yLi ySk ySt yAr yGv yF yEn yPc yBd yWk yWw yOw yCt yOz yOp yKn : Nat → Int32}
theorem y_row160 {post : Int32 → SY → Prop} {n f e r : Nat} (hf : f < 4) (he : e ≤ 12) (hen : e ≤ n) (h12 : n - e ≤ 12) (hr : r < 20) {K0 W0 : Nat → Int32}
    (hp : ∀ K W, (∀ j, j < e → K (24 * r + j) = yDk j ∧ W (24 * r + j) = yDw j) → (∀ j, j < n - e → K (24 * r + 12 + j) = yDk (e + j) ∧ W (24 * r + 12 + j) = yDw (e + j)) →
      (∀ q, (q < 24 * r ∨ 24 * r + 24 ≤ q) → K q = K0 q ∧ W q = W0 q) → post (yRc f) (ycc, 0, ynd, yln, yal, ygl, yst, ybl, yhw, yrn, ywk, yA, yDk, yDw, K, W, yPl, yRl, yRc, yHd, yLf, yRg, ySz, yLi, ySk, ySt, yAr, yGv, yF, yEn, yPc, yBd, yWk, yWw, yOw, yCt, yOz, yOp, upd yKn f 0)) :
    ∀ d i K W, i + d = n → (∀ j, j < i → j < e → K (24 * r + j) = yDk j ∧ W (24 * r + j) = yDw j) → (∀ j, e + j < i → K (24 * r + 12 + j) = yDk (e + j) ∧ W (24 * r + 12 + j) = yDw (e + j)) →
      (∀ q, (q < 24 * r ∨ 24 * r + 24 ≤ q) → K q = K0 q ∧ W q = W0 q) → wY_row_160 post (nI f) (nI e) (nI n) (nI r) ycc ydr ynd yln yal ygl yst ybl yhw yrn ywk (d + 1) (nI i) yA yDk yDw K W yPl yRl yRc yHd yLf yRg ySz yLi ySk ySt yAr yGv yF yEn yPc yBd yWk yWw yOw yCt yOz yOp yKn := by
  intro d
  induction d with
  | zero =>
    intro i K W hi a1 a2 a3
    have : i = n := by omega
    subst this
    refine br_t (nI_le (Nat.le_refl _) (by omega)) ⟨vp_in_nI hf (by decide), nm_r (e' := upd yKn f 0) (by rw [nI_clamp (by omega)]; rfl) ⟨vp_in_nI hf (by decide), ?_⟩⟩
    rw [nI_clamp (by omega)]
    exact hp K W (fun j hj => a1 j (by omega) hj) (fun j hj => a2 j (by omega)) a3
  | succ d ih =>
    intro i K W hi a1 a2 a3
    have key : ∀ (z : Int32) (t : Nat), z = nI t → t < 24 → (i < e → t = i) → (e ≤ i → t = 12 + (i - e)) →
        wY_row_189 post (wY_row_160 post (nI f) (nI e) (nI n) (nI r) ycc ydr ynd yln yal ygl yst ybl yhw yrn ywk (d + 1)) (nI f) (nI e) (nI n) (nI r) (nI i) z (24 * nI r) ycc ydr ynd yln yal ygl yst ybl yhw yrn ywk yA yDk yDw K W yPl yRl yRc yHd yLf yRg ySz yLi ySk ySt yAr yGv yF yEn yPc yBd yWk yWw yOw yCt yOz yOp yKn := by
      intro z t hz ht t1 t2
      refine nm_r (e' := nI (24 * r + t)) (by rw [hz, fo_24m, nI_add]) ⟨vp_in_nI (by omega) (by decide), vp_in_nI (by omega) (by decide), nm_r (e' := upd K (24 * r + t) (yDk i)) ?_ ⟨vp_in_nI (by omega) (by decide), vp_in_nI (by omega) (by decide), nm_r (e' := upd W (24 * r + t) (yDw i)) ?_ (nm_r (nI_1 i) (ih (i + 1) _ _ (by omega) ?_ ?_ ?_))⟩⟩
      · rw [nI_clamp (by omega), nI_clamp (by omega)]
      · rw [nI_clamp (by omega), nI_clamp (by omega)]
      · intro j h1 h2
        by_cases q : j = t
        · have : t = i := by omega
          subst q; rw [pk_us, pk_us, this]; exact ⟨rfl, rfl⟩
        · rw [pk_un (by omega), pk_un (by omega)]; exact a1 j (by omega) h2
      · intro j h1
        by_cases q : 12 + j = t
        · have : e + j = i := by omega
          rw [show 24 * r + 12 + j = 24 * r + t by omega, pk_us, pk_us, this]; exact ⟨rfl, rfl⟩
        · rw [pk_un (by omega), pk_un (by omega)]; exact a2 j (by omega)
      · intro q hq
        rw [pk_un (by omega), pk_un (by omega)]; exact a3 q hq
    refine br_f (nI_ge (by omega) (by omega)) (pk_le e i (fun z => key _ (12 + (i - e)) ?_ (by omega) (fun h => by omega) (fun _ => rfl)) (fun z => key _ i rfl (by omega) (fun _ => rfl) (fun h => by omega)))
    rw [show (12 : Int32) + nI i = nI (12 + i) from nI_add 12 i, pk_sub (by omega)]
    exact congrArg nI (by omega)
theorem y_row {post : Int32 → SY → Prop} {ar T rc : Nat → Nat} {c n f e : Nat} (hc : c ≤ 6) (hn : n ≤ 40) (ha : ∀ i, ar i ≤ 2) (hf : f < 4) (hrc : rc f < 5)
    (hT : ∀ i, i < n → fo_tk c (T i) ∧ yDk i = nI (T i / 8) ∧ ((T i / 8 = 1 ∨ T i / 8 = 2 ∨ T i / 8 = 5) → yDw i = nI (T i % 8))) (he : e = fe_pe (fm_o ar T) n 0)
    (h0 : ¬ fo_dr ar T n e → post (-2) (ycc, 0, ynd, yln, yal, ygl, yst, ybl, yhw, yrn, ywk, fo_n ar, yDk, yDw, yK, yW, yPl, yRl, fo_n rc, yHd, yLf, yRg, ySz, yLi, ySk, ySt, yAr, yGv, yF, yEn, yPc, yBd, yWk, yWw, yOw, yCt, yOz, yOp, yKn))
    (h1 : fo_dr ar T n e → ∀ K W, (∀ j, j < e → K (24 * (5 * f + rc f) + j) = yDk j ∧ W (24 * (5 * f + rc f) + j) = yDw j) →
      (∀ j, j < n - e → K (24 * (5 * f + rc f) + 12 + j) = yDk (e + j) ∧ W (24 * (5 * f + rc f) + 12 + j) = yDw (e + j)) →
      (∀ q, (q < 24 * (5 * f + rc f) ∨ 24 * (5 * f + rc f) + 24 ≤ q) → K q = yK q ∧ W q = yW q) →
      post (nI (rc f + 1)) (ycc, 0, ynd, yln, yal, ygl, yst, ybl, yhw, yrn, ywk, fo_n ar, yDk, yDw, K, W, upd yPl (5 * f + rc f) (nI e), upd yRl (5 * f + rc f) (nI (n - e)), fo_n (fo_u rc f (rc f + 1)), yHd, yLf, yRg, ySz, yLi, ySk, ySt, yAr, yGv, yF, yEn, yPc, yBd, yWk, yWw, yOw, yCt, yOz, yOp, upd yKn f 0)) :
    wpY_row post (ycc, nI n, ynd, yln, yal, ygl, yst, ybl, yhw, yrn, ywk, fo_n ar, yDk, yDw, yK, yW, yPl, yRl, fo_n rc, yHd, yLf, yRg, ySz, yLi, ySk, ySt, yAr, yGv, yF, yEn, yPc, yBd, yWk, yWw, yOw, yCt, yOz, yOp, yKn) (nI f) := by
  have hr := fe_pe_rng (fm_o ar T) (n := n) (i := 0) (by omega)
  rw [← he] at hr
  have hT2 : ∀ i, i < n → fo_tk c (T i) ∧ yDk i = nI (T i / 8) ∧ (T i / 8 = 2 → yDw i = nI (T i % 8)) := fun i hi => ⟨(hT i hi).1, (hT i hi).2.1, fun z => (hT i hi).2.2 (Or.inr (Or.inl z))⟩
  have bad : ∀ x y : Int32, ¬ fo_dr ar T n e → wY_row_101 post (nI f) x y ycc (nI n) ynd yln yal ygl yst ybl yhw yrn ywk (fo_n ar) yDk yDw yK yW yPl yRl (fo_n rc) yHd yLf yRg ySz yLi ySk ySt yAr yGv yF yEn yPc yBd yWk yWw yOw yCt yOz yOp yKn := fun x y g => br_t rfl (h0 g)
  unfold wpY_row
  refine y_in1 hf (br_f fo_z1 ⟨vp_in_nI hf (by decide), ?_⟩)
  rw [nI_clamp (by omega)]
  refine br_f (fun z => ?_) (y_eo (T := T) (i := 0) hc hn ha (Nat.zero_le _) hT2 (fun z => br_f (by decide) ?_) (fun z => ?_))
  · have := (nI_eq (b := 5) (by omega) (by decide)).mp z
    omega
  · rw [← he] at z
    refine br_f (by decide) (br_t (by decide) (bad _ _ (fun g => by have := g.1; omega)))
  rw [← he] at z ⊢
  refine br_t (nI_pos' (by omega)) ?_
  have hr2 := fe_pe_rng (fm_o ar T) (n := n) (i := e) (by omega)
  have cut : ∀ i, i < e → i < fe_pe (fm_o ar T) n i ∧ fe_pe (fm_o ar T) n i ≤ e := fun i hi => by
    obtain ⟨a, b⟩ := fe_pe_cut (fm_o ar T) he.symm (by omega) (by omega) (Nat.zero_le i) hi
    rw [a]; exact b
  have hs16 := fp_set_lt e (fun j hj => fp_v4 (hT j (by omega)).1)
  have final : ∀ (y x : Int32) , (fe_pe (fm_o ar T) n e = n → y = nI n) → (fe_pe (fm_o ar T) n e ≠ n → ¬ y = nI n) →
      (fp_bad T (fe_pe (fm_o ar T) n) e → x < 0) → (¬ fp_bad T (fe_pe (fm_o ar T) n) e → x = nI (fp_set T e)) → wY_row_54 post (nI f) (nI e) y x ycc (nI n) ynd yln yal ygl yst ybl yhw yrn ywk (fo_n ar) yDk yDw yK yW yPl yRl (fo_n rc) yHd yLf yRg ySz yLi ySk ySt yAr yGv yF yEn yPc yBd yWk yWw yOw yCt yOz yOp yKn := by
    intro y x y1 y2 x1 x2
    refine pk_le e 0 (fun w => by omega) (fun w => pk_le 13 e (fun w2 => bad _ _ (fun g => by have := g.2.1; omega)) (fun w2 => ?_))
    by_cases w3 : fe_pe (fm_o ar T) n e = n
    · rw [y1 w3]
      have hne : e < n := by omega
      refine br_t rfl (pk_le 13 (n - e) (fun w4 => bad _ _ (fun g => by have := g.2.2.2.2.2.1; omega)) (fun w4 => ?_) rfl (pk_sub (by omega)))
      by_cases w5 : fp_bad T (fe_pe (fm_o ar T) n) e
      · exact br_t (x1 w5) (bad _ _ (fun g => g.2.2.1 w5))
      · rw [x2 w5]
        refine br_f (nI_pos (by omega)) (y_ir hn hs16 (by omega) hT (fun g => br_t rfl (bad _ _ (fun g2 => g g2.2.2.2.2.2.2))) (fun g => br_f fo_z1 ?_))
        have good : fo_dr ar T n e := ⟨by omega, by omega, w5, hne, w3, by omega, g⟩
        refine br_f fo_z1 ⟨vp_in_nI hf (by decide), nm_r (e' := nI (5 * f + rc f)) ?_ ⟨vp_in_nI hf (by decide), vp_in_nI hf (by decide), nm_r (e' := fo_n (fo_u rc f (rc f + 1))) ?_ ⟨vp_in_nI (by omega) (by decide), nm_r (e' := upd yPl (5 * f + rc f) (nI e)) (by rw [nI_clamp (by omega)]) ⟨vp_in_nI (by omega) (by decide), nm_r (e' := upd yRl (5 * f + rc f) (nI (n - e))) (by rw [nI_clamp (by omega), pk_sub (by omega)]) ⟨n + 1, ?_⟩⟩⟩⟩⟩
        · rw [nI_clamp (by omega), fo_5m]
          show nI (5 * f) + nI (rc f) = _
          rw [nI_add]
        · rw [nI_clamp (by omega), show fo_n rc f + 1 = nI (rc f + 1) from nI_1 _, fo_nu]
        · refine y_row160 (K0 := yK) (W0 := yW) hf (by omega) (by omega) (by omega) (by omega) (fun K W a1 a2 a3 => ?_) n 0 yK yW (by omega) (fun j hj => by omega) (fun j hj => by omega) (fun q _ => ⟨rfl, rfl⟩)
          rw [show fo_n (fo_u rc f (rc f + 1)) f = nI (rc f + 1) by unfold fo_n; rw [fo_us]]
          exact h1 good K W a1 a2 a3
    · exact br_f (y2 w3) (bad _ _ (fun g => w3 g.2.2.2.2.1))
  have rest : ∀ y : Int32, (fe_pe (fm_o ar T) n e = n → y = nI n) → (fe_pe (fm_o ar T) n e ≠ n → ¬ y = nI n) → wY_row_40 post (nI f) (nI e) y ycc (nI n) ynd yln yal ygl yst ybl yhw yrn ywk (fo_n ar) yDk yDw yK yW yPl yRl (fo_n rc) yHd yLf yRg ySz yLi ySk ySt yAr yGv yF yEn yPc yBd yWk yWw yOw yCt yOz yOp yKn := by
    intro y y1 y2
    exact br_t (nI_pos' (by omega)) (y_vo hc hn ha (by omega) hT cut (fun g => final y _ y1 y2 (fun _ => by decide) (fun h => absurd g h)) (fun g => final y _ y1 y2 (fun h => absurd h g) (fun _ => rfl)))
  refine y_eo (T := T) hc hn ha (by omega) hT2 (fun w => rest _ (fun h => by omega) (fun _ h => ?_)) (fun w => rest _ (fun h => by rw [h]) (fun h h2 => h ((nI_eq (by omega) (by omega)).mp h2)))
  exact absurd (h ▸ nI_pos' (n := n) (by omega)) (by decide)
end
/-- the rows that were there -/
theorem fR_row_c {ar : Nat → Nat} {c : Nat} {xp xe xo xl yk yw xp' xe' xo' xl' yk' yw' : Nat → Int32} {T : Nat → Nat} {n : Nat} {pre pos : List Nat} {r : Nat}
    (h : fR_row ar c xp xe xo xl yk yw T n pre pos r) (e1 : ∀ j, j < 12 → xp' (12 * r + j) = xp (12 * r + j) ∧ xe' (12 * r + j) = xe (12 * r + j) ∧ xo' (12 * r + j) = xo (12 * r + j))
    (e2 : xl' r = xl r) (e3 : ∀ j, j < 24 → yk' (24 * r + j) = yk (24 * r + j) ∧ yw' (24 * r + j) = yw (24 * r + j)) : fR_row ar c xp' xe' xo' xl' yk' yw' T n pre pos r := by
  obtain ⟨h1, h2, h3, h4, h5, h6, h7, h8, h9⟩ := h
  have hl := (ff_len h5).1
  refine ⟨h1, h2, fun j hj => ?_, h4, h5, h6, by rw [e2]; exact h7, fun j hj => ?_, fun j hj => ?_⟩
  · obtain ⟨a1, a2, a3, a4, a5, a6⟩ := h3 j hj
    obtain ⟨b1, b2, b3⟩ := e1 j (by omega)
    obtain ⟨d1, d2⟩ := e3 j (by omega)
    rw [b1, b2, d1, d2]
    exact ⟨a1, a2, a3, a4, a5, a6⟩
  · rw [(e1 j (by omega)).2.2]; exact h8 j hj
  · obtain ⟨d1, d2⟩ := e3 (12 + j) (by omega)
    rw [Nat.add_assoc, d1, d2, ← Nat.add_assoc]; exact h9 j hj
theorem fv_gfe {T : Nat → Nat} : ∀ n i j, j < n → fv_g (fe_sl T i n) j = T (i + j) := by
  intro n i j h
  unfold fv_g
  rw [List.getD_eq_getElem?_getD, fe_sl_get T n i j h]
  rfl
def fo_p {α : Type} (g : Nat → α) (k : Nat) (x : α) : Nat → α := fun j => if j = k then x else g j
theorem fo_ps {α : Type} {g : Nat → α} {k : Nat} {x : α} : fo_p g k x k = x := if_pos rfl
theorem fo_pn {α : Type} {g : Nat → α} {k j : Nat} {x : α} (h : j ≠ k) : fo_p g k x j = g j := if_neg h
theorem i_vc_row {k : Nat} {u : SX} {v : SY} (I : i_Rel k u v) (hk : k + 4 ≤ 2048) (v1 : Int32) : wpX_row (fun r u' => wpY_row (fun r' v' => r' = r ∧ i_Rel (k + 4) u' v') v v1) u v1 := by
  refine i_el (P := fun u v => wpX_row (fun r u' => wpY_row (fun r' v' => r' = r ∧ i_Rel (k + 4) u' v') v v1) u v1) I ?_
  intro c n m g ar rc pl T pat pre pos arg giv xss xnc xdp xoc xrs xrt xrf ynd yln yhw yrn ywk xD xDe xUw xP xPe xO xOl xAr xS xSe xSn xF xNc xNf xNs xNz xCr xCn xCv xOp xRl xTa xUt yDk yDw yK yW yHd yLf yRg ySz yLi ySk ySt yF yEn yPc yBd yWk yWw yOw yCt yOz yOp yKn G
  rcases fo_f4 v1 with h | ⟨f, hf, rfl⟩
  · unfold wpX_row
    refine x_isF0 h (br_t rfl ?_)
    unfold wpY_row
    exact y_in0 h (br_t rfl ⟨rfl, i_mk G⟩)
  · by_cases r5 : rc f = 5
    · have e5 : fo_n rc (nI f).toNatClampNeg = 5 := by rw [nI_clamp (by omega)]; show nI (rc f) = 5; rw [r5]; rfl
      unfold wpX_row
      refine x_isF1 hf (br_f fo_z1 ⟨vp_in_nI hf (by decide), br_t e5 ?_⟩)
      unfold wpY_row
      exact y_in1 hf (br_f fo_z1 ⟨vp_in_nI hf (by decide), br_t e5 ⟨rfl, i_mk G⟩⟩)
    · obtain ⟨g1, g2, g3, g4, g5, g6, g7, g8, g9⟩ := G
      have hrc : rc f < 5 := by have := g4 f; omega
      have hX : ∀ i, i < n → fo_tk c (T i) ∧ xD i = nI (T i) := fun i hi => ⟨(g5 i hi).1, (g5 i hi).2.1⟩
      have hY : ∀ i, i < n → fo_tk c (T i) ∧ yDk i = nI (T i / 8) ∧ ((T i / 8 = 1 ∨ T i / 8 = 2 ∨ T i / 8 = 5) → yDw i = nI (T i % 8)) := fun i hi => ⟨(g5 i hi).1, (g5 i hi).2.2⟩
      refine x_row g1 g2 g3 hf hrc hX rfl (fun w D => y_row g1 g2 g3 hf hrc hY rfl (fun _ => ⟨rfl, i_mk (c := c) (n := 0) (m := m) (g := g) (ar := ar) (rc := rc) (pl := pl) (T := T) (pat := pat) (pre := pre) (pos := pos) (arg := arg) (giv := giv) ⟨g1, by omega, g3, g4, fun i hi => by omega, g6, g7, g8, g9⟩⟩) (fun z => absurd z w)) (fun w D P E U O out a1 a2 a3 a4 a5 => ?_)
      refine y_row g1 g2 g3 hf hrc hY rfl (fun z => absurd w z) (fun _ K W b1 b2 b3 => ⟨rfl, ?_⟩)
      generalize he : fe_pe (fm_o ar T) n 0 = e at *
      have hl := (ff_len a3).1
      rw [fe_sl_len] at hl
      rw [hl, fo_nu]
      refine i_mk (c := c) (n := 0) (m := m) (g := g) (ar := ar) (rc := fo_u rc f (rc f + 1)) (pl := fo_u pl (5 * f + rc f) e) (T := T) (pat := fo_p pat (5 * f + rc f) T) (pre := fo_p pre (5 * f + rc f) (fe_sl T e (n - e))) (pos := fo_p pos (5 * f + rc f) out) (arg := arg) (giv := giv) ⟨g1, by omega, g3, fun f' => ?_, fun i hi => by omega, fun f' i hf' hi => ?_, g7, g8, fun f' hf' => ?_⟩
      · by_cases q : f' = f
        · subst q; rw [fo_us]; omega
        · rw [fo_un q]; exact g4 f'
      · by_cases q : 5 * f' + i = 5 * f + rc f
        · rw [q, fo_us, fo_ps, fo_ps, fo_ps]
          obtain ⟨w1, w2, w3, w4, w5, w6, w7⟩ := w
          have h0e : 0 < e := by
            have := fe_pe_rng (fm_o ar T) (n := n) (i := 0) (by omega)
            omega
          have cut := fun j hj => fe_pe_cut (fm_o ar T) he w1 (by omega) (Nat.zero_le j) (i := j) hj
          refine ⟨w2, ⟨h0e, by omega, fe_pe_self _ he w1 h0e (by omega)⟩, fun j hj => ?_, fun i' j hi' hk' hij hj => ?_, a3, by rw [fe_sl_len]; exact w6, pk_us, a4, fun j hj => ?_⟩
          · have t := (hX j (by omega)).1
            refine ⟨t, ?_, (a1 j hj).1, by rw [(a1 j hj).2, (cut j hj).1], by rw [(b1 j hj).1]; exact (hY j (by omega)).2.1, fun z => by rw [(b1 j hj).2]; exact (hY j (by omega)).2.2 (by omega)⟩
            have : T j / 8 ≠ 5 := fun z => w3 ⟨j, hj, Or.inl z⟩
            have := fo_tk_le t
            omega
          · have c1 := cut i' hi'
            exact fun z => w3 ⟨j, by omega, Or.inr ⟨z, Or.inr ⟨i', hij, hk', by rw [c1.1]; exact hj⟩⟩⟩
          · rw [fe_sl_len] at hj
            rw [fv_gfe _ _ _ hj, (b2 j hj).1, (b2 j hj).2]
            refine ⟨(hY (e + j) (by omega)).2.1, (hY (e + j) (by omega)).2.2 ?_⟩
            have := w7 (e + j) (by omega) (by omega)
            omega
        · have hi' : i < rc f' := by
            by_cases q2 : f' = f
            · subst q2; rw [fo_us] at hi; omega
            · rw [fo_un q2] at hi; exact hi
          have := g4 f'
          rw [fo_un q, fo_pn q, fo_pn q, fo_pn q]
          refine fR_row_c (g6 f' i hf' hi') (fun j hj => ⟨(a2 _ (by omega)).1, (a2 _ (by omega)).2, a5 _ (by omega)⟩) (pk_un q) (fun j hj => b3 _ (by omega))
      · by_cases q : f' = f
        · subst q; exact Or.inl pk_us
        · refine fR_know_n (g9 f' hf') (pk_un q) ?_
          funext S m'
          refine fm_row_congr S m' (fo_un q) (fun i hi => ?_)
          have := g4 f'
          exact ⟨fo_pn (by omega), fo_un (by omega)⟩
end
section
/-- the value that rows are tried on -/
def fx_sub (ar : Nat → Nat) (c m : Nat) (S : Nat → Nat) (xs xe : Nat → Int32) : Prop :=
  m ≤ 40 ∧ fe_full (fm_v ar S) m ∧ ∀ i, i < m → S i < c ∧ xs i = nI (S i) ∧ xe i = nI (fe_pe (fm_v ar S) m i)
/-- a row's pattern, as the component holds it -/
def fx_pat (ar : Nat → Nat) (c : Nat) (xp xe : Nat → Int32) (T : Nat → Nat) (n r : Nat) : Prop :=
  n ≤ 12 ∧ fe_full (fm_o ar T) n ∧ ∀ j, j < n → fo_tk c (T j) ∧ T j / 8 < 5 ∧ xp (12 * r + j) = nI (T j) ∧ xe (12 * r + j) = nI (fe_pe (fm_o ar T) n j)
theorem fx_pat_of {ar : Nat → Nat} {c : Nat} {xp xe xo xl yk yw : Nat → Int32} {T : Nat → Nat} {n : Nat} {pre pos : List Nat} {r : Nat}
    (h : fR_row ar c xp xe xo xl yk yw T n pre pos r) : fx_pat ar c xp xe T n r :=
  ⟨h.1, h.2.1, fun j hj => ⟨(h.2.2.1 j hj).1, (h.2.2.1 j hj).2.1, (h.2.2.1 j hj).2.2.1, (h.2.2.1 j hj).2.2.2.1⟩⟩
section
variable {xcc xdr xas xss xnc xdp xoc xrs xrt xrf xrz : Int32} {xA xD xDe xUw xRc xP xPe xPl xO xOl xAr xS xSe xSn xF xNc xNf xNs xNz xCr xCn xCv xOp xRl xTa xUt : Nat → Int32}
/-- the ends of the subject's parts: one part -/
theorem x_ms_in {post : Int32 → SX → Prop} {ar S : Nat → Nat} {c m i : Nat} (hc : c ≤ 6) (hi : i < m) (hm : m ≤ 40) (ha : ∀ i, ar i ≤ 2) (hS : S i < c ∧ xS i = nI (S i))
    {J : Int32 → (Nat → Int32) → (Nat → Int32) → (Nat → Int32) → (Nat → Int32) → (Nat → Int32) → (Nat → Int32) → (Nat → Int32) → (Nat → Int32) → (Nat → Int32) → (Nat → Int32) → (Nat → Int32) → (Nat → Int32) → (Nat → Int32) → (Nat → Int32) → (Nat → Int32) → (Nat → Int32) → (Nat → Int32) → (Nat → Int32) → (Nat → Int32) → (Nat → Int32) → (Nat → Int32) → (Nat → Int32) → (Nat → Int32) → (Nat → Int32) → (Nat → Int32) → (Nat → Int32) → Prop} (hD : ∀ j, i < j → j < m → xSe j = nI (fe_pe (fm_v ar S) m j))
    (hJ : J (nI i + (-1)) (fo_n ar) xD xDe xUw xRc xP xPe xPl xO xOl xAr xS (upd xSe i (nI (fe_pe (fm_v ar S) m i))) xSn xF xNc xNf xNs xNz xCr xCn xCv xOp xRl xTa xUt) :
    ∀ d k e, k + d = fm_v ar S i → e = fe_en (fm_v ar S) (m - (i + 1)) k (i + 1) →
      wX_measureSubject_17 post J (nI i) xcc xdr xas (nI m) xnc xdp xoc xrs xrt xrf xrz (fo_n ar) xD xDe xUw xRc xP xPe xPl xO xOl xAr xS xSe xSn xF xNc xNf xNs xNz xCr xCn xCv xOp xRl xTa xUt (d + 1) (nI e) (nI k) := by
  have ho : fm_v ar S i ≤ 2 := ha _
  intro d
  induction d with
  | zero =>
    intro k e hk he
    refine ⟨vp_in_nI (by omega) (by decide), ?_⟩
    rw [nI_clamp (by omega), hS.2, nI_clamp (by omega)]
    refine ⟨vp_in_nI (by omega) (by decide), br_t (nI_le (a := fm_v ar S i) (by omega) (by omega)) ⟨vp_in_nI (by omega) (by decide), nm_r ?_ (nm_e hJ)⟩⟩
    rw [he, fe_pe_def _ hi, show k = fm_v ar S i by omega]
  | succ d ih =>
    intro k e hk he
    have hr := fe_rng (fm_v ar S) (m - (i + 1)) k (i + 1)
    have hs := fe_pe_snoc (fm_v ar S) hi (by omega) k
    rw [← he] at hr hs
    refine ⟨vp_in_nI (by omega) (by decide), ?_⟩
    rw [nI_clamp (by omega), hS.2, nI_clamp (by omega)]
    refine ⟨vp_in_nI (by omega) (by decide), br_f (nI_ge (b := fm_v ar S i) (by omega) (by omega)) (pk_le m e (fun h => ?_) (fun h => ⟨vp_in_nI (by omega) (by decide), nm_r (e' := nI (fe_pe (fm_v ar S) m e)) ?_ (nm_r (nI_1 k) ?_)⟩))⟩
    · refine nm_r (nI_1 k) (ih (k + 1) 1000 (by omega) ?_)
      rw [hs, if_neg (by omega)]
    · rw [nI_clamp (by omega), hD e (by omega) h]
    · refine ih (k + 1) _ (by omega) ?_
      rw [hs, if_pos h]
theorem x_ms_out {post : Int32 → SX → Prop} {ar S : Nat → Nat} {c m : Nat} (hc : c ≤ 6) (hm : m ≤ 40) (ha : ∀ i, ar i ≤ 2)
    (hS : ∀ i, i < m → S i < c ∧ xS i = nI (S i))
    (h0 : ¬ (0 < m ∧ fe_pe (fm_v ar S) m 0 = m) → ∀ D, (∀ j, j < m → D j = nI (fe_pe (fm_v ar S) m j)) → post 0 (xcc, xdr, xas, nI m, xnc, xdp, xoc, xrs, xrt, xrf, xrz, fo_n ar, xD, xDe, xUw, xRc, xP, xPe, xPl, xO, xOl, xAr, xS, D, xSn, xF, xNc, xNf, xNs, xNz, xCr, xCn, xCv, xOp, xRl, xTa, xUt))
    (h1 : 0 < m → fe_pe (fm_v ar S) m 0 = m → ∀ D, (∀ j, j < m → D j = nI (fe_pe (fm_v ar S) m j)) → post 1 (xcc, xdr, xas, nI m, xnc, xdp, xoc, xrs, xrt, xrf, xrz, fo_n ar, xD, xDe, xUw, xRc, xP, xPe, xPl, xO, xOl, xAr, xS, D, xSn, xF, xNc, xNf, xNs, xNz, xCr, xCn, xCv, xOp, xRl, xTa, xUt)) :
    ∀ i D, i ≤ m → (∀ j, i ≤ j → j < m → D j = nI (fe_pe (fm_v ar S) m j)) →
      wX_measureSubject_7 post xcc xdr xas (nI m) xnc xdp xoc xrs xrt xrf xrz (i + 1) (nI i + (-1)) (fo_n ar) xD xDe xUw xRc xP xPe xPl xO xOl xAr xS D xSn xF xNc xNf xNs xNz xCr xCn xCv xOp xRl xTa xUt := by
  intro i
  induction i with
  | zero =>
    intro D _ h
    have h' : ∀ j, j < m → D j = nI (fe_pe (fm_v ar S) m j) := fun j hj => h j (by omega) hj
    refine br_t (by decide) (pk_le m 0 (fun z => h0 (by omega) D h') (fun z => ?_))
    rw [h' 0 z]
    have hr := fe_pe_rng (fm_v ar S) (n := m) (i := 0) (by omega)
    exact pk_eq (fe_pe (fm_v ar S) m 0) m (fun w => h1 z w D h') (fun w => h0 (fun g => w g.2) D h')
  | succ k ih =>
    intro D hk h
    rw [pk_m1]
    refine br_f (nI_pos (by omega)) (nm_r (nI_1 k) ⟨_, x_ms_in hc (by omega) hm ha (hS k (by omega)) (fun j h1 h2 => h j (by omega) h2) (ih _ (by omega) ?_) _ 0 (k + 1) (Nat.zero_add _) (by rw [fe_en0])⟩)
    intro j h1 h2
    by_cases e : j = k
    · subst e; exact pk_us
    · rw [pk_un e]; exact h j (by omega) h2
theorem x_ms {post : Int32 → SX → Prop} {ar S : Nat → Nat} {c m : Nat} (hc : c ≤ 6) (hm : m ≤ 40) (ha : ∀ i, ar i ≤ 2)
    (hS : ∀ i, i < m → S i < c ∧ xS i = nI (S i))
    (h0 : ¬ (0 < m ∧ fe_pe (fm_v ar S) m 0 = m) → ∀ D, (∀ j, j < m → D j = nI (fe_pe (fm_v ar S) m j)) → post 0 (xcc, xdr, xas, nI m, xnc, xdp, xoc, xrs, xrt, xrf, xrz, fo_n ar, xD, xDe, xUw, xRc, xP, xPe, xPl, xO, xOl, xAr, xS, D, xSn, xF, xNc, xNf, xNs, xNz, xCr, xCn, xCv, xOp, xRl, xTa, xUt))
    (h1 : 0 < m → fe_pe (fm_v ar S) m 0 = m → ∀ D, (∀ j, j < m → D j = nI (fe_pe (fm_v ar S) m j)) → post 1 (xcc, xdr, xas, nI m, xnc, xdp, xoc, xrs, xrt, xrf, xrz, fo_n ar, xD, xDe, xUw, xRc, xP, xPe, xPl, xO, xOl, xAr, xS, D, xSn, xF, xNc, xNf, xNs, xNz, xCr, xCn, xCv, xOp, xRl, xTa, xUt)) :
    wpX_measureSubject post (xcc, xdr, xas, nI m, xnc, xdp, xoc, xrs, xrt, xrf, xrz, fo_n ar, xD, xDe, xUw, xRc, xP, xPe, xPl, xO, xOl, xAr, xS, xSe, xSn, xF, xNc, xNf, xNs, xNz, xCr, xCn, xCv, xOp, xRl, xTa, xUt) :=
  nm_r (e' := nI m + (-1)) (Int32.sub_eq_add_neg _ _) ⟨_, x_ms_out hc hm ha hS h0 h1 m xSe (Nat.le_refl _) (fun j h1 h2 => by omega)⟩
/-- a part of a pattern against a part of the subject -/
theorem x_pf {post : Int32 → Prop} {ar S T : Nat → Nat} {c m n r i p : Nat} (hc : c ≤ 6) (ha : ∀ i, ar i ≤ 2) (hr : r < 20)
    (hS : fx_sub ar c m S xS xSe) (hP : fx_pat ar c xP xPe T n r) (hi : i < n) (hp : p < m)
    (hF : ∀ i' p', i < i' → i' < n → p' < m → xF (i' * 40 + p') = fo_b (fm_F ar T n S m i' p'))
    (h : post (fo_b (fm_F ar T n S m i p))) : wpX_partFits post (xcc, xdr, xas, nI m, xnc, xdp, xoc, xrs, xrt, xrf, xrz, fo_n ar, xD, xDe, xUw, xRc, xP, xPe, xPl, xO, xOl, xAr, xS, xSe, xSn, xF, xNc, xNf, xNs, xNz, xCr, xCn, xCv, xOp, xRl, xTa, xUt) (nI r * 12) (nI i) (nI p) := by
  obtain ⟨hm, fS, hS⟩ := hS
  obtain ⟨hn, fT, hP⟩ := hP
  obtain ⟨t1, t2, t3, t4⟩ := hP i hi
  have h48 := fo_tk_le t1
  have hv := fm_un fT S m hi p
  have ei := fe_full_e fT hi
  have eb : nI r * 12 = nI (12 * r) := (fo_m12 r).trans (congrArg nI (Nat.mul_comm r 12))
  have lk : ∀ (i' p' : Nat), i < i' → i' < n → p' < m → xF (nI (i' * 40) + nI p').toNatClampNeg = fo_b (fm_F ar T n S m i' p') ∧ vp_in (nI (i' * 40) + nI p') 480 := by
    intro i' p' h1 h2 h3
    rw [nI_add]
    exact ⟨by rw [nI_clamp (by omega)]; exact hF i' p' h1 h2 h3, vp_in_nI (by omega) (by decide)⟩
  have e5 : (nI i + 1) * 40 = nI ((i + 1) * 40) := by rw [nI_1, fo_m40]
  rw [eb]
  refine ⟨by rw [nI_add]; exact vp_in_nI (by omega) (by decide), nm_r (e' := nI (T i)) (by rw [nI_add, nI_clamp (by omega), t3]) (nm_r e5 ⟨by decide, nm_r (fo_d8 (by omega)) ?_⟩)⟩
  have second : i + 1 < n → vp_in ((nI (12 * r) + nI i) + 1) 240 ∧ xPe ((nI (12 * r) + nI i) + 1).toNatClampNeg * 40 = nI (fe_pe (fm_o ar T) n (i + 1) * 40) := by
    intro h1
    rw [nI_add, nI_1]
    refine ⟨vp_in_nI (by omega) (by decide), ?_⟩
    rw [nI_clamp (by omega), show 12 * r + i + 1 = 12 * r + (i + 1) by omega, (hP (i + 1) h1).2.2.2, fo_m40]
  refine pk_lt (T i / 8) 2 (fun z => ?_) (fun z => pk_lt 4 (T i / 8) (fun w => by omega) (fun w => pk_eq (T i / 8) 2 (fun k2 => ?_) (fun k2 => pk_eq (T i / 8) 3 (fun k3 => ?_) (fun k3 => pk_eq (T i / 8) 4 (fun k4 => ?_) (fun k4 => trivial)))))
  · rw [if_neg (by omega), if_neg (by omega), if_neg (by omega)] at hv
    rw [hv] at h; exact h
  · rw [if_neg (by omega), if_neg (by omega), if_pos k2] at hv
    obtain ⟨s1, s2, s3⟩ := hS p hp
    refine ⟨vp_in_nI (by omega) (by decide), nm_r (e' := nI (S p)) (by rw [nI_clamp (by omega), s2]) ⟨by decide, ?_⟩⟩
    refine pk_eq (S p) (T i % 8) (fun z1 => ?_) (fun z1 => ?_) rfl (fo_r8 (by omega))
    · have eo : fm_o ar T i = ar (T i % 8) := fo_op2 k2
      have ev : fm_v ar S p = ar (T i % 8) := by show ar (S p) = _; rw [z1]
      have ep := fe_full_e fS hp
      have h2 := ha (T i % 8)
      refine ⟨vp_in_nI (by omega) (by decide), nm_r (e' := nI (ar (T i % 8))) (by rw [nI_clamp (by omega), z1]; rfl) ?_⟩
      refine pk_eq (ar (T i % 8)) 0 (fun a0 => ?_) (fun a0 => ?_)
      · have : fm_F ar T n S m i p = true := by rw [hv]; simp [z1, a0]
        rw [this] at h; exact h
      · have i1 : i + 1 < n ∧ p + 1 < m := by
          by_cases a1 : ar (T i % 8) = 1
          · exact ⟨(fe_pe_c1 _ hi ei.2 fT.2.1 (eo.trans a1)).1, (fe_pe_c1 _ hp ep.2 fS.2.1 (ev.trans a1)).1⟩
          · exact ⟨(fe_pe_c2 _ hi ei.2 fT.2.1 (eo.trans (by omega))).1, (fe_pe_c2 _ hp ep.2 fS.2.1 (ev.trans (by omega))).1⟩
        obtain ⟨l1, l2⟩ := lk (i + 1) (p + 1) (by omega) i1.1 i1.2
        have e1 : (nI ((i + 1) * 40) + nI p) + 1 = nI ((i + 1) * 40) + nI (p + 1) := by rw [nI_add, nI_1, nI_add, Nat.add_assoc]
        rw [e1, l1]
        refine ⟨l2, fo_br (fun b => ?_) (fun b => ?_)⟩
        · have : fm_F ar T n S m i p = false := by rw [hv]; simp [b, a0]
          rw [this] at h; exact h
        · refine pk_eq (ar (T i % 8)) 1 (fun a1 => ?_) (fun a1 => ?_)
          · have : fm_F ar T n S m i p = true := by rw [hv]; simp [b, z1, a1]
            rw [this] at h; exact h
          · have a2 : ar (T i % 8) = 2 := by omega
            obtain ⟨_, c1, c2, _, _⟩ := fe_pe_c2 _ hi ei.2 fT.2.1 (eo.trans a2)
            obtain ⟨_, d1, d2, _, _⟩ := fe_pe_c2 _ hp ep.2 fS.2.1 (ev.trans a2)
            obtain ⟨q1, q2⟩ := second i1.1
            obtain ⟨l3, l4⟩ := lk (fe_pe (fm_o ar T) n (i + 1)) (fe_pe (fm_v ar S) m (p + 1)) (by omega) c2 d2
            have e2 : xSe (nI p + 1).toNatClampNeg = nI (fe_pe (fm_v ar S) m (p + 1)) := by rw [nI_1, nI_clamp (by omega), (hS (p + 1) i1.2).2.2]
            refine ⟨q1, by rw [nI_1]; exact vp_in_nI (by omega) (by decide), ?_⟩
            rw [q2, e2, l3]
            refine ⟨l4, fo_br (fun b2 => ?_) (fun b2 => ?_)⟩
            · have : fm_F ar T n S m i p = false := by rw [hv]; simp [b2, a2]
              rw [this] at h; exact h
            · have : fm_F ar T n S m i p = true := by rw [hv]; simp [b2, b, z1]
              rw [this] at h; exact h
    · have : fm_F ar T n S m i p = false := by rw [hv]; simp [z1]
      rw [this] at h; exact h
  · rw [if_pos k3] at hv
    have eo : fm_o ar T i = 2 := fo_op3 k3
    obtain ⟨c0, c1, c2, _, _⟩ := fe_pe_c2 _ hi ei.2 fT.2.1 eo
    obtain ⟨l1, l2⟩ := lk (i + 1) p (by omega) c0 hp
    rw [l1]
    refine ⟨l2, fo_br (fun b => ?_) (fun b => ?_)⟩
    · obtain ⟨q1, q2⟩ := second c0
      obtain ⟨l3, l4⟩ := lk (fe_pe (fm_o ar T) n (i + 1)) p (by omega) c2 hp
      refine ⟨q1, ?_⟩
      rw [q2, l3]
      refine ⟨l4, fo_br (fun b2 => ?_) (fun b2 => ?_)⟩
      · have : fm_F ar T n S m i p = false := by rw [hv]; simp [b2, b]
        rw [this] at h; exact h
      · have : fm_F ar T n S m i p = true := by rw [hv]; simp [b2]
        rw [this] at h; exact h
    · have : fm_F ar T n S m i p = true := by rw [hv]; simp [b]
      rw [this] at h; exact h
  · rw [if_neg k3, if_pos k4] at hv
    have eo : fm_o ar T i = 1 := fo_op45 (Or.inl k4)
    obtain ⟨c0, _⟩ := fe_pe_c1 _ hi ei.2 fT.2.1 eo
    obtain ⟨l1, l2⟩ := lk (i + 1) p (by omega) c0 hp
    rw [l1]
    refine ⟨l2, fo_br (fun b => ?_) (fun b => ?_)⟩
    · have : fm_F ar T n S m i p = true := by rw [hv]; simp [b]
      rw [this] at h; exact h
    · have : fm_F ar T n S m i p = false := by rw [hv]; simp [b]
      rw [this] at h; exact h
theorem x_mt_in {post : Int32 → SX → Prop} {ar S T : Nat → Nat} {c m n r i : Nat} (hc : c ≤ 6) (ha : ∀ i, ar i ≤ 2) (hr : r < 20)
    (hS : fx_sub ar c m S xS xSe) (hP : fx_pat ar c xP xPe T n r) (hi : i < n)
    {J : Int32 → (Nat → Int32) → (Nat → Int32) → (Nat → Int32) → (Nat → Int32) → (Nat → Int32) → (Nat → Int32) → (Nat → Int32) → (Nat → Int32) → (Nat → Int32) → (Nat → Int32) → (Nat → Int32) → (Nat → Int32) → (Nat → Int32) → (Nat → Int32) → (Nat → Int32) → (Nat → Int32) → (Nat → Int32) → (Nat → Int32) → (Nat → Int32) → (Nat → Int32) → (Nat → Int32) → (Nat → Int32) → (Nat → Int32) → (Nat → Int32) → (Nat → Int32) → (Nat → Int32) → Prop} (hJ : ∀ F, (∀ i' p', i ≤ i' → i' < n → p' < m → F (i' * 40 + p') = fo_b (fm_F ar T n S m i' p')) → J (nI i + (-1)) (fo_n ar) xD xDe xUw xRc xP xPe xPl xO xOl xAr xS xSe xSn F xNc xNf xNs xNz xCr xCn xCv xOp xRl xTa xUt) :
    ∀ p F, p ≤ m → (∀ i' p', i < i' → i' < n → p' < m → F (i' * 40 + p') = fo_b (fm_F ar T n S m i' p')) → (∀ p', p ≤ p' → p' < m → F (i * 40 + p') = fo_b (fm_F ar T n S m i p')) →
      wX_matches_20 post J (nI r) (nI i) xcc xdr xas (nI m) xnc xdp xoc xrs xrt xrf xrz (p + 1) (nI p + (-1)) (fo_n ar) xD xDe xUw xRc xP xPe xPl xO xOl xAr xS xSe xSn F xNc xNf xNs xNz xCr xCn xCv xOp xRl xTa xUt := by
  have hm := hS.1
  have hn := hP.1
  intro p
  induction p with
  | zero =>
    intro F _ h1 h2
    refine br_t (by decide) (nm_e (hJ F (fun i' p' a b d => ?_)))
    by_cases e : i' = i
    · subst e; exact h2 p' (by omega) d
    · exact h1 i' p' (by omega) b d
  | succ p ih =>
    intro F hp h1 h2
    rw [pk_m1]
    refine br_f (nI_pos (by omega)) (x_pf hc ha hr hS hP hi (by omega) h1 ?_)
    refine ⟨by rw [fo_m40, nI_add]; exact vp_in_nI (by omega) (by decide), nm_r (e' := upd F (i * 40 + p) (fo_b (fm_F ar T n S m i p))) ?_ (nm_e (ih _ (by omega) ?_ ?_))⟩
    · rw [fo_m40, nI_add, nI_clamp (by omega), fo_bv]
    · intro i' p' a b d
      rw [pk_un (by omega)]; exact h1 i' p' a b d
    · intro p' a b
      by_cases e : p' = p
      · subst e; exact pk_us
      · rw [pk_un (by omega)]; exact h2 p' (by omega) b
theorem x_mt_out {post : Int32 → SX → Prop} {ar S T : Nat → Nat} {c m n r : Nat} (hc : c ≤ 6) (ha : ∀ i, ar i ≤ 2) (hr : r < 20)
    (hS : fx_sub ar c m S xS xSe) (hP : fx_pat ar c xP xPe T n r) (hp : ∀ F, post (fo_b (fm_F ar T n S m 0 0)) (xcc, xdr, xas, nI m, xnc, xdp, xoc, xrs, xrt, xrf, xrz, fo_n ar, xD, xDe, xUw, xRc, xP, xPe, xPl, xO, xOl, xAr, xS, xSe, xSn, F, xNc, xNf, xNs, xNz, xCr, xCn, xCv, xOp, xRl, xTa, xUt)) :
    ∀ i F, i ≤ n → (∀ i' p', i ≤ i' → i' < n → p' < m → F (i' * 40 + p') = fo_b (fm_F ar T n S m i' p')) →
      wX_matches_9 post (nI r) xcc xdr xas (nI m) xnc xdp xoc xrs xrt xrf xrz (i + 1) (nI i + (-1)) (fo_n ar) xD xDe xUw xRc xP xPe xPl xO xOl xAr xS xSe xSn F xNc xNf xNs xNz xCr xCn xCv xOp xRl xTa xUt := by
  have hn := hP.1
  intro i
  induction i with
  | zero =>
    intro F _ h
    have e : F 0 = fo_b (fm_F ar T n S m 0 0) := h 0 0 (by omega) hP.2.1.1 hS.2.1.1
    refine br_t (by decide) ?_
    rw [e]
    exact ⟨fo_bn _, hp F⟩
  | succ i ih =>
    intro F hi h
    rw [pk_m1]
    refine br_f (nI_pos (by omega)) (nm_r (e' := nI m + (-1)) (Int32.sub_eq_add_neg _ _) ⟨m + 1, x_mt_in hc ha hr hS hP (by omega) (fun F' h' => ih F' (by omega) h') m F (Nat.le_refl _) (fun i' p' a => h i' p' (by omega)) (fun p' a b => by omega)⟩)
theorem x_mt {post : Int32 → SX → Prop} {ar S T : Nat → Nat} {c m n r : Nat} (hc : c ≤ 6) (ha : ∀ i, ar i ≤ 2) (hr : r < 20) {pl : Nat → Nat} (hpl : pl r = n)
    (hS : fx_sub ar c m S xS xSe) (hP : fx_pat ar c xP xPe T n r) (hp : ∀ F, post (fo_b (fm_F ar T n S m 0 0)) (xcc, xdr, xas, nI m, xnc, xdp, xoc, xrs, xrt, xrf, xrz, fo_n ar, xD, xDe, xUw, xRc, xP, xPe, fo_n pl, xO, xOl, xAr, xS, xSe, xSn, F, xNc, xNf, xNs, xNz, xCr, xCn, xCv, xOp, xRl, xTa, xUt)) :
    wpX_matches post (xcc, xdr, xas, nI m, xnc, xdp, xoc, xrs, xrt, xrf, xrz, fo_n ar, xD, xDe, xUw, xRc, xP, xPe, fo_n pl, xO, xOl, xAr, xS, xSe, xSn, xF, xNc, xNf, xNs, xNz, xCr, xCn, xCv, xOp, xRl, xTa, xUt) (nI r) := by
  refine ⟨vp_in_nI hr (by decide), nm_r (e' := nI n + (-1)) ?_ ⟨n + 1, x_mt_out hc ha hr hS hP hp n xF (Nat.le_refl _) (fun i' p' a b => by omega)⟩⟩
  rw [nI_clamp (by omega)]
  show nI (pl r) - 1 = _
  rw [hpl]; exact Int32.sub_eq_add_neg _ _
theorem x_rf_loop {post : Int32 → SX → Prop} {ar S rc pl : Nat → Nat} {pat : Nat → Nat → Nat} {c m f w : Nat} (hc : c ≤ 6) (ha : ∀ i, ar i ≤ 2) (hf : f < 4) (hrc : rc f ≤ 5)
    (hS : fx_sub ar c m S xS xSe) (hP : ∀ i, i < rc f → fx_pat ar c xP xPe (pat (5 * f + i)) (pl (5 * f + i)) (5 * f + i))
    (h0 : w = 0 → ∀ F, post (-1) (xcc, xdr, xas, nI m, xnc, xdp, xoc, xrs, xrt, xrf, xrz, fo_n ar, xD, xDe, xUw, fo_n rc, xP, xPe, fo_n pl, xO, xOl, xAr, xS, xSe, xSn, F, xNc, xNf, xNs, xNz, xCr, xCn, xCv, xOp, xRl, xTa, xUt))
    (h1 : w ≠ 0 → ∀ F, post (nI (w - 1)) (xcc, xdr, xas, nI m, xnc, xdp, xoc, xrs, xrt, xrf, xrz, fo_n ar, xD, xDe, xUw, fo_n rc, xP, xPe, fo_n pl, xO, xOl, xAr, xS, xSe, xSn, F, xNc, xNf, xNs, xNz, xCr, xCn, xCv, xOp, xRl, xTa, xUt)) :
    ∀ d i F, i + d = rc f → w = fm_tk (fun i => fm_F ar (pat (5 * f + i)) (pl (5 * f + i)) S m 0 0) d i →
      wX_rowFor_2 post (nI f) (d + 1) (nI i) xcc xdr xas (nI m) xnc xdp xoc xrs xrt xrf xrz (fo_n ar) xD xDe xUw (fo_n rc) xP xPe (fo_n pl) xO xOl xAr xS xSe xSn F xNc xNf xNs xNz xCr xCn xCv xOp xRl xTa xUt := by
  intro d
  induction d with
  | zero =>
    intro i F hi hw
    refine ⟨vp_in_nI hf (by decide), br_t ?_ (h0 hw F)⟩
    rw [nI_clamp (by omega)]
    exact nI_le (a := rc f) (by omega) (by omega)
  | succ d ih =>
    intro i F hi hw
    refine ⟨vp_in_nI hf (by decide), br_f ?_ ?_⟩
    · rw [nI_clamp (by omega)]
      exact nI_ge (b := rc f) (by omega) (by omega)
    rw [show nI f * 5 + nI i = nI (5 * f + i) by rw [fo_m5, nI_add, Nat.mul_comm]]
    refine x_mt hc ha (by omega) rfl hS (hP i (by omega)) (fun F' => fo_br (fun b => nm_r (nI_1 i) (ih (i + 1) F' (by omega) ?_)) (fun b => ?_))
    · rw [hw]; simp only [fm_tk]; rw [if_neg (by rw [b]; decide)]
    · have e : w = i + 1 := by rw [hw]; simp only [fm_tk]; rw [if_pos b]
      have := h1 (by omega) F'
      rw [show w - 1 = i by omega] at this
      exact this
theorem x_rf {post : Int32 → SX → Prop} {ar S rc pl : Nat → Nat} {pat : Nat → Nat → Nat} {c m f : Nat} (hc : c ≤ 6) (ha : ∀ i, ar i ≤ 2) (hf : f < 4) (hrc : rc f ≤ 5)
    (hS : fx_sub ar c m S xS xSe) (hP : ∀ i, i < rc f → fx_pat ar c xP xPe (pat (5 * f + i)) (pl (5 * f + i)) (5 * f + i))
    (h0 : fm_row ar pat pl rc f S m = 0 → ∀ F, post (-1) (xcc, xdr, xas, nI m, xnc, xdp, xoc, xrs, xrt, xrf, xrz, fo_n ar, xD, xDe, xUw, fo_n rc, xP, xPe, fo_n pl, xO, xOl, xAr, xS, xSe, xSn, F, xNc, xNf, xNs, xNz, xCr, xCn, xCv, xOp, xRl, xTa, xUt))
    (h1 : fm_row ar pat pl rc f S m ≠ 0 → ∀ F, post (nI (fm_row ar pat pl rc f S m - 1)) (xcc, xdr, xas, nI m, xnc, xdp, xoc, xrs, xrt, xrf, xrz, fo_n ar, xD, xDe, xUw, fo_n rc, xP, xPe, fo_n pl, xO, xOl, xAr, xS, xSe, xSn, F, xNc, xNf, xNs, xNz, xCr, xCn, xCv, xOp, xRl, xTa, xUt)) :
    wpX_rowFor post (xcc, xdr, xas, nI m, xnc, xdp, xoc, xrs, xrt, xrf, xrz, fo_n ar, xD, xDe, xUw, fo_n rc, xP, xPe, fo_n pl, xO, xOl, xAr, xS, xSe, xSn, xF, xNc, xNf, xNs, xNz, xCr, xCn, xCv, xOp, xRl, xTa, xUt) (nI f) :=
  ⟨rc f + 1, x_rf_loop hc ha hf hrc hS hP h0 h1 (rc f) 0 xF (by omega) rfl⟩
/-- the argument is seated -/
theorem x_sa_loop {post : SX → Prop} {ar W : Nat → Nat} {c m : Nat} (hc : c ≤ 6) (ha : ∀ i, ar i ≤ 2) (hW : fR_val ar c m W xAr)
    (hp : ∀ s e, fx_sub ar c m W s e → post (xcc, xdr, nI m, nI m, xnc, xdp, xoc, xrs, xrt, xrf, xrz, fo_n ar, xD, xDe, xUw, xRc, xP, xPe, xPl, xO, xOl, xAr, s, e, xSn, xF, xNc, xNf, xNs, xNz, xCr, xCn, xCv, xOp, xRl, xTa, xUt)) :
    ∀ d i s, i + d = m → (∀ j, j < i → s j = nI (W j)) → wX_seatArgument_10 post xcc xdr (nI m) (nI m) xnc xdp xoc xrs xrt xrf xrz (d + 1) (nI i) (fo_n ar) xD xDe xUw xRc xP xPe xPl xO xOl xAr s xSe xSn xF xNc xNf xNs xNz xCr xCn xCv xOp xRl xTa xUt := by
  obtain ⟨w1, w2, w3⟩ := hW
  intro d
  induction d with
  | zero =>
    intro i s hi h
    have : i = m := by omega
    subst this
    refine br_t (nI_le (Nat.le_refl _) (by omega)) (x_ms (S := W) hc w1 ha (fun j hj => ⟨(w3 j hj).1, h j hj⟩) (fun g => absurd ⟨w2.1, w2.2.2⟩ g) (fun _ _ D hD => hp s D ⟨w1, w2, fun j hj => ⟨(w3 j hj).1, h j hj, hD j hj⟩⟩))
  | succ d ih =>
    intro i s hi h
    refine br_f (nI_ge (by omega) (by omega)) ⟨vp_in_nI (by omega) (by decide), vp_in_nI (by omega) (by decide), nm_r (e' := upd s i (nI (W i))) ?_ (nm_r (nI_1 i) (ih (i + 1) _ (by omega) ?_))⟩
    · rw [nI_clamp (by omega), (w3 i (by omega)).2]
    · intro j hj
      by_cases e : j = i
      · subst e; exact pk_us
      · rw [pk_un e]; exact h j (by omega)
theorem x_sa {post : SX → Prop} {ar W : Nat → Nat} {c m : Nat} (hc : c ≤ 6) (ha : ∀ i, ar i ≤ 2) (hW : fR_val ar c m W xAr)
    (hp : ∀ s e, fx_sub ar c m W s e → post (xcc, xdr, nI m, nI m, xnc, xdp, xoc, xrs, xrt, xrf, xrz, fo_n ar, xD, xDe, xUw, xRc, xP, xPe, xPl, xO, xOl, xAr, s, e, xSn, xF, xNc, xNf, xNs, xNz, xCr, xCn, xCv, xOp, xRl, xTa, xUt)) : wpX_seatArgument post (xcc, xdr, nI m, xss, xnc, xdp, xoc, xrs, xrt, xrf, xrz, fo_n ar, xD, xDe, xUw, xRc, xP, xPe, xPl, xO, xOl, xAr, xS, xSe, xSn, xF, xNc, xNf, xNs, xNz, xCr, xCn, xCv, xOp, xRl, xTa, xUt) :=
  ⟨m + 1, x_sa_loop hc ha hW hp m 0 xS (by omega) (fun j hj => by omega)⟩
end
end
section
/-- a row's pattern, as the reference holds it -/
def fy_pat (ar : Nat → Nat) (c : Nat) (yk yw : Nat → Int32) (T : Nat → Nat) (n r : Nat) : Prop :=
  n ≤ 12 ∧ fe_full (fm_o ar T) n ∧ ∀ j, j < n → fo_tk c (T j) ∧ T j / 8 < 5 ∧ yk (24 * r + j) = nI (T j / 8) ∧ ((T j / 8 = 1 ∨ T j / 8 = 2) → yw (24 * r + j) = nI (T j % 8))
theorem fy_pat_of {ar : Nat → Nat} {c : Nat} {xp xe xo xl yk yw : Nat → Int32} {T : Nat → Nat} {n : Nat} {pre pos : List Nat} {r : Nat}
    (h : fR_row ar c xp xe xo xl yk yw T n pre pos r) : fy_pat ar c yk yw T n r :=
  ⟨h.1, h.2.1, fun j hj => ⟨(h.2.2.1 j hj).1, (h.2.2.1 j hj).2.1, (h.2.2.1 j hj).2.2.2.2.1, (h.2.2.1 j hj).2.2.2.2.2⟩⟩
section
variable {ycc ydr ynd yln yal ygl yst ybl yhw yrn ywk : Int32} {yA yDk yDw yK yW yPl yRl yRc yHd yLf yRg ySz yLi ySk ySt yAr yGv yF yEn yPc yBd yWk yWw yOw yCt yOz yOp yKn : Nat → Int32}
theorem y_pe_loop {post : Int32 → Prop} {ar T : Nat → Nat} {c n r e : Nat} (hc : c ≤ 6) (ha : ∀ i, ar i ≤ 2) (hr : r < 20) (hP : fy_pat ar c yK yW T n r) (he : e ≤ n)
    (h : post (nI (24 * r + e))) : ∀ d k i, i + d = n → k ≤ i + 1 → e = fe_en (fm_o ar T) d k i → wY_partEnd_4 post ycc ydr ynd yln yal ygl yst ybl yhw yrn ywk (fo_n ar) yDk yDw yK yW yPl yRl yRc yHd yLf yRg ySz yLi ySk ySt yAr yGv yF yEn yPc yBd yWk yWw yOw yCt yOz yOp yKn (d + 1) (nI k) (nI (24 * r + i)) := by
  obtain ⟨hn, fT, hP⟩ := hP
  intro d
  induction d with
  | zero =>
    intro k i hi hk h1
    refine pk_le k 0 (fun z => ?_) (fun z => ?_)
    · have : k = 0 := by omega
      subst this
      rw [fe_en0] at h1
      rw [← h1]; exact h
    · obtain ⟨q, rfl⟩ : ∃ q, k = q + 1 := ⟨k - 1, by omega⟩
      rw [fe_enz] at h1
      omega
  | succ d ih =>
    intro k i hi hk h1
    refine pk_le k 0 (fun z => ?_) (fun z => ?_)
    · have : k = 0 := by omega
      subst this
      rw [fe_en0] at h1
      rw [← h1]; exact h
    · obtain ⟨t1, t2, t3, t4⟩ := hP i (by omega)
      refine ⟨vp_in_nI (by omega) (by decide), vp_in_nI (by omega) (by decide), ?_⟩
      rw [nI_clamp (by omega), t3]
      refine y_ops hc t1 (fun k2 => t4 (Or.inr k2)) (nm_r (fo_ko z) (nm_r (nI_1 _) (ih _ (i + 1) (by omega) ?_ ?_)))
      · have := fo_op_le ha (T i); omega
      · obtain ⟨q, rfl⟩ : ∃ q, k = q + 1 := ⟨k - 1, by omega⟩
        exact h1
theorem y_pe {post : Int32 → Prop} {ar T : Nat → Nat} {c n r i : Nat} (hc : c ≤ 6) (ha : ∀ i, ar i ≤ 2) (hr : r < 20) (hP : fy_pat ar c yK yW T n r) (hi : i < n)
    (h : post (nI (24 * r + fe_pe (fm_o ar T) n i))) : wpY_partEnd post (ycc, ydr, ynd, yln, yal, ygl, yst, ybl, yhw, yrn, ywk, fo_n ar, yDk, yDw, yK, yW, yPl, yRl, yRc, yHd, yLf, yRg, ySz, yLi, ySk, ySt, yAr, yGv, yF, yEn, yPc, yBd, yWk, yWw, yOw, yCt, yOz, yOp, yKn) (nI (24 * r + i)) :=
  ⟨n - i + 1, y_pe_loop hc ha hr hP (fe_full_e hP.2.1 hi).2 h (n - i) 1 i (by omega) (by omega) rfl⟩
theorem y_ms_in {post : SY → Prop} {ar S : Nat → Nat} {c m i : Nat} (hc : c ≤ 6) (hi : i < m) (hm : m ≤ 40) (ha : ∀ i, ar i ≤ 2) (hf : fe_full (fm_v ar S) m) (hS : S i < c ∧ yLi i = nI (S i))
    {J : Int32 → (Nat → Int32) → (Nat → Int32) → (Nat → Int32) → (Nat → Int32) → (Nat → Int32) → (Nat → Int32) → (Nat → Int32) → (Nat → Int32) → (Nat → Int32) → (Nat → Int32) → (Nat → Int32) → (Nat → Int32) → (Nat → Int32) → (Nat → Int32) → (Nat → Int32) → (Nat → Int32) → (Nat → Int32) → (Nat → Int32) → (Nat → Int32) → (Nat → Int32) → (Nat → Int32) → (Nat → Int32) → (Nat → Int32) → (Nat → Int32) → (Nat → Int32) → (Nat → Int32) → (Nat → Int32) → (Nat → Int32) → Prop} (hD : ∀ j, i < j → j < m → yEn j = nI (fe_pe (fm_v ar S) m j))
    (hJ : J (nI i + (-1)) (fo_n ar) yDk yDw yK yW yPl yRl yRc yHd yLf yRg ySz yLi ySk ySt yAr yGv yF (upd yEn i (nI (fe_pe (fm_v ar S) m i))) yPc yBd yWk yWw yOw yCt yOz yOp yKn) :
    ∀ d k e, k + d = fm_v ar S i → e = fe_en (fm_v ar S) (m - (i + 1)) k (i + 1) →
      wY_measure_17 post J (nI i) ycc ydr ynd (nI m) yal ygl yst ybl yhw yrn ywk (fo_n ar) yDk yDw yK yW yPl yRl yRc yHd yLf yRg ySz yLi ySk ySt yAr yGv yF yEn yPc yBd yWk yWw yOw yCt yOz yOp yKn (d + 1) (nI e) (nI k) := by
  have ho : fm_v ar S i ≤ 2 := ha _
  have ei := fe_full_e hf hi
  intro d
  induction d with
  | zero =>
    intro k e hk he
    refine ⟨vp_in_nI (by omega) (by decide), ?_⟩
    rw [nI_clamp (by omega), hS.2, nI_clamp (by omega)]
    refine ⟨vp_in_nI (by omega) (by decide), br_t (nI_le (a := fm_v ar S i) (by omega) (by omega)) ⟨vp_in_nI (by omega) (by decide), nm_r ?_ (nm_e hJ)⟩⟩
    rw [he, fe_pe_def _ hi, show k = fm_v ar S i by omega]
  | succ d ih =>
    intro k e hk he
    have hs := fe_pe_snoc (fm_v ar S) hi (by omega) k
    have hin := fe_pe_in (fm_v ar S) hi ei.2 hf.2.1 (k := k) (by omega)
    rw [← he] at hin hs
    rw [if_pos hin.2] at hs
    refine ⟨vp_in_nI (by omega) (by decide), ?_⟩
    rw [nI_clamp (by omega), hS.2, nI_clamp (by omega)]
    refine ⟨vp_in_nI (by omega) (by decide), br_f (nI_ge (b := fm_v ar S i) (by omega) (by omega)) ⟨vp_in_nI (by omega) (by decide), nm_r (e' := nI (fe_pe (fm_v ar S) m e)) ?_ (nm_r (nI_1 k) (ih (k + 1) _ (by omega) hs.symm))⟩⟩
    rw [nI_clamp (by omega), hD e (by omega) (by omega)]
theorem y_ms_out {post : SY → Prop} {ar S : Nat → Nat} {c m : Nat} (hc : c ≤ 6) (hm : m ≤ 40) (ha : ∀ i, ar i ≤ 2) (hf : fe_full (fm_v ar S) m)
    (hS : ∀ i, i < m → S i < c ∧ yLi i = nI (S i)) (hp : ∀ D, fx_sub ar c m S yLi D → post (ycc, ydr, ynd, nI m, yal, ygl, yst, ybl, yhw, yrn, ywk, fo_n ar, yDk, yDw, yK, yW, yPl, yRl, yRc, yHd, yLf, yRg, ySz, yLi, ySk, ySt, yAr, yGv, yF, D, yPc, yBd, yWk, yWw, yOw, yCt, yOz, yOp, yKn)) :
    ∀ i D, i ≤ m → (∀ j, i ≤ j → j < m → D j = nI (fe_pe (fm_v ar S) m j)) → wY_measure_7 post ycc ydr ynd (nI m) yal ygl yst ybl yhw yrn ywk (i + 1) (nI i + (-1)) (fo_n ar) yDk yDw yK yW yPl yRl yRc yHd yLf yRg ySz yLi ySk ySt yAr yGv yF D yPc yBd yWk yWw yOw yCt yOz yOp yKn := by
  intro i
  induction i with
  | zero => intro D _ h; exact br_t (by decide) (hp D ⟨hm, hf, fun j hj => ⟨(hS j hj).1, (hS j hj).2, h j (by omega) hj⟩⟩)
  | succ k ih =>
    intro D hk h
    rw [pk_m1]
    refine br_f (nI_pos (by omega)) (nm_r (nI_1 k) ⟨_, y_ms_in hc (by omega) hm ha hf (hS k (by omega)) (fun j h1 h2 => h j (by omega) h2) (ih _ (by omega) ?_) _ 0 (k + 1) (Nat.zero_add _) (by rw [fe_en0])⟩)
    intro j h1 h2
    by_cases e : j = k
    · subst e; exact pk_us
    · rw [pk_un e]; exact h j (by omega) h2
theorem y_ms {post : SY → Prop} {ar S : Nat → Nat} {c m : Nat} (hc : c ≤ 6) (hm : m ≤ 40) (ha : ∀ i, ar i ≤ 2) (hf : fe_full (fm_v ar S) m)
    (hS : ∀ i, i < m → S i < c ∧ yLi i = nI (S i)) (hp : ∀ D, fx_sub ar c m S yLi D → post (ycc, ydr, ynd, nI m, yal, ygl, yst, ybl, yhw, yrn, ywk, fo_n ar, yDk, yDw, yK, yW, yPl, yRl, yRc, yHd, yLf, yRg, ySz, yLi, ySk, ySt, yAr, yGv, yF, D, yPc, yBd, yWk, yWw, yOw, yCt, yOz, yOp, yKn)) :
    wpY_measure post (ycc, ydr, ynd, nI m, yal, ygl, yst, ybl, yhw, yrn, ywk, fo_n ar, yDk, yDw, yK, yW, yPl, yRl, yRc, yHd, yLf, yRg, ySz, yLi, ySk, ySt, yAr, yGv, yF, yEn, yPc, yBd, yWk, yWw, yOw, yCt, yOz, yOp, yKn) :=
  nm_r (e' := nI m + (-1)) (Int32.sub_eq_add_neg _ _) ⟨_, y_ms_out hc hm ha hf hS hp m yEn (Nat.le_refl _) (fun j h1 h2 => by omega)⟩
theorem y_c243 {post : Int32 → SY → Prop} {J14 J70 : Int32 → (Nat → Int32) → (Nat → Int32) → (Nat → Int32) → (Nat → Int32) → (Nat → Int32) → (Nat → Int32) → (Nat → Int32) → (Nat → Int32) → (Nat → Int32) → (Nat → Int32) → (Nat → Int32) → (Nat → Int32) → (Nat → Int32) → (Nat → Int32) → (Nat → Int32) → (Nat → Int32) → (Nat → Int32) → (Nat → Int32) → (Nat → Int32) → (Nat → Int32) → (Nat → Int32) → (Nat → Int32) → (Nat → Int32) → (Nat → Int32) → (Nat → Int32) → (Nat → Int32) → (Nat → Int32) → (Nat → Int32) → Prop} {x2 x4 x5 x6 : Int32} {i p : Nat} {b : Bool} (hi : i < 12) (hp : p < 40)
    (hJ : J70 (nI (p + 1)) yA yDk yDw yK yW yPl yRl yRc yHd yLf yRg ySz yLi ySk ySt yAr yGv (upd yF (40 * i + p) (fo_b b)) yEn yPc yBd yWk yWw yOw yCt yOz yOp yKn) : wY_matches_243 post J14 J70 x2 (nI i) x4 x5 x6 (nI p) (fo_b b) ycc ydr ynd yln yal ygl yst ybl yhw yrn ywk yA yDk yDw yK yW yPl yRl yRc yHd yLf yRg ySz yLi ySk ySt yAr yGv yF yEn yPc yBd yWk yWw yOw yCt yOz yOp yKn := by
  refine ⟨by rw [fo_40m, nI_add]; exact vp_in_nI (by omega) (by decide), nm_r ?_ (nm_r (nI_1 p) hJ)⟩
  rw [fo_40m, nI_add, nI_clamp (by omega), fo_bv]
/-- a part of a pattern against a part of the list -/
theorem y_cell {post : Int32 → SY → Prop} {J14 J70 : Int32 → (Nat → Int32) → (Nat → Int32) → (Nat → Int32) → (Nat → Int32) → (Nat → Int32) → (Nat → Int32) → (Nat → Int32) → (Nat → Int32) → (Nat → Int32) → (Nat → Int32) → (Nat → Int32) → (Nat → Int32) → (Nat → Int32) → (Nat → Int32) → (Nat → Int32) → (Nat → Int32) → (Nat → Int32) → (Nat → Int32) → (Nat → Int32) → (Nat → Int32) → (Nat → Int32) → (Nat → Int32) → (Nat → Int32) → (Nat → Int32) → (Nat → Int32) → (Nat → Int32) → (Nat → Int32) → (Nat → Int32) → Prop} {ar S T : Nat → Nat} {c m n r i p : Nat} {x6 : Int32} (hc : c ≤ 6) (ha : ∀ i, ar i ≤ 2) (hr : r < 20)
    (hS : fx_sub ar c m S yLi yEn) (hP : fy_pat ar c yK yW T n r) (hi : i < n) (hp : p < m) (h6 : fo_op ar (T i) = 2 → x6 = nI (fe_pe (fm_o ar T) n (i + 1)))
    (hF : ∀ i' p', i < i' → i' < n → p' < m → yF (40 * i' + p') = fo_b (fm_F ar T n S m i' p'))
    (hJ : J70 (nI (p + 1)) (fo_n ar) yDk yDw yK yW yPl yRl yRc yHd yLf yRg ySz yLi ySk ySt yAr yGv (upd yF (40 * i + p) (fo_b (fm_F ar T n S m i p))) yEn yPc yBd yWk yWw yOw yCt yOz yOp yKn) :
    ((nI (T i / 8) = 3 → (vp_in ((40 * (nI i + 1)) + nI p) 480 ∧ (((yF ((40 * (nI i + 1)) + nI p).toNatClampNeg = 0 → (vp_in ((40 * x6) + nI p) 480 ∧ (((yF ((40 * x6) + nI p).toNatClampNeg = 0 → (wY_matches_126 post J14 J70 (nI (24 * r)) (nI i) (nI (T i / 8)) (nI (fo_op ar (T i))) x6 (nI p) 0 ycc ydr ynd yln yal ygl yst ybl yhw yrn ywk (fo_n ar) yDk yDw yK yW yPl yRl yRc yHd yLf yRg ySz yLi ySk ySt yAr yGv yF yEn yPc yBd yWk yWw yOw yCt yOz yOp yKn)) ∧ (¬ yF ((40 * x6) + nI p).toNatClampNeg = 0 → (wY_matches_121 post J14 J70 (nI (24 * r)) (nI i) (nI (T i / 8)) (nI (fo_op ar (T i))) x6 (nI p) ycc ydr ynd yln yal ygl yst ybl yhw yrn ywk (fo_n ar) yDk yDw yK yW yPl yRl yRc yHd yLf yRg ySz yLi ySk ySt yAr yGv yF yEn yPc yBd yWk yWw yOw yCt yOz yOp yKn)))))) ∧ (¬ yF ((40 * (nI i + 1)) + nI p).toNatClampNeg = 0 → (wY_matches_121 post J14 J70 (nI (24 * r)) (nI i) (nI (T i / 8)) (nI (fo_op ar (T i))) x6 (nI p) ycc ydr ynd yln yal ygl yst ybl yhw yrn ywk (fo_n ar) yDk yDw yK yW yPl yRl yRc yHd yLf yRg ySz yLi ySk ySt yAr yGv yF yEn yPc yBd yWk yWw yOw yCt yOz yOp yKn)))))) ∧
     (¬ nI (T i / 8) = 3 → (wY_matches_128 post J14 J70 (nI (24 * r)) (nI i) (nI (T i / 8)) (nI (fo_op ar (T i))) x6 (nI p) 1 ycc ydr ynd yln yal ygl yst ybl yhw yrn ywk (fo_n ar) yDk yDw yK yW yPl yRl yRc yHd yLf yRg ySz yLi ySk ySt yAr yGv yF yEn yPc yBd yWk yWw yOw yCt yOz yOp yKn))) := by
  obtain ⟨hm, fS, hS⟩ := hS
  obtain ⟨hn, fT, hP⟩ := hP
  obtain ⟨t1, t2, t3, t4⟩ := hP i hi
  have h48 := fo_tk_le t1
  have hv := fm_un fT S m hi p
  have ei := fe_full_e fT hi
  have lk : ∀ (i' p' : Nat), i < i' → i' < n → p' < m → yF (nI (40 * i') + nI p').toNatClampNeg = fo_b (fm_F ar T n S m i' p') ∧ vp_in (nI (40 * i') + nI p') 480 := by
    intro i' p' h1 h2 h3
    rw [nI_add]
    exact ⟨by rw [nI_clamp (by omega)]; exact hF i' p' h1 h2 h3, vp_in_nI (by omega) (by decide)⟩
  have e1 : 40 * (nI i + 1) = nI (40 * (i + 1)) := by rw [nI_1, fo_40m]
  have put : ∀ b : Bool, fm_F ar T n S m i p = b → wY_matches_243 post J14 J70 (nI (24 * r)) (nI i) (nI (T i / 8)) (nI (fo_op ar (T i))) x6 (nI p) (fo_b b) ycc ydr ynd yln yal ygl yst ybl yhw yrn ywk (fo_n ar) yDk yDw yK yW yPl yRl yRc yHd yLf yRg ySz yLi ySk ySt yAr yGv yF yEn yPc yBd yWk yWw yOw yCt yOz yOp yKn := by
    intro b hb
    rw [hb] at hJ
    exact y_c243 (by omega) (by omega) hJ
  rw [e1]
  refine pk_eq (T i / 8) 3 (fun k3 => ?_) (fun k3 => ?_)
  · rw [if_pos k3] at hv
    have eo : fm_o ar T i = 2 := fo_op3 k3
    obtain ⟨c0, c1, c2, _, _⟩ := fe_pe_c2 _ hi ei.2 fT.2.1 eo
    obtain ⟨l1, l2⟩ := lk (i + 1) p (by omega) c0 hp
    obtain ⟨l3, l4⟩ := lk (fe_pe (fm_o ar T) n (i + 1)) p (by omega) c2 hp
    have n4 : ¬ nI (T i / 8) = 4 := fun z => by have := (nI_eq (b := 4) (by omega) (by decide)).mp z; omega
    have n2 : ¬ nI (T i / 8) = 2 := fun z => by have := (nI_eq (b := 2) (by omega) (by decide)).mp z; omega
    rw [l1, h6 eo, fo_40m, l3]
    rw [h6 eo] at put
    refine ⟨l2, fo_br (fun b => ⟨l4, fo_br (fun b2 => br_f n4 (br_f n2 (put false ?_))) (fun b2 => br_f n4 (br_f n2 (put true ?_)))⟩) (fun b => br_f n4 (br_f n2 (put true ?_)))⟩
    · rw [hv]; simp [b, b2]
    · rw [hv]; simp [b2]
    · rw [hv]; simp [b]
  · rw [if_neg k3] at hv
    refine pk_eq (T i / 8) 4 (fun k4 => ?_) (fun k4 => ?_)
    · rw [if_pos k4] at hv
      have eo : fm_o ar T i = 1 := fo_op45 (Or.inl k4)
      obtain ⟨c0, _⟩ := fe_pe_c1 _ hi ei.2 fT.2.1 eo
      obtain ⟨l1, l2⟩ := lk (i + 1) p (by omega) c0 hp
      have n2 : ¬ nI (T i / 8) = 2 := fun z => by have := (nI_eq (b := 2) (by omega) (by decide)).mp z; omega
      rw [e1, l1]
      refine ⟨l2, fo_br (fun b => br_f n2 (put true ?_)) (fun b => br_f n2 (put false ?_))⟩
      · rw [hv]; simp [b]
      · rw [hv]; simp [b]
    · rw [if_neg k4] at hv
      refine pk_eq (T i / 8) 2 (fun k2 => ?_) (fun k2 => put true (by rw [hv, if_neg k2]))
      rw [if_pos k2] at hv
      obtain ⟨s1, s2, s3⟩ := hS p hp
      have eo : fo_op ar (T i) = ar (T i % 8) := fo_op2 k2
      have h2 := ha (T i % 8)
      refine ⟨vp_in_nI (by omega) (by decide), by rw [nI_add]; exact vp_in_nI (by omega) (by decide), ?_⟩
      rw [nI_add, nI_clamp (by omega), nI_clamp (by omega), s2, t4 (Or.inr k2), eo]
      rw [eo] at put
      refine pk_eq (S p) (T i % 8) (fun z1 => ?_) (fun z1 => put false (by rw [hv]; simp [z1]))
      have ev : fm_v ar S p = ar (T i % 8) := by show ar (S p) = _; rw [z1]
      have ep := fe_full_e fS hp
      have last : (ar (T i % 8) < 1 ∨ fm_F ar T n S m (i + 1) (p + 1) = true) → wY_matches_207 post J14 J70 (nI (24 * r)) (nI i) (nI (T i / 8)) (nI (ar (T i % 8))) x6 (nI p) ycc ydr ynd yln yal ygl yst ybl yhw yrn ywk (fo_n ar) yDk yDw yK yW yPl yRl yRc yHd yLf yRg ySz yLi ySk ySt yAr yGv yF yEn yPc yBd yWk yWw yOw yCt yOz yOp yKn := by
        intro hb
        refine pk_lt (ar (T i % 8)) 2 (fun a2 => put true ?_) (fun a2 => ?_)
        · rw [hv]; simp only [z1, a2, decide_true, Bool.true_and, Bool.true_or, Bool.and_true, Bool.or_eq_true, decide_eq_true_eq]; exact hb
        · have a2' : ar (T i % 8) = 2 := by omega
          obtain ⟨_, c1, c2, _, _⟩ := fe_pe_c2 _ hi ei.2 fT.2.1 (show fm_o ar T i = 2 from eo.trans a2')
          obtain ⟨d0, d1, d2, _, _⟩ := fe_pe_c2 _ hp ep.2 fS.2.1 (ev.trans a2')
          obtain ⟨l3, l4⟩ := lk (fe_pe (fm_o ar T) n (i + 1)) (fe_pe (fm_v ar S) m (p + 1)) (by omega) c2 d2
          have e2 : yEn (nI p + 1).toNatClampNeg = nI (fe_pe (fm_v ar S) m (p + 1)) := by rw [nI_1, nI_clamp (by omega), (hS (p + 1) d0).2.2]
          refine ⟨by rw [nI_1]; exact vp_in_nI (by omega) (by decide), ?_⟩
          rw [h6 (eo.trans a2'), fo_40m, e2, l3]
          rw [h6 (eo.trans a2')] at put
          have hb' := hb.resolve_left (by omega)
          refine ⟨l4, fo_br (fun b2 => put false ?_) (fun b2 => put true ?_)⟩
          · rw [hv]; simp [b2, a2']
          · rw [hv]; simp [b2, hb', z1]
      refine pk_lt (ar (T i % 8)) 1 (fun a1 => last (Or.inl a1)) (fun a1 => ?_)
      have i1 : i + 1 < n ∧ p + 1 < m := by
        have eo' : fm_o ar T i = ar (T i % 8) := eo
        by_cases a2 : ar (T i % 8) = 1
        · exact ⟨(fe_pe_c1 _ hi ei.2 fT.2.1 (eo'.trans a2)).1, (fe_pe_c1 _ hp ep.2 fS.2.1 (ev.trans a2)).1⟩
        · exact ⟨(fe_pe_c2 _ hi ei.2 fT.2.1 (eo'.trans (by omega))).1, (fe_pe_c2 _ hp ep.2 fS.2.1 (ev.trans (by omega))).1⟩
      obtain ⟨l1, l2⟩ := lk (i + 1) (p + 1) (by omega) i1.1 i1.2
      have e3 : ((40 * (nI i + 1)) + nI p) + 1 = nI (40 * (i + 1)) + nI (p + 1) := by rw [e1, nI_add, nI_1, nI_add, Nat.add_assoc]
      rw [e3, l1]
      refine ⟨l2, fo_br (fun b => put false ?_) (fun b => last (Or.inr b))⟩
      rw [hv]
      have : ¬ ar (T i % 8) < 1 := by omega
      simp [b, this]
theorem y_mt_in {post : Int32 → SY → Prop} {ar S T : Nat → Nat} {c m n r i : Nat} {x6 : Int32} (hc : c ≤ 6) (ha : ∀ i, ar i ≤ 2) (hr : r < 20)
    (hS : fx_sub ar c m S yLi yEn) (hP : fy_pat ar c yK yW T n r) (hi : i < n) (h6 : fo_op ar (T i) = 2 → x6 = nI (fe_pe (fm_o ar T) n (i + 1)))
    {J : Int32 → (Nat → Int32) → (Nat → Int32) → (Nat → Int32) → (Nat → Int32) → (Nat → Int32) → (Nat → Int32) → (Nat → Int32) → (Nat → Int32) → (Nat → Int32) → (Nat → Int32) → (Nat → Int32) → (Nat → Int32) → (Nat → Int32) → (Nat → Int32) → (Nat → Int32) → (Nat → Int32) → (Nat → Int32) → (Nat → Int32) → (Nat → Int32) → (Nat → Int32) → (Nat → Int32) → (Nat → Int32) → (Nat → Int32) → (Nat → Int32) → (Nat → Int32) → (Nat → Int32) → (Nat → Int32) → (Nat → Int32) → Prop} (hJ : ∀ F, (∀ i' p', i ≤ i' → i' < n → p' < m → F (40 * i' + p') = fo_b (fm_F ar T n S m i' p')) → J (nI i + (-1)) (fo_n ar) yDk yDw yK yW yPl yRl yRc yHd yLf yRg ySz yLi ySk ySt yAr yGv F yEn yPc yBd yWk yWw yOw yCt yOz yOp yKn) :
    ∀ d p F, p + d = m → (∀ i' p', i < i' → i' < n → p' < m → F (40 * i' + p') = fo_b (fm_F ar T n S m i' p')) → (∀ p', p' < p → F (40 * i + p') = fo_b (fm_F ar T n S m i p')) →
      wY_matches_70 post J (nI (24 * r)) (nI i) (nI (T i / 8)) (nI (fo_op ar (T i))) x6 ycc ydr ynd (nI m) yal ygl yst ybl yhw yrn ywk (d + 1) (nI p) (fo_n ar) yDk yDw yK yW yPl yRl yRc yHd yLf yRg ySz yLi ySk ySt yAr yGv F yEn yPc yBd yWk yWw yOw yCt yOz yOp yKn := by
  have hm := hS.1
  have hn := hP.1
  intro d
  induction d with
  | zero =>
    intro p F hp h1 h2
    refine br_t (nI_le (by omega) (by omega)) (nm_e (hJ F (fun i' p' a b d => ?_)))
    by_cases e : i' = i
    · subst e; exact h2 p' (by omega)
    · exact h1 i' p' (by omega) b d
  | succ d ih =>
    intro p F hp h1 h2
    refine br_f (nI_ge (by omega) (by omega)) (y_cell hc ha hr hS hP hi (by omega) h6 h1 (ih (p + 1) _ (by omega) ?_ ?_))
    · intro i' p' a b d
      rw [pk_un (by omega)]; exact h1 i' p' a b d
    · intro p' a
      by_cases e : p' = p
      · subst e; exact pk_us
      · rw [pk_un (by omega)]; exact h2 p' (by omega)
theorem y_mt_out {post : Int32 → SY → Prop} {ar S T : Nat → Nat} {c m n r : Nat} (hc : c ≤ 6) (ha : ∀ i, ar i ≤ 2) (hr : r < 20)
    (hS : fx_sub ar c m S yLi yEn) (hP : fy_pat ar c yK yW T n r) (hp : ∀ F, post (fo_b (fm_F ar T n S m 0 0)) (ycc, ydr, ynd, nI m, yal, ygl, yst, ybl, yhw, yrn, ywk, fo_n ar, yDk, yDw, yK, yW, yPl, yRl, yRc, yHd, yLf, yRg, ySz, yLi, ySk, ySt, yAr, yGv, F, yEn, yPc, yBd, yWk, yWw, yOw, yCt, yOz, yOp, yKn)) :
    ∀ i F, i ≤ n → (∀ i' p', i ≤ i' → i' < n → p' < m → F (40 * i' + p') = fo_b (fm_F ar T n S m i' p')) →
      wY_matches_14 post (nI (24 * r)) ycc ydr ynd (nI m) yal ygl yst ybl yhw yrn ywk (i + 1) (nI i + (-1)) (fo_n ar) yDk yDw yK yW yPl yRl yRc yHd yLf yRg ySz yLi ySk ySt yAr yGv F yEn yPc yBd yWk yWw yOw yCt yOz yOp yKn := by
  have hn := hP.1
  intro i
  induction i with
  | zero =>
    intro F _ h
    have e : F 0 = fo_b (fm_F ar T n S m 0 0) := h 0 0 (by omega) hP.2.1.1 hS.2.1.1
    refine br_t (by decide) ?_
    rw [e]
    exact ⟨fo_bn _, hp F⟩
  | succ i ih =>
    intro F hi h
    rw [pk_m1]
    obtain ⟨t1, t2, t3, t4⟩ := hP.2.2 i (by omega)
    have ein : nI (24 * r) + nI i = nI (24 * r + i) := nI_add _ _
    refine br_f (nI_pos (by omega)) ⟨by rw [ein]; exact vp_in_nI (by omega) (by decide), nm_r (e' := nI (T i / 8)) (by rw [ein, nI_clamp (by omega), t3]) ⟨by rw [ein]; exact vp_in_nI (by omega) (by decide), ?_⟩⟩
    rw [ein, nI_clamp (by omega)]
    have go : ∀ x6 : Int32, (fo_op ar (T i) = 2 → x6 = nI (fe_pe (fm_o ar T) n (i + 1))) → wY_matches_70 post (wY_matches_14 post (nI (24 * r)) ycc ydr ynd (nI m) yal ygl yst ybl yhw yrn ywk (i + 1)) (nI (24 * r)) (nI i) (nI (T i / 8)) (nI (fo_op ar (T i))) x6 ycc ydr ynd (nI m) yal ygl yst ybl yhw yrn ywk (m + 1) 0 (fo_n ar) yDk yDw yK yW yPl yRl yRc yHd yLf yRg ySz yLi ySk ySt yAr yGv F yEn yPc yBd yWk yWw yOw yCt yOz yOp yKn := fun x6 h6 =>
      y_mt_in hc ha hr hS hP (by omega) h6 (fun F' h' => ih F' (by omega) h') m 0 F (by omega) (fun i' p' a => h i' p' (by omega)) (fun p' a => by omega)
    have ho := fo_op_le ha (T i)
    refine y_ops hc t1 (fun k2 => t4 (Or.inr k2)) (pk_eq (fo_op ar (T i)) 2 (fun z => ?_) (fun z => ⟨m + 1, go 0 (fun g => absurd g z)⟩))
    rw [nI_1]
    have l := (fe_pe_c2 (fm_o ar T) (by omega : i < n) (fe_full_e hP.2.1 (by omega)).2 hP.2.1.2.1 z).1
    refine y_pe (T := T) hc ha hr hP (i := i + 1) l (nm_r (e' := nI (fe_pe (fm_o ar T) n (i + 1))) ?_ ⟨m + 1, go _ (fun _ => rfl)⟩)
    rw [pk_sub (by omega)]
    exact congrArg nI (by omega)
theorem y_mt {post : Int32 → SY → Prop} {ar S T : Nat → Nat} {c m n r : Nat} (hc : c ≤ 6) (ha : ∀ i, ar i ≤ 2) (hr : r < 20) {pl : Nat → Nat} (hpl : pl r = n)
    (hS : fx_sub ar c m S yLi yEn) (hP : fy_pat ar c yK yW T n r) (hp : ∀ F, post (fo_b (fm_F ar T n S m 0 0)) (ycc, ydr, ynd, nI m, yal, ygl, yst, ybl, yhw, yrn, ywk, fo_n ar, yDk, yDw, yK, yW, fo_n pl, yRl, yRc, yHd, yLf, yRg, ySz, yLi, ySk, ySt, yAr, yGv, F, yEn, yPc, yBd, yWk, yWw, yOw, yCt, yOz, yOp, yKn)) :
    wpY_matches post (ycc, ydr, ynd, nI m, yal, ygl, yst, ybl, yhw, yrn, ywk, fo_n ar, yDk, yDw, yK, yW, fo_n pl, yRl, yRc, yHd, yLf, yRg, ySz, yLi, ySk, ySt, yAr, yGv, yF, yEn, yPc, yBd, yWk, yWw, yOw, yCt, yOz, yOp, yKn) (nI r) := by
  refine nm_r (fo_24m r) ⟨vp_in_nI hr (by decide), nm_r (e' := nI n + (-1)) ?_ ⟨n + 1, y_mt_out hc ha hr hS hP hp n yF (Nat.le_refl _) (fun i' p' a b => by omega)⟩⟩
  rw [nI_clamp (by omega)]
  show nI (pl r) - 1 = _
  rw [hpl]; exact Int32.sub_eq_add_neg _ _
theorem y_tk_loop {post : Int32 → SY → Prop} {ar S rc pl : Nat → Nat} {pat : Nat → Nat → Nat} {c m f w : Nat} (hc : c ≤ 6) (ha : ∀ i, ar i ≤ 2) (hf : f < 4) (hrc : rc f ≤ 5)
    (hS : fx_sub ar c m S yLi yEn) (hP : ∀ i, i < rc f → fy_pat ar c yK yW (pat (5 * f + i)) (pl (5 * f + i)) (5 * f + i))
    (h0 : w = 0 → ∀ F, post (-1) (ycc, ydr, ynd, nI m, yal, ygl, yst, ybl, yhw, yrn, ywk, fo_n ar, yDk, yDw, yK, yW, fo_n pl, yRl, fo_n rc, yHd, yLf, yRg, ySz, yLi, ySk, ySt, yAr, yGv, F, yEn, yPc, yBd, yWk, yWw, yOw, yCt, yOz, yOp, yKn))
    (h1 : w ≠ 0 → ∀ F, post (nI (w - 1)) (ycc, ydr, ynd, nI m, yal, ygl, yst, ybl, yhw, yrn, ywk, fo_n ar, yDk, yDw, yK, yW, fo_n pl, yRl, fo_n rc, yHd, yLf, yRg, ySz, yLi, ySk, ySt, yAr, yGv, F, yEn, yPc, yBd, yWk, yWw, yOw, yCt, yOz, yOp, yKn)) :
    ∀ d i F, i + d = rc f → w = fm_tk (fun i => fm_F ar (pat (5 * f + i)) (pl (5 * f + i)) S m 0 0) d i →
      wY_takes_6 post (nI f) (d + 1) (nI i) ycc ydr ynd (nI m) yal ygl yst ybl yhw yrn ywk (fo_n ar) yDk yDw yK yW (fo_n pl) yRl (fo_n rc) yHd yLf yRg ySz yLi ySk ySt yAr yGv F yEn yPc yBd yWk yWw yOw yCt yOz yOp yKn := by
  intro d
  induction d with
  | zero =>
    intro i F hi hw
    refine ⟨vp_in_nI hf (by decide), br_t ?_ (h0 hw F)⟩
    rw [nI_clamp (by omega)]
    exact nI_le (a := rc f) (by omega) (by omega)
  | succ d ih =>
    intro i F hi hw
    refine ⟨vp_in_nI hf (by decide), br_f ?_ ?_⟩
    · rw [nI_clamp (by omega)]
      exact nI_ge (b := rc f) (by omega) (by omega)
    rw [show 5 * nI f + nI i = nI (5 * f + i) by rw [fo_5m, nI_add]]
    refine y_mt hc ha (by omega) rfl hS (hP i (by omega)) (fun F' => fo_br (fun b => nm_r (nI_1 i) (ih (i + 1) F' (by omega) ?_)) (fun b => ?_))
    · rw [hw]; simp only [fm_tk]; rw [if_neg (by rw [b]; decide)]
    · have e : w = i + 1 := by rw [hw]; simp only [fm_tk]; rw [if_pos b]
      have := h1 (by omega) F'
      rw [show w - 1 = i by omega] at this
      exact this
theorem y_tk {post : Int32 → SY → Prop} {ar S rc pl : Nat → Nat} {pat : Nat → Nat → Nat} {c m f : Nat} (hc : c ≤ 6) (ha : ∀ i, ar i ≤ 2) (hf : f < 4) (hrc : rc f ≤ 5) (hm : m ≤ 40) (hv : fe_full (fm_v ar S) m)
    (hS : ∀ i, i < m → S i < c ∧ yLi i = nI (S i)) (hP : ∀ i, i < rc f → fy_pat ar c yK yW (pat (5 * f + i)) (pl (5 * f + i)) (5 * f + i))
    (h0 : fm_row ar pat pl rc f S m = 0 → ∀ D F, fx_sub ar c m S yLi D → post (-1) (ycc, ydr, ynd, nI m, yal, ygl, yst, ybl, yhw, yrn, ywk, fo_n ar, yDk, yDw, yK, yW, fo_n pl, yRl, fo_n rc, yHd, yLf, yRg, ySz, yLi, ySk, ySt, yAr, yGv, F, D, yPc, yBd, yWk, yWw, yOw, yCt, yOz, yOp, yKn))
    (h1 : fm_row ar pat pl rc f S m ≠ 0 → ∀ D F, fx_sub ar c m S yLi D → post (nI (fm_row ar pat pl rc f S m - 1)) (ycc, ydr, ynd, nI m, yal, ygl, yst, ybl, yhw, yrn, ywk, fo_n ar, yDk, yDw, yK, yW, fo_n pl, yRl, fo_n rc, yHd, yLf, yRg, ySz, yLi, ySk, ySt, yAr, yGv, F, D, yPc, yBd, yWk, yWw, yOw, yCt, yOz, yOp, yKn)) :
    wpY_takes post (ycc, ydr, ynd, nI m, yal, ygl, yst, ybl, yhw, yrn, ywk, fo_n ar, yDk, yDw, yK, yW, fo_n pl, yRl, fo_n rc, yHd, yLf, yRg, ySz, yLi, ySk, ySt, yAr, yGv, yF, yEn, yPc, yBd, yWk, yWw, yOw, yCt, yOz, yOp, yKn) (nI f) :=
  y_ms hc hm ha hv hS (fun D hD => ⟨rc f + 1, y_tk_loop hc ha hf hrc hD hP (fun z F => h0 z D F hD) (fun z F => h1 z D F hD) (rc f) 0 yF (by omega) rfl⟩)
/-- the argument becomes the list -/
theorem y_ta {post : SY → Prop} {W : Nat → Nat} {m : Nat} (hm : m ≤ 40) (hW : ∀ i, i < m → yAr i = nI (W i))
    (hp : ∀ s, (∀ j, j < m → s j = nI (W j)) → post (ycc, ydr, ynd, nI m, yal, ygl, yst, ybl, yhw, yrn, ywk, yA, yDk, yDw, yK, yW, yPl, yRl, yRc, yHd, yLf, yRg, ySz, s, ySk, ySt, yAr, yGv, yF, yEn, yPc, yBd, yWk, yWw, yOw, yCt, yOz, yOp, yKn)) : wpY_take__argument post (ycc, ydr, ynd, yln, yal, ygl, yst, ybl, yhw, yrn, ywk, yA, yDk, yDw, yK, yW, yPl, yRl, yRc, yHd, yLf, yRg, ySz, yLi, ySk, ySt, yAr, yGv, yF, yEn, yPc, yBd, yWk, yWw, yOw, yCt, yOz, yOp, yKn) (nI m) := by
  have loop : ∀ d i s, i + d = m → (∀ j, j < i → s j = nI (W j)) → wY_take__argument_7 post (nI m) ycc ydr ynd (nI m) yal ygl yst ybl yhw yrn ywk (d + 1) (nI i) yA yDk yDw yK yW yPl yRl yRc yHd yLf yRg ySz s ySk ySt yAr yGv yF yEn yPc yBd yWk yWw yOw yCt yOz yOp yKn := by
    intro d
    induction d with
    | zero =>
      intro i s hi h
      exact br_t (nI_le (by omega) (by omega)) (hp s (fun j hj => h j (by omega)))
    | succ d ih =>
      intro i s hi h
      refine br_f (nI_ge (by omega) (by omega)) ⟨vp_in_nI (by omega) (by decide), vp_in_nI (by omega) (by decide), nm_r (e' := upd s i (nI (W i))) ?_ (nm_r (nI_1 i) (ih (i + 1) _ (by omega) ?_))⟩
      · rw [nI_clamp (by omega), hW i (by omega)]
      · intro j hj
        by_cases e : j = i
        · subst e; exact pk_us
        · rw [pk_un e]; exact h j (by omega)
  exact ⟨m + 1, loop m 0 yLi (by omega) (fun j hj => by omega)⟩
end
theorem i_vc_taken {k : Nat} {u : SX} {v : SY} (I : i_Rel k u v) (hk : k + 4 ≤ 2048) (v1 : Int32) : wpX_taken (fun r u' => wpY_taken (fun r' v' => r' = r ∧ i_Rel (k + 4) u' v') v v1) u v1 := by
  refine i_el (P := fun u v => wpX_taken (fun r u' => wpY_taken (fun r' v' => r' = r ∧ i_Rel (k + 4) u' v') v v1) u v1) I ?_
  intro c n m g ar rc pl T pat pre pos arg giv xss xnc xdp xoc xrs xrt xrf ynd yln yhw yrn ywk xD xDe xUw xP xPe xO xOl xAr xS xSe xSn xF xNc xNf xNs xNz xCr xCn xCv xOp xRl xTa xUt yDk yDw yK yW yHd yLf yRg ySz yLi ySk ySt yF yEn yPc yBd yWk yWw yOw yCt yOz yOp yKn G
  rcases fo_f4 v1 with h | ⟨f, hf, rfl⟩
  · unfold wpX_taken
    refine x_isF0 h (br_t rfl ?_)
    unfold wpY_taken
    exact y_in0 h (br_t rfl ⟨rfl, i_mk G⟩)
  · by_cases m0 : m = 0
    · subst m0
      unfold wpX_taken
      refine x_isF1 hf (br_f fo_z1 (br_t rfl ?_))
      unfold wpY_taken
      exact y_in1 hf (br_f fo_z1 (br_t rfl ⟨rfl, i_mk G⟩))
    · obtain ⟨g1, g2, g3, g4, g5, g6, g7, g8, g9⟩ := id G
      have hv := g7.resolve_left m0
      have hne : ¬ nI m = 0 := nI_ne0 (by omega) (by have := hv.1; omega)
      unfold wpX_taken
      refine x_isF1 hf (br_f fo_z1 (br_f hne (x_sa g1 g3 hv (fun s e hs => ?_))))
      have yside : ∀ (r : Int32) (s e F : Nat → Int32), (r = if fm_row ar pat pl rc f arg m = 0 then -1 else nI (fm_row ar pat pl rc f arg m - 1)) →
          wpY_taken (fun r' v' => r' = r ∧ i_Rel (k + 4) (nI c, nI n, nI m, nI m, xnc, xdp, xoc, xrs, xrt, xrf, nI g, fo_n ar, xD, xDe, xUw, fo_n rc, xP, xPe, fo_n pl, xO, xOl, xAr, s, e, xSn, F, xNc, xNf, xNs, xNz, xCr, xCn, xCv, xOp, xRl, xTa, xUt) v') (nI c, nI n, ynd, yln, nI m, nI g, xrt, xrf, yhw, yrn, ywk, fo_n ar, yDk, yDw, yK, yW, fo_n pl, xOl, fo_n rc, yHd, yLf, yRg, ySz, yLi, ySk, ySt, xAr, xRl, yF, yEn, yPc, yBd, yWk, yWw, yOw, yCt, yOz, yOp, yKn) (nI f) := by
        intro r s e F hr
        unfold wpY_taken
        refine y_in1 hf (br_f fo_z1 (br_f hne (y_ta (W := arg) hv.1 (fun i hi => (hv.2.2 i hi).2) (fun l hl => ?_))))
        refine y_tk g1 g3 hf (g4 f) hv.1 hv.2.1 (fun i hi => ⟨(hv.2.2 i hi).1, hl i hi⟩) (fun i hi => fy_pat_of (g6 f i hf hi)) (fun z D F' _ => ⟨?_, i_mk G⟩) (fun z D F' _ => ⟨?_, i_mk G⟩)
        · rw [hr, if_pos z]
        · rw [hr, if_neg z]
      exact x_rf g1 g3 hf (g4 f) hs (fun i hi => fx_pat_of (g6 f i hf hi)) (fun z F => yside _ s e F (by rw [if_pos z])) (fun z F => yside _ s e F (by rw [if_neg z]))
end
section
theorem fd_S0 (c s i : Nat) : fd_S c s 0 i = 0 := by
  unfold fd_S fd_dg
  rw [Nat.zero_div, Nat.zero_mod]
/-- the first value that no row takes, up to list j -/
def fd_U (P : Nat → Bool) (c s j : Nat) (U : Nat → Int32) : Prop :=
  ∀ j0, P j0 = true → fd_cn P j0 = 0 → j0 < j → ∀ i, i < s → U i = nI (fd_S c s j0 i)
section
variable {xcc xdr xas xss xnc xdp xoc xrs xrt xrf xrz : Int32} {xA xD xDe xUw xRc xP xPe xPl xO xOl xAr xS xSe xSn xF xNc xNf xNs xNz xCr xCn xCv xOp xRl xTa xUt : Nat → Int32}
theorem x_nl_loop {post : Int32 → SX → Prop} {c s j : Nat} (hc : c ≤ 6) (h0c : 0 < c) (hs : s ≤ 5) (hj : j < c ^ s)
    (h1 : j + 1 < c ^ s → ∀ A, (∀ i, i < s → A i = nI (fd_S c s (j + 1) i)) → post 1 (nI c, xdr, xas, nI s, xnc, xdp, xoc, xrs, xrt, xrf, xrz, xA, xD, xDe, xUw, xRc, xP, xPe, xPl, xO, xOl, xAr, A, xSe, xSn, xF, xNc, xNf, xNs, xNz, xCr, xCn, xCv, xOp, xRl, xTa, xUt))
    (h0 : j + 1 = c ^ s → ∀ A, post 0 (nI c, xdr, xas, nI s, xnc, xdp, xoc, xrs, xrt, xrf, xrz, xA, xD, xDe, xUw, xRc, xP, xPe, xPl, xO, xOl, xAr, A, xSe, xSn, xF, xNc, xNf, xNs, xNz, xCr, xCn, xCv, xOp, xRl, xTa, xUt)) :
    ∀ a A, a ≤ s → (j + 1) / c ^ (s - a) = j / c ^ (s - a) + 1 → (∀ i, a ≤ i → i < s → A i = nI 0 ∧ fd_S c s (j + 1) i = 0) → (∀ i, i < a → A i = nI (fd_S c s j i)) →
      wX_nextList_7 post (nI c) xdr xas (nI s) xnc xdp xoc xrs xrt xrf xrz (a + 1) (nI a + (-1)) xA xD xDe xUw xRc xP xPe xPl xO xOl xAr A xSe xSn xF xNc xNf xNs xNz xCr xCn xCv xOp xRl xTa xUt := by
  intro a
  induction a with
  | zero =>
    intro A _ hq _ _
    exact br_t (by decide) (h0 (fd_end hj hq) A)
  | succ b ih =>
    intro A hb hq hz hl
    have hd := fd_lt h0c j (s - (b + 1))
    have eS : fd_S c s j b = fd_dg c j (s - (b + 1)) := by unfold fd_S; rw [show s - 1 - b = s - (b + 1) by omega]
    have eS' : fd_S c s (j + 1) b = fd_dg c (j + 1) (s - (b + 1)) := by unfold fd_S; rw [show s - 1 - b = s - (b + 1) by omega]
    have low := fd_low h0c hq
    rw [show s - (b + 1) + 1 = s - b by omega] at low
    rw [pk_m1]
    have hin : vp_in (nI b) 40 := vp_in_nI (by omega) (by decide)
    refine br_f (nI_pos (by omega)) ⟨hin, hin, nm_r (e' := upd A b (nI (fd_dg c j (s - (b + 1)) + 1))) ?_ ⟨hin, ?_⟩⟩
    · rw [nI_clamp (by omega), hl b (by omega), nI_1, eS]
    rw [nI_clamp (by omega), pk_us]
    refine pk_le c (fd_dg c j (s - (b + 1)) + 1) (fun z => ⟨hin, nm_r (e' := upd (upd A b (nI (fd_dg c j (s - (b + 1)) + 1))) b 0) rfl (nm_e (ih _ (by omega) (low.2 (by omega)).2 ?_ ?_))⟩) (fun z => h1 (fd_lt0 hj (by omega) (low.1 (by omega)).2) _ ?_)
    · intro i h2 h3
      by_cases e : i = b
      · subst e
        exact ⟨pk_us, by rw [eS']; exact (low.2 (by omega)).1⟩
      · rw [pk_un e, pk_un e]; exact hz i (by omega) h3
    · intro i h2
      rw [pk_un (by omega), pk_un (by omega)]; exact hl i (by omega)
    · intro i hi
      by_cases e : i = b
      · subst e
        rw [pk_us, eS', (low.1 (by omega)).1]
      · rw [pk_un e]
        by_cases g : b < i
        · rw [(hz i (by omega) hi).1, (hz i (by omega) hi).2]
        · rw [hl i (by omega)]
          have := fd_high (low.1 (by omega)).2 (s - 1 - i) (by omega)
          unfold fd_S fd_dg
          rw [this]
theorem x_nl {post : Int32 → SX → Prop} {c s j : Nat} (hc : c ≤ 6) (h0c : 0 < c) (hs : s ≤ 5) (hj : j < c ^ s) (hS : ∀ i, i < s → xS i = nI (fd_S c s j i))
    (h1 : j + 1 < c ^ s → ∀ A, (∀ i, i < s → A i = nI (fd_S c s (j + 1) i)) → post 1 (nI c, xdr, xas, nI s, xnc, xdp, xoc, xrs, xrt, xrf, xrz, xA, xD, xDe, xUw, xRc, xP, xPe, xPl, xO, xOl, xAr, A, xSe, xSn, xF, xNc, xNf, xNs, xNz, xCr, xCn, xCv, xOp, xRl, xTa, xUt))
    (h0 : j + 1 = c ^ s → ∀ A, post 0 (nI c, xdr, xas, nI s, xnc, xdp, xoc, xrs, xrt, xrf, xrz, xA, xD, xDe, xUw, xRc, xP, xPe, xPl, xO, xOl, xAr, A, xSe, xSn, xF, xNc, xNf, xNs, xNz, xCr, xCn, xCv, xOp, xRl, xTa, xUt)) : wpX_nextList post (nI c, xdr, xas, nI s, xnc, xdp, xoc, xrs, xrt, xrf, xrz, xA, xD, xDe, xUw, xRc, xP, xPe, xPl, xO, xOl, xAr, xS, xSe, xSn, xF, xNc, xNf, xNs, xNz, xCr, xCn, xCv, xOp, xRl, xTa, xUt) := by
  refine nm_r (e' := nI s + (-1)) (Int32.sub_eq_add_neg _ _) ⟨s + 1, x_nl_loop hc h0c hs hj h1 h0 s xS (Nat.le_refl _) ?_ (fun i a b => by omega) hS⟩
  rw [Nat.sub_self, Nat.pow_zero, Nat.div_one, Nat.div_one]
theorem x_ku {post : SX → Prop} {s : Nat} (hs : s ≤ 5) (hp : ∀ U, (∀ i, i < s → U i = xS i) → post (xcc, xdr, xas, nI s, xnc, xdp, xoc, xrs, xrt, xrf, xrz, xA, xD, xDe, xUw, xRc, xP, xPe, xPl, xO, xOl, xAr, xS, xSe, xSn, xF, xNc, xNf, xNs, xNz, xCr, xCn, xCv, xOp, xRl, xTa, U)) : wpX_keepUntaken post (xcc, xdr, xas, nI s, xnc, xdp, xoc, xrs, xrt, xrf, xrz, xA, xD, xDe, xUw, xRc, xP, xPe, xPl, xO, xOl, xAr, xS, xSe, xSn, xF, xNc, xNf, xNs, xNz, xCr, xCn, xCv, xOp, xRl, xTa, xUt) := by
  have loop : ∀ d i U, i + d = s → (∀ j, j < i → U j = xS j) → wX_keepUntaken_2 post xcc xdr xas (nI s) xnc xdp xoc xrs xrt xrf xrz (d + 1) (nI i) xA xD xDe xUw xRc xP xPe xPl xO xOl xAr xS xSe xSn xF xNc xNf xNs xNz xCr xCn xCv xOp xRl xTa U := by
    intro d
    induction d with
    | zero =>
      intro i U hi h
      exact br_t (nI_le (by omega) (by omega)) (hp U (fun j hj => h j (by omega)))
    | succ d ih =>
      intro i U hi h
      refine br_f (nI_ge (by omega) (by omega)) ⟨vp_in_nI (by omega) (by decide), vp_in_nI (by omega) (by decide), nm_r (e' := upd U i (xS i)) (by rw [nI_clamp (by omega)]) (nm_r (nI_1 i) (ih (i + 1) _ (by omega) ?_))⟩
      intro j hj
      by_cases e : j = i
      · subst e; exact pk_us
      · rw [pk_un e]; exact h j (by omega)
  exact ⟨s + 1, loop s 0 xUt (by omega) (fun j hj => by omega)⟩
theorem x_sv_loop {post : SX → Prop} {ar rc pl : Nat → Nat} {pat : Nat → Nat → Nat} {c f s : Nat} (hc : c ≤ 6) (ha : ∀ i, ar i ≤ 2) (hf : f < 4) (hrc : rc f ≤ 5) (h1s : 1 ≤ s) (hs : s ≤ 5)
    (hP : ∀ i, i < rc f → fx_pat ar c xP xPe (pat (5 * f + i)) (pl (5 * f + i)) (5 * f + i))
    (hp : ∀ S E F t U, (∀ r, r ≤ 5 → t r = nI (fd_ct ar (fm_row ar pat pl rc f) c s r)) → fd_U (fd_P ar (fm_row ar pat pl rc f) c s 0) c s (c ^ s) U →
      post (nI c, xdr, xas, nI s, xnc, xdp, xoc, xrs, xrt, xrf, xrz, fo_n ar, xD, xDe, xUw, fo_n rc, xP, xPe, fo_n pl, xO, xOl, xAr, S, E, xSn, F, xNc, xNf, xNs, xNz, xCr, xCn, xCv, xOp, xRl, t, U)) :
    ∀ d j (more : Int32) S E F t U, j + d = c ^ s → (d = 0 → more = 0) → (d ≠ 0 → more = 1 ∧ ∀ i, i < s → S i = nI (fd_S c s j i)) →
      (∀ r, r ≤ 5 → t r = nI (fd_cn (fd_P ar (fm_row ar pat pl rc f) c s r) j)) → fd_U (fd_P ar (fm_row ar pat pl rc f) c s 0) c s j U →
      wX_survey_62 post (nI f) (d + 1) more (nI j) (nI c) xdr xas (nI s) xnc xdp xoc xrs xrt xrf xrz (fo_n ar) xD xDe xUw (fo_n rc) xP xPe (fo_n pl) xO xOl xAr S E xSn F xNc xNf xNs xNz xCr xCn xCv xOp xRl t U := by
  have hpow := fd_pow hc hs
  intro d
  induction d with
  | zero =>
    intro j more S E F t U hj hm _ ht hU
    have e : j = c ^ s := by omega
    subst e
    have hpost := hp S E F t U ht hU
    by_cases z : (7776 : Int32) ≤ nI (c ^ s)
    · exact br_t z hpost
    · exact br_f z (br_t (hm rfl) hpost)
  | succ d ih =>
    intro j more S E F t U hj _ hm ht hU
    obtain ⟨hm1, hS⟩ := hm (by omega)
    subst hm1
    have h0c : 0 < c := by
      refine Classical.byContradiction fun z => ?_
      have e : c = 0 := by omega
      rw [e, Nat.zero_pow (by omega)] at hj
      omega
    have hjlt : j < c ^ s := by omega
    -- the next list
    have nxt : ∀ S' E' F' t' U', (∀ i, i < s → S' i = nI (fd_S c s j i)) → (∀ r, r ≤ 5 → t' r = nI (fd_cn (fd_P ar (fm_row ar pat pl rc f) c s r) (j + 1))) →
        fd_U (fd_P ar (fm_row ar pat pl rc f) c s 0) c s (j + 1) U' →
        wX_survey_120 post (wX_survey_62 post (nI f) (d + 1)) (nI f) (nI j) (nI c) xdr xas (nI s) xnc xdp xoc xrs xrt xrf xrz (fo_n ar) xD xDe xUw (fo_n rc) xP xPe (fo_n pl) xO xOl xAr S' E' xSn F' xNc xNf xNs xNz xCr xCn xCv xOp xRl t' U' := by
      intro S' E' F' t' U' a1 a2 a3
      refine x_nl (xS := S') hc h0c hs hjlt a1 (fun z A hA => nm_r (nI_1 j) (ih (j + 1) 1 A E' F' t' U' (by omega) (fun g => by omega) (fun _ => ⟨rfl, hA⟩) a2 a3)) (fun z A => nm_r (nI_1 j) (ih (j + 1) 0 A E' F' t' U' (by omega) (fun _ => rfl) (fun g => by omega) a2 a3))
    have hcn : ∀ r, fd_cn (fd_P ar (fm_row ar pat pl rc f) c s r) j ≤ j := fun r => fd_cn_le _ _
    refine br_f (nI_ge (b := 7776) (by omega) (by decide)) (br_f fo_z1 (x_ms (S := fd_S c s j) hc (by omega) ha (fun i hi => ⟨fd_lt h0c _ _, hS i hi⟩) (fun g D hD => br_t rfl ?_) (fun g1 g2 D hD => br_f fo_z1 ?_)))
    · have nv : ¬ fe_pe (fm_v ar (fd_S c s j)) s 0 = s := fun z => g ⟨by omega, z⟩
      have np : ∀ r, fd_P ar (fm_row ar pat pl rc f) c s r j = false := fun r => by unfold fd_P; rw [decide_eq_false nv]; rfl
      refine nxt S D F t U hS (fun r hr => ?_) (fun j0 b1 b2 b3 => ?_)
      · rw [ht r hr]; simp only [fd_cn]; rw [np r]; rfl
      · by_cases e : j0 = j
        · subst e; rw [np 0] at b1; cases b1
        · exact hU j0 b1 b2 (by omega)
    · have fS : fx_sub ar c s (fd_S c s j) S D := ⟨by omega, ⟨by omega, by omega, g2⟩, fun i hi => ⟨fd_lt h0c _ _, hS i hi, hD i hi⟩⟩
      have pr : ∀ r, fd_P ar (fm_row ar pat pl rc f) c s r j = decide (fm_row ar pat pl rc f (fd_S c s j) s = r) := fun r => by unfold fd_P; rw [decide_eq_true g2]; rfl
      have hwle := fm_row_le ar pat pl rc f (fd_S c s j) s
      -- count it
      have cnt : ∀ (w : Nat) (x5 : Int32) F' U', fm_row ar pat pl rc f (fd_S c s j) s = w → x5 + 1 = nI w → fd_U (fd_P ar (fm_row ar pat pl rc f) c s 0) c s (j + 1) U' →
          wX_survey_107 post (wX_survey_62 post (nI f) (d + 1)) (nI f) (nI j) x5 (nI c) xdr xas (nI s) xnc xdp xoc xrs xrt xrf xrz (fo_n ar) xD xDe xUw (fo_n rc) xP xPe (fo_n pl) xO xOl xAr S D xSn F' xNc xNf xNs xNz xCr xCn xCv xOp xRl t U' := by
        intro w x5 F' U' hw hx hU'
        unfold wX_survey_107
        rw [hx]
        refine ⟨vp_in_nI (by omega) (by decide), vp_in_nI (by omega) (by decide), nm_r (e' := upd t w (nI (fd_cn (fd_P ar (fm_row ar pat pl rc f) c s w) j + 1))) ?_ (nxt S D F' _ U' hS ?_ hU')⟩
        · rw [nI_clamp (by omega), ht w (by omega), nI_1]
        · intro r hr
          simp only [fd_cn]
          rw [pr r, hw]
          by_cases e : r = w
          · subst e; rw [pk_us, decide_eq_true rfl]; rfl
          · rw [pk_un e, decide_eq_false (fun z => e z.symm), ht r hr]; rfl
      refine x_rf (pat := pat) hc ha hf hrc fS hP (fun z F' => br_t rfl ?_) (fun z F' => br_f ?_ (cnt _ _ F' U rfl ?_ ?_))
      · rw [ht 0 (by omega)]
        have p0 : fd_P ar (fm_row ar pat pl rc f) c s 0 j = true := by rw [pr 0, z]; rfl
        have := hcn 0
        refine pk_eq (fd_cn (fd_P ar (fm_row ar pat pl rc f) c s 0) j) 0 (fun q => ?_) (fun q => cnt 0 _ F' U z (by decide) (fun j0 b1 b2 b3 => ?_))
        · refine x_ku (xS := S) hs (fun U' hU' => cnt 0 _ F' U' z (by decide) (fun j0 b1 b2 b3 => ?_))
          have : j0 = j := fd_first _ b1 b2 p0 q
          subst this
          intro i hi
          rw [hU' i hi, hS i hi]
        · by_cases e : j0 = j
          · subst e; exact absurd b2 q
          · exact hU j0 b1 b2 (by omega)
      · exact fun q => absurd (q ▸ nI_pos' (n := fm_row ar pat pl rc f (fd_S c s j) s - 1) (by omega)) (by decide)
      · rw [nI_1]; exact congrArg nI (by omega)
      · intro j0 b1 b2 b3
        by_cases e : j0 = j
        · subst e
          rw [pr 0, decide_eq_false z] at b1
          cases b1
        · exact hU j0 b1 b2 (by omega)
theorem x_sv {post : SX → Prop} {ar rc pl : Nat → Nat} {pat : Nat → Nat → Nat} {c f s : Nat} (hc : c ≤ 6) (ha : ∀ i, ar i ≤ 2) (hf : f < 4) (hrc : rc f ≤ 5) (h1s : 1 ≤ s) (hs : s ≤ 5)
    (hP : ∀ i, i < rc f → fx_pat ar c xP xPe (pat (5 * f + i)) (pl (5 * f + i)) (5 * f + i))
    (hp : ∀ S E F t U, (∀ r, r ≤ 5 → t r = nI (fd_ct ar (fm_row ar pat pl rc f) c s r)) → fd_U (fd_P ar (fm_row ar pat pl rc f) c s 0) c s (c ^ s) U →
      post (nI c, xdr, xas, nI s, xnc, xdp, xoc, xrs, xrt, xrf, xrz, fo_n ar, xD, xDe, xUw, fo_n rc, xP, xPe, fo_n pl, xO, xOl, xAr, S, E, xSn, F, xNc, xNf, xNs, xNz, xCr, xCn, xCv, xOp, xRl, t, U)) :
    wpX_survey post (nI c, xdr, xas, xss, xnc, xdp, xoc, xrs, xrt, xrf, xrz, fo_n ar, xD, xDe, xUw, fo_n rc, xP, xPe, fo_n pl, xO, xOl, xAr, xS, xSe, xSn, xF, xNc, xNf, xNs, xNz, xCr, xCn, xCv, xOp, xRl, xTa, xUt) (nI f) (nI s) := by
  have zero : ∀ d i S t, i + d = s → (∀ j, j < i → S j = nI 0) → (∀ r, r ≤ 5 → t r = nI 0) →
      wX_survey_28 post (nI f) (nI s) (nI c) xdr xas (nI s) xnc xdp xoc xrs xrt xrf xrz (d + 1) (nI i) (fo_n ar) xD xDe xUw (fo_n rc) xP xPe (fo_n pl) xO xOl xAr S xSe xSn xF xNc xNf xNs xNz xCr xCn xCv xOp xRl t xUt := by
    intro d
    induction d with
    | zero =>
      intro i S t hi h1 h2
      have u0 : fd_U (fd_P ar (fm_row ar pat pl rc f) c s 0) c s 0 xUt := fun j0 _ _ h => by omega
      refine br_t (nI_le (by omega) (by omega)) (pk_le c 0 (fun z => ⟨c ^ s + 1, x_sv_loop hc ha hf hrc h1s hs hP hp (c ^ s) 0 0 S xSe xF t xUt (by omega) (fun _ => rfl) (fun g => ?_) h2 u0⟩) (fun z => ⟨c ^ s + 1, x_sv_loop hc ha hf hrc h1s hs hP hp (c ^ s) 0 1 S xSe xF t xUt (by omega) (fun g => ?_) (fun _ => ⟨rfl, fun j hj => ?_⟩) h2 u0⟩))
      · have e : c = 0 := by omega
        rw [e, Nat.zero_pow (by omega)] at g
        exact absurd rfl g
      · have := Nat.pow_pos (n := s) z
        omega
      · rw [h1 j (by omega), fd_S0]
    | succ d ih =>
      intro i S t hi h1 h2
      refine br_f (nI_ge (by omega) (by omega)) ⟨vp_in_nI (by omega) (by decide), nm_r (e' := upd S i (nI 0)) (by rw [nI_clamp (by omega)]; rfl) (nm_r (nI_1 i) (ih (i + 1) _ t (by omega) ?_ h2))⟩
      intro j hj
      by_cases e : j = i
      · subst e; exact pk_us
      · rw [pk_un e]; exact h1 j (by omega)
  have tal : ∀ d i t, i + d = 6 → (∀ r, r < i → t r = nI 0) → wX_survey_2 post (nI f) (nI s) (nI c) xdr xas xss xnc xdp xoc xrs xrt xrf xrz (d + 1) (nI i) (fo_n ar) xD xDe xUw (fo_n rc) xP xPe (fo_n pl) xO xOl xAr xS xSe xSn xF xNc xNf xNs xNz xCr xCn xCv xOp xRl t xUt := by
    intro d
    induction d with
    | zero =>
      intro i t hi h
      exact br_t (nI_le (a := 6) (by omega) (by omega)) ⟨s + 1, zero s 0 xS t (by omega) (fun j hj => by omega) (fun r hr => h r (by omega))⟩
    | succ d ih =>
      intro i t hi h
      refine br_f (nI_ge (b := 6) (by omega) (by decide)) ⟨vp_in_nI (by omega) (by decide), nm_r (e' := upd t i (nI 0)) (by rw [nI_clamp (by omega)]; rfl) (nm_r (nI_1 i) (ih (i + 1) _ (by omega) ?_))⟩
      intro j hj
      by_cases e : j = i
      · subst e; exact pk_us
      · rw [pk_un e]; exact h j (by omega)
  exact ⟨7, tal 6 0 xTa rfl (fun r hr => by omega)⟩
/-- the least size of a value that no row takes, and the first of these -/
def fd_open (ar : Nat → Nat) (rw' : (Nat → Nat) → Nat → Nat) (c : Nat) (z : Nat) (U : Nat → Int32) : Prop :=
  (z = 0 ∧ ∀ s, 1 ≤ s → s ≤ 5 → fd_ct ar rw' c s 0 = 0) ∨
    (1 ≤ z ∧ z ≤ 5 ∧ (∀ s', 1 ≤ s' → s' < z → fd_ct ar rw' c s' 0 = 0) ∧ ∃ j, j < c ^ z ∧ fd_P ar rw' c z 0 j = true ∧ fd_cn (fd_P ar rw' c z 0) j = 0 ∧ ∀ i, i < z → U i = nI (fd_S c z j i))
theorem x_lo {post : Int32 → SX → Prop} {ar rc pl : Nat → Nat} {pat : Nat → Nat → Nat} {c f : Nat} (hc : c ≤ 6) (ha : ∀ i, ar i ≤ 2) (hf : f < 4) (hrc : rc f ≤ 5)
    (hP : ∀ i, i < rc f → fx_pat ar c xP xPe (pat (5 * f + i)) (pl (5 * f + i)) (5 * f + i))
    (hp : ∀ ss S E F t U z, fd_open ar (fm_row ar pat pl rc f) c z U →
      post (nI z) (nI c, xdr, xas, ss, xnc, xdp, xoc, xrs, xrt, xrf, xrz, fo_n ar, xD, xDe, xUw, fo_n rc, xP, xPe, fo_n pl, xO, xOl, xAr, S, E, xSn, F, xNc, xNf, xNs, xNz, xCr, xCn, xCv, xOp, xRl, t, U)) :
    wpX_leastOpenSize post (nI c, xdr, xas, xss, xnc, xdp, xoc, xrs, xrt, xrf, xrz, fo_n ar, xD, xDe, xUw, fo_n rc, xP, xPe, fo_n pl, xO, xOl, xAr, xS, xSe, xSn, xF, xNc, xNf, xNs, xNz, xCr, xCn, xCv, xOp, xRl, xTa, xUt) (nI f) := by
  have loop : ∀ d s ss S E F t U, s + d = 6 → 1 ≤ s → (∀ s', 1 ≤ s' → s' < s → fd_ct ar (fm_row ar pat pl rc f) c s' 0 = 0) →
      wX_leastOpenSize_2 post (nI f) (d + 1) (nI s) (nI c) xdr xas ss xnc xdp xoc xrs xrt xrf xrz (fo_n ar) xD xDe xUw (fo_n rc) xP xPe (fo_n pl) xO xOl xAr S E xSn F xNc xNf xNs xNz xCr xCn xCv xOp xRl t U := by
    intro d
    induction d with
    | zero =>
      intro s ss S E F t U hs h1 h
      exact br_t (nI_lt (a := 5) (by omega) (by omega)) (hp ss S E F t U 0 (Or.inl ⟨rfl, fun s' a b => h s' a (by omega)⟩))
    | succ d ih =>
      intro s ss S E F t U hs h1 h
      refine br_f (nI_nlt (a := 5) (by omega) (by decide)) (x_sv (pat := pat) hc ha hf hrc h1 (by omega) hP (fun S' E' F' t' U' a1 a2 => ?_))
      have hle := fd_cn_le (fd_P ar (fm_row ar pat pl rc f) c s 0) (c ^ s)
      have hpow := fd_pow hc (show s ≤ 5 by omega)
      refine pk_le (fd_ct ar (fm_row ar pat pl rc f) c s 0) 0 (fun z => nm_r (nI_1 s) (ih (s + 1) _ _ _ _ _ _ (by omega) (by omega) (fun s' b1 b2 => ?_))) (fun z => hp _ _ _ _ _ _ s (Or.inr ⟨h1, by omega, h, ?_⟩)) (a1 0 (by omega)) rfl (by unfold fd_ct; omega)
      · by_cases e : s' = s
        · subst e; omega
        · exact h s' b1 (by omega)
      · obtain ⟨j, q1, q2, q3⟩ := fd_fst _ _ z
        exact ⟨j, q1, q2, q3, a2 j q2 q3 q1⟩
  exact ⟨6, loop 5 1 xss xS xSe xF xTa xUt rfl (Nat.le_refl _) (fun s' a b => by omega)⟩
end
end
section
/-- what has been counted when the sizes below s are through, and the lists below j of size s -/
def fk_cc (ar : Nat → Nat) (rw' : (Nat → Nat) → Nat → Nat) (c s j s' r : Nat) : Nat :=
  if s' < s then fd_ct ar rw' c s' r else if s' = s then fd_cn (fd_P ar rw' c s r) j else 0
theorem fk_next {ar : Nat → Nat} {rw' : (Nat → Nat) → Nat → Nat} {c s s' r : Nat} : fk_cc ar rw' c s (c ^ s) s' r = fk_cc ar rw' c (s + 1) 0 s' r := by
  unfold fk_cc
  by_cases h1 : s' < s
  · rw [if_pos h1, if_pos (by omega)]
  · rw [if_neg h1]
    by_cases h2 : s' = s
    · rw [if_pos h2, if_pos (by omega), h2]; rfl
    · rw [if_neg h2, if_neg (by omega)]
      by_cases h3 : s' = s + 1
      · rw [if_pos h3]; rfl
      · rw [if_neg h3]
/-- the counts of function f -/
def fk_C (ar : Nat → Nat) (rw' : (Nat → Nat) → Nat → Nat) (c f s j : Nat) (C : Nat → Int32) : Prop :=
  ∀ s' r, 1 ≤ s' → s' ≤ 5 → r ≤ 5 → C (30 * f + 5 * r + (s' - 1)) = nI (fk_cc ar rw' c s j s' r)
/-- the first value that none takes, as far as it is known -/
def fk_O (ar : Nat → Nat) (rw' : (Nat → Nat) → Nat → Nat) (c f s j : Nat) (Z O : Nat → Int32) : Prop :=
  (Z f = 0 ∧ ∀ s', 1 ≤ s' → s' ≤ 5 → fk_cc ar rw' c s j s' 0 = 0) ∨
    ∃ z j0, 1 ≤ z ∧ z ≤ 5 ∧ z ≤ s ∧ Z f = nI z ∧ (∀ s', 1 ≤ s' → s' < z → fd_ct ar rw' c s' 0 = 0) ∧ j0 < c ^ z ∧ fd_P ar rw' c z 0 j0 = true ∧ fd_cn (fd_P ar rw' c z 0) j0 = 0 ∧
      ∀ i, i < z → O (5 * f + i) = nI (fd_S c z j0 i)
/-- nothing else has changed -/
def fk_E (f : Nat) (C0 Z0 O0 C Z O : Nat → Int32) : Prop :=
  (∀ q, (q < 30 * f ∨ 30 * f + 30 ≤ q) → C q = C0 q) ∧ (∀ q, q ≠ f → Z q = Z0 q) ∧ (∀ q, (q < 5 * f ∨ 5 * f + 5 ≤ q) → O q = O0 q)
theorem fk_know {ar : Nat → Nat} {rw' : (Nat → Nat) → Nat → Nat} {c f : Nat} {N C Z O : Nat → Int32} (hN : N f = 1) (hC : fk_C ar rw' c f 6 0 C) (hO : fk_O ar rw' c f 6 0 Z O) :
    fR_know ar rw' c f N C Z O := by
  have e : ∀ s' r, s' ≤ 5 → fk_cc ar rw' c 6 0 s' r = fd_ct ar rw' c s' r := fun s' r h => by unfold fk_cc; rw [if_pos (by omega)]
  refine Or.inr ⟨hN, fun s r a b d => by rw [hC s r a b d, e s r b], ?_⟩
  rcases hO with ⟨h1, h2⟩ | ⟨z, j0, a1, a2, a3, a4, a5⟩
  · exact Or.inl ⟨h1, fun s a b => by rw [← e s 0 b]; exact h2 s a b⟩
  · exact Or.inr ⟨z, j0, a1, a2, a4, a5⟩
theorem fk_other {ar : Nat → Nat} {rw' : (Nat → Nat) → Nat → Nat} {c f f' : Nat} {N C Z O N' C' Z' O' : Nat → Int32} (h : fR_know ar rw' c f' N C Z O) (hf : f' ≠ f) (hN : N' f' = N f') (hE : fk_E f C Z O C' Z' O') :
    fR_know ar rw' c f' N' C' Z' O' := by
  unfold fR_know
  rw [hN, hE.2.1 f' hf]
  rcases h with h | ⟨h1, h2, h3⟩
  · exact Or.inl h
  · refine Or.inr ⟨h1, fun s r a b d => ?_, ?_⟩
    · rw [hE.1 _ (by omega)]; exact h2 s r a b d
    · rcases h3 with h3 | ⟨s, j, a1, a2, a3, a4, a5, a6, a7, a8⟩
      · exact Or.inl h3
      · exact Or.inr ⟨s, j, a1, a2, a3, a4, a5, a6, a7, fun i hi => by rw [hE.2.2 _ (by omega)]; exact a8 i hi⟩
section
variable {ycc ydr ynd yln yal ygl yst ybl yhw yrn ywk : Int32} {yA yDk yDw yK yW yPl yRl yRc yHd yLf yRg ySz yLi ySk ySt yAr yGv yF yEn yPc yBd yWk yWw yOw yCt yOz yOp yKn : Nat → Int32}
theorem y_iv {post : Int32 → Prop} {ar S : Nat → Nat} {c s : Nat} (hc : c ≤ 6) (ha : ∀ i, ar i ≤ 2) (hs : s ≤ 40) (hS : ∀ i, i < s → S i < c ∧ yLi i = nI (S i))
    (h1 : fe_pe (fm_v ar S) s 0 = s → post 1) (h0 : fe_pe (fm_v ar S) s 0 ≠ s → post 0) : wpY_isValue post (ycc, ydr, ynd, nI s, yal, ygl, yst, ybl, yhw, yrn, ywk, fo_n ar, yDk, yDw, yK, yW, yPl, yRl, yRc, yHd, yLf, yRg, ySz, yLi, ySk, ySt, yAr, yGv, yF, yEn, yPc, yBd, yWk, yWw, yOw, yCt, yOz, yOp, yKn) := by
  have loop : ∀ d k i, i + d = s → k ≤ i + 1 → fe_pe (fm_v ar S) s 0 = fe_en (fm_v ar S) d k i → wY_isValue_4 post ycc ydr ynd (nI s) yal ygl yst ybl yhw yrn ywk (fo_n ar) yDk yDw yK yW yPl yRl yRc yHd yLf yRg ySz yLi ySk ySt yAr yGv yF yEn yPc yBd yWk yWw yOw yCt yOz yOp yKn (d + 1) (nI k) (nI i) := by
    intro d
    induction d with
    | zero =>
      intro k i hi hk he
      refine br_t (nI_le (by omega) (by omega)) (pk_eq k 0 (fun z => h1 ?_) (fun z => h0 ?_))
      · subst z; rw [he, fe_en0]; omega
      · obtain ⟨q, rfl⟩ : ∃ q, k = q + 1 := ⟨k - 1, by omega⟩
        rw [he, fe_enz]; omega
    | succ d ih =>
      intro k i hi hk he
      obtain ⟨s1, s2⟩ := hS i (by omega)
      refine br_f (nI_ge (by omega) (by omega)) (pk_eq k 0 (fun z => h0 ?_) (fun z => ⟨vp_in_nI (by omega) (by decide), ?_⟩))
      · subst z; rw [he, fe_en0]; omega
      · rw [nI_clamp (by omega), s2, nI_clamp (by omega)]
        obtain ⟨q, rfl⟩ : ∃ q, k = q + 1 := ⟨k - 1, by omega⟩
        have h2 := ha (S i)
        refine ⟨vp_in_nI (by omega) (by decide), nm_r (fo_ko (o := ar (S i)) (by omega)) (nm_r (nI_1 i) (ih _ (i + 1) (by omega) (by omega) ?_))⟩
        rw [he, fe_ens]; rfl
  exact ⟨s + 1, loop s 1 0 (by omega) (by omega) rfl⟩
theorem y_nt53 {post : SY → Prop} {f s : Nat} (hf : f < 4) (hs : s ≤ 5) {O0 : Nat → Int32}
    (hp : ∀ O, (∀ i, i < s → O (5 * f + i) = yLi i) → (∀ q, (q < 5 * f ∨ 5 * f + 5 ≤ q) → O q = O0 q) → post (ycc, ydr, ynd, yln, yal, ygl, yst, ybl, yhw, yrn, ywk, yA, yDk, yDw, yK, yW, yPl, yRl, yRc, yHd, yLf, yRg, ySz, yLi, ySk, ySt, yAr, yGv, yF, yEn, yPc, yBd, yWk, yWw, yOw, yCt, yOz, O, yKn)) :
    ∀ d i O, i + d = s → (∀ j, j < i → O (5 * f + j) = yLi j) → (∀ q, (q < 5 * f ∨ 5 * f + 5 ≤ q) → O q = O0 q) → wY_note_53 post (nI f) (nI s) ycc ydr ynd yln yal ygl yst ybl yhw yrn ywk (d + 1) (nI i) yA yDk yDw yK yW yPl yRl yRc yHd yLf yRg ySz yLi ySk ySt yAr yGv yF yEn yPc yBd yWk yWw yOw yCt yOz O yKn := by
  intro d
  induction d with
  | zero =>
    intro i O hi h1 h2
    exact br_t (nI_le (by omega) (by omega)) (hp O (fun j hj => h1 j (by omega)) h2)
  | succ d ih =>
    intro i O hi h1 h2
    have e : 5 * nI f + nI i = nI (5 * f + i) := by rw [fo_5m, nI_add]
    refine br_f (nI_ge (by omega) (by omega)) ⟨vp_in_nI (by omega) (by decide), by rw [e]; exact vp_in_nI (by omega) (by decide), nm_r (e' := upd O (5 * f + i) (yLi i)) (by rw [e, nI_clamp (by omega), nI_clamp (by omega)]) (nm_r (nI_1 i) (ih (i + 1) _ (by omega) ?_ ?_))⟩
    · intro j hj
      by_cases q : j = i
      · subst q; exact pk_us
      · rw [pk_un (by omega)]; exact h1 j (by omega)
    · intro q hq
      rw [pk_un (by omega)]; exact h2 q hq
/-- a value is noted -/
theorem y_nt {post : SY → Prop} {ar rc pl : Nat → Nat} {pat : Nat → Nat → Nat} {c f s j : Nat} (hc : c ≤ 6) (ha : ∀ i, ar i ≤ 2) (hf : f < 4) (hrc : rc f ≤ 5) (h1s : 1 ≤ s) (hs : s ≤ 5) (hj : j < c ^ s)
    (h0c : 0 < c) (hS : ∀ i, i < s → yLi i = nI (fd_S c s j i)) (hv : fe_pe (fm_v ar (fd_S c s j)) s 0 = s)
    (hP : ∀ i, i < rc f → fy_pat ar c yK yW (pat (5 * f + i)) (pl (5 * f + i)) (5 * f + i)) {C0 Z0 O0 : Nat → Int32}
    (hC : fk_C ar (fm_row ar pat pl rc f) c f s j yCt) (hO : fk_O ar (fm_row ar pat pl rc f) c f s j yOz yOp) (hE : fk_E f C0 Z0 O0 yCt yOz yOp)
    (hp : ∀ D F C Z O, fk_C ar (fm_row ar pat pl rc f) c f s (j + 1) C → fk_O ar (fm_row ar pat pl rc f) c f s (j + 1) Z O → fk_E f C0 Z0 O0 C Z O →
      post (ycc, ydr, ynd, nI s, yal, ygl, yst, ybl, yhw, yrn, ywk, fo_n ar, yDk, yDw, yK, yW, fo_n pl, yRl, fo_n rc, yHd, yLf, yRg, ySz, yLi, ySk, ySt, yAr, yGv, F, D, yPc, yBd, yWk, yWw, yOw, C, Z, O, yKn)) :
    wpY_note post (ycc, ydr, ynd, nI s, yal, ygl, yst, ybl, yhw, yrn, ywk, fo_n ar, yDk, yDw, yK, yW, fo_n pl, yRl, fo_n rc, yHd, yLf, yRg, ySz, yLi, ySk, ySt, yAr, yGv, yF, yEn, yPc, yBd, yWk, yWw, yOw, yCt, yOz, yOp, yKn) (nI f) (nI s) := by
  have hfull : fe_full (fm_v ar (fd_S c s j)) s := ⟨by omega, by omega, hv⟩
  have pr : ∀ r, fd_P ar (fm_row ar pat pl rc f) c s r j = decide (fm_row ar pat pl rc f (fd_S c s j) s = r) := fun r => by unfold fd_P; rw [decide_eq_true hv]; rfl
  have hwle := fm_row_le ar pat pl rc f (fd_S c s j) s
  have hpow := fd_pow hc hs
  generalize hw : fm_row ar pat pl rc f (fd_S c s j) s = w at *
  have hcn : fd_cn (fd_P ar (fm_row ar pat pl rc f) c s w) j ≤ j := fd_cn_le _ _
  have ccs : ∀ jj s' r, s' ≠ s → fk_cc ar (fm_row ar pat pl rc f) c s jj s' r = fk_cc ar (fm_row ar pat pl rc f) c s j s' r := by
    intro jj s' r h
    unfold fk_cc
    by_cases h1 : s' < s
    · rw [if_pos h1, if_pos h1]
    · rw [if_neg h1, if_neg h1, if_neg h, if_neg h]
  have cce : ∀ jj r, fk_cc ar (fm_row ar pat pl rc f) c s jj s r = fd_cn (fd_P ar (fm_row ar pat pl rc f) c s r) jj := by
    intro jj r
    unfold fk_cc
    rw [if_neg (Nat.lt_irrefl _), if_pos rfl]
  have cnS : ∀ r, fd_cn (fd_P ar (fm_row ar pat pl rc f) c s r) (j + 1) = fd_cn (fd_P ar (fm_row ar pat pl rc f) c s r) j + if w = r then 1 else 0 := by
    intro r
    simp only [fd_cn]
    rw [pr r]
    by_cases e : w = r
    · rw [decide_eq_true e, if_pos rfl, if_pos e]
    · rw [decide_eq_false e, if_neg (by decide), if_neg e]
  have hCw : yCt (30 * f + 5 * w + (s - 1)) = nI (fd_cn (fd_P ar (fm_row ar pat pl rc f) c s w) j) := by rw [hC s w h1s hs (by omega), cce]
  have hC' : fk_C ar (fm_row ar pat pl rc f) c f s (j + 1) (upd yCt (30 * f + 5 * w + (s - 1)) (nI (fd_cn (fd_P ar (fm_row ar pat pl rc f) c s w) j + 1))) := by
    intro s' r a b d
    by_cases e : s' = s
    · subst e
      rw [cce, cnS]
      by_cases e2 : r = w
      · subst e2; rw [pk_us, if_pos rfl]
      · rw [pk_un (by omega), if_neg (fun z => e2 z.symm), hC s' r a b d, cce]; rfl
    · rw [pk_un (by omega), ccs (j + 1) s' r e]
      exact hC s' r a b d
  have hE1 : ∀ x, (∀ q, (q < 30 * f ∨ 30 * f + 30 ≤ q) → upd yCt (30 * f + 5 * w + (s - 1)) x q = C0 q) := fun x q hq => by rw [pk_un (by omega)]; exact hE.1 q hq
  have ein : ∀ x : Int32, x + 1 = nI w → ((30 * nI f + 5 * (x + 1)) + nI s) - 1 = nI (30 * f + 5 * w + (s - 1)) := by
    intro x hx
    rw [hx, fo_30m, fo_5m, nI_add, nI_add, fo_s1 (by omega)]
    exact congrArg nI (by omega)
  have eup : ∀ x : Int32, x + 1 = nI w → upd yCt (((30 * nI f + 5 * (x + 1)) + nI s) - 1).toNatClampNeg (yCt (((30 * nI f + 5 * (x + 1)) + nI s) - 1).toNatClampNeg + 1) = upd yCt (30 * f + 5 * w + (s - 1)) (nI (fd_cn (fd_P ar (fm_row ar pat pl rc f) c s w) j + 1)) := by
    intro x hx
    rw [ein x hx, nI_clamp (by omega), hCw, nI_1]
  have vin : ∀ x : Int32, x + 1 = nI w → vp_in (((30 * nI f + 5 * (x + 1)) + nI s) - 1) 120 := fun x hx => by rw [ein x hx]; exact vp_in_nI (by omega) (by decide)
  -- what is kept when this one is taken, or another was found before
  have keep : (w ≠ 0 ∨ yOz f ≠ 0) → fk_O ar (fm_row ar pat pl rc f) c f s (j + 1) yOz yOp := by
    intro h
    rcases hO with ⟨o1, o2⟩ | o
    · refine Or.inl ⟨o1, fun s' a b => ?_⟩
      by_cases e : s' = s
      · subst e
        have := o2 s' a b
        rw [cce] at this
        rw [cce, cnS, this, if_neg (by
          intro z
          rcases h with h | h
          · exact h z
          · exact h o1)]
      · rw [ccs (j + 1) s' 0 e]; exact o2 s' a b
    · exact Or.inr o
  unfold wpY_note
  refine y_tk (pat := pat) hc ha hf hrc (by omega) hfull (fun i hi => ⟨fd_lt h0c _ _, hS i hi⟩) hP (fun z D F _ => ?_) (fun z D F _ => ?_)
  · rw [hw] at z
    have e0 : (-1 : Int32) + 1 = nI w := by rw [z]; decide
    refine ⟨vin _ e0, vin _ e0, nm_r (eup _ e0) (br_f (by decide) ⟨vp_in_nI hf (by decide), ?_⟩)⟩
    rw [nI_clamp (by omega)]
    by_cases oz : yOz f = 0
    · rw [oz]
      refine br_t (by decide) ⟨vp_in_nI hf (by decide), nm_r (e' := upd yOz f (nI s)) rfl ⟨s + 1, y_nt53 (O0 := O0) hf hs (fun O b1 b2 => hp D F _ _ O hC' (Or.inr ⟨s, j, h1s, hs, Nat.le_refl _, pk_us, fun s' a b => ?_, hj, ?_, ?_, fun i hi => ?_⟩) ⟨hE1 _, fun q hq => by rw [pk_un hq]; exact hE.2.1 q hq, b2⟩) s 0 yOp (by omega) (fun i hi => by omega) hE.2.2⟩⟩
      · rcases hO with ⟨o1, o2⟩ | ⟨z', j0, a1, a2, a3, a4, _⟩
        · have := o2 s' a (by omega)
          unfold fk_cc at this
          rw [if_pos b] at this
          exact this
        · rw [oz] at a4
          have := (nI_eq (a := 0) (b := z') (by omega) (by omega)).mp a4
          omega
      · rw [pr 0, z]; rfl
      · rcases hO with ⟨o1, o2⟩ | ⟨z', j0, a1, a2, a3, a4, _⟩
        · have := o2 s h1s hs
          rw [cce] at this
          exact this
        · rw [oz] at a4
          have := (nI_eq (a := 0) (b := z') (by omega) (by omega)).mp a4
          omega
      · rw [b1 i hi, hS i hi]
    · have hnz : ¬ yOz f ≤ 0 := by
        rcases hO with ⟨o1, _⟩ | ⟨z', j0, a1, a2, a3, a4, _⟩
        · exact absurd o1 oz
        · rw [a4]; exact nI_nle (by omega) (by omega)
      exact br_f hnz (hp D F _ yOz yOp hC' (keep (Or.inr oz)) ⟨hE1 _, hE.2.1, hE.2.2⟩)
  · rw [hw] at z ⊢
    have e0 : nI (w - 1) + 1 = nI w := by rw [nI_1]; exact congrArg nI (by omega)
    exact ⟨vin _ e0, vin _ e0, nm_r (eup _ e0) (br_t (nI_pos' (by omega)) (hp D F _ yOz yOp hC' (keep (Or.inl z)) ⟨hE1 _, hE.2.1, hE.2.2⟩))⟩
/-- the digits of a list's number -/
theorem y_kn86 {post : SY → Prop} {J57 : Int32 → Int32 → Int32 → Int32 → Int32 → Int32 → Int32 → Int32 → Int32 → Int32 → Int32 → Int32 → Int32 → (Nat → Int32) → (Nat → Int32) → (Nat → Int32) → (Nat → Int32) → (Nat → Int32) → (Nat → Int32) → (Nat → Int32) → (Nat → Int32) → (Nat → Int32) → (Nat → Int32) → (Nat → Int32) → (Nat → Int32) → (Nat → Int32) → (Nat → Int32) → (Nat → Int32) → (Nat → Int32) → (Nat → Int32) → (Nat → Int32) → (Nat → Int32) → (Nat → Int32) → (Nat → Int32) → (Nat → Int32) → (Nat → Int32) → (Nat → Int32) → (Nat → Int32) → (Nat → Int32) → (Nat → Int32) → (Nat → Int32) → Prop} {J66 : Int32 → Int32 → Int32 → Int32 → Int32 → Int32 → Int32 → Int32 → Int32 → Int32 → Int32 → Int32 → (Nat → Int32) → (Nat → Int32) → (Nat → Int32) → (Nat → Int32) → (Nat → Int32) → (Nat → Int32) → (Nat → Int32) → (Nat → Int32) → (Nat → Int32) → (Nat → Int32) → (Nat → Int32) → (Nat → Int32) → (Nat → Int32) → (Nat → Int32) → (Nat → Int32) → (Nat → Int32) → (Nat → Int32) → (Nat → Int32) → (Nat → Int32) → (Nat → Int32) → (Nat → Int32) → (Nat → Int32) → (Nat → Int32) → (Nat → Int32) → (Nat → Int32) → (Nat → Int32) → (Nat → Int32) → (Nat → Int32) → Prop} {ar rc pl : Nat → Nat} {pat : Nat → Nat → Nat} {c f s j : Nat} {x2 : Int32} (hc : c ≤ 6) (ha : ∀ i, ar i ≤ 2) (hf : f < 4) (hrc : rc f ≤ 5) (h1s : 1 ≤ s) (hs : s ≤ 5) (hj : j < c ^ s)
    (h0c : 0 < c) (hP : ∀ i, i < rc f → fy_pat ar c yK yW (pat (5 * f + i)) (pl (5 * f + i)) (5 * f + i)) {C0 Z0 O0 : Nat → Int32}
    (hC : fk_C ar (fm_row ar pat pl rc f) c f s j yCt) (hO : fk_O ar (fm_row ar pat pl rc f) c f s j yOz yOp) (hE : fk_E f C0 Z0 O0 yCt yOz yOp)
    (hJ : ∀ L D F C Z O, fk_C ar (fm_row ar pat pl rc f) c f s (j + 1) C → fk_O ar (fm_row ar pat pl rc f) c f s (j + 1) Z O → fk_E f C0 Z0 O0 C Z O →
      J66 (nI (j + 1)) (nI c) ydr ynd (nI s) yal ygl yst ybl yhw yrn ywk (fo_n ar) yDk yDw yK yW (fo_n pl) yRl (fo_n rc) yHd yLf yRg ySz L ySk ySt yAr yGv F D yPc yBd yWk yWw yOw C Z O yKn) :
    ∀ a L, a ≤ s → (∀ i, a ≤ i → i < s → L i = nI (fd_S c s j i)) →
      wY_know_86 post J57 J66 (nI f) x2 (nI s) (nI j) (nI c) ydr ynd (nI s) yal ygl yst ybl yhw yrn ywk (a + 1) (nI (j / c ^ (s - a))) (nI a + (-1)) (fo_n ar) yDk yDw yK yW (fo_n pl) yRl (fo_n rc) yHd yLf yRg ySz L ySk ySt yAr yGv yF yEn yPc yBd yWk yWw yOw yCt yOz yOp yKn := by
  have hpow := fd_pow hc hs
  intro a
  induction a with
  | zero =>
    intro L _ hL
    have hL' : ∀ i, i < s → L i = nI (fd_S c s j i) := fun i hi => hL i (by omega) hi
    refine br_t (by decide) (y_iv (S := fd_S c s j) hc ha (by omega) (fun i hi => ⟨fd_lt h0c _ _, hL' i hi⟩) (fun z => br_f fo_z1 ?_) (fun z => br_t rfl (nm_r (nI_1 j) (hJ L yEn yF yCt yOz yOp ?_ ?_ hE))))
    · exact y_nt (pat := pat) hc ha hf hrc h1s hs hj h0c hL' z hP hC hO hE (fun D F C Z O b1 b2 b3 => nm_r (nI_1 j) (hJ L D F C Z O b1 b2 b3))
    all_goals
      have np : ∀ r, fd_cn (fd_P ar (fm_row ar pat pl rc f) c s r) (j + 1) = fd_cn (fd_P ar (fm_row ar pat pl rc f) c s r) j := fun r => by
        simp only [fd_cn]
        rw [show fd_P ar (fm_row ar pat pl rc f) c s r j = false by unfold fd_P; rw [decide_eq_false z]; rfl]
        rfl
      have ec : ∀ s' r, fk_cc ar (fm_row ar pat pl rc f) c s (j + 1) s' r = fk_cc ar (fm_row ar pat pl rc f) c s j s' r := fun s' r => by
        unfold fk_cc; rw [np r]
    · intro s' r h1 h2 h3
      rw [ec]; exact hC s' r h1 h2 h3
    · rcases hO with ⟨o1, o2⟩ | o
      · exact Or.inl ⟨o1, fun s' h1 h2 => by rw [ec]; exact o2 s' h1 h2⟩
      · exact Or.inr o
  | succ b ih =>
    intro L hb hL
    have hd : j / c ^ (s - (b + 1)) ≤ j := Nat.div_le_self _ _
    have hne : ¬ nI c = 0 := nI_ne0 h0c (by omega)
    rw [pk_m1]
    refine br_f (nI_pos (by omega)) ⟨hne, vp_in_nI (by omega) (by decide), nm_r (e' := upd L b (nI (fd_S c s j b))) ?_ ⟨hne, nm_r (e' := nI (j / c ^ (s - b))) ?_ (nm_e (ih _ (by omega) ?_))⟩⟩
    · rw [nI_clamp (by omega), pk_rem (by omega) h0c (by omega)]
      unfold fd_S fd_dg
      rw [show s - 1 - b = s - (b + 1) by omega]
    · rw [pk_div (by omega) h0c (by omega), show s - b = s - (b + 1) + 1 by omega, fd_div]
    · intro i h1 h2
      by_cases e : i = b
      · subst e; exact pk_us
      · rw [pk_un e]; exact hL i (by omega) h2
/-- the survey of the reference -/
theorem y_kn {post : SY → Prop} {ar rc pl : Nat → Nat} {pat : Nat → Nat → Nat} {c f : Nat} (hc : c ≤ 6) (ha : ∀ i, ar i ≤ 2) (hf : f < 4) (hrc : rc f ≤ 5)
    (hP : ∀ i, i < rc f → fy_pat ar c yK yW (pat (5 * f + i)) (pl (5 * f + i)) (5 * f + i)) (hK : ∀ f', f' < 4 → fR_know ar (fm_row ar pat pl rc f') c f' yKn yCt yOz yOp)
    (hp : ∀ ln L D F C Z O N, (∀ f', f' < 4 → fR_know ar (fm_row ar pat pl rc f') c f' N C Z O) → N f = 1 →
      post (nI c, ydr, ynd, ln, yal, ygl, yst, ybl, yhw, yrn, ywk, fo_n ar, yDk, yDw, yK, yW, fo_n pl, yRl, fo_n rc, yHd, yLf, yRg, ySz, L, ySk, ySt, yAr, yGv, F, D, yPc, yBd, yWk, yWw, yOw, C, Z, O, N)) :
    wpY_know post (nI c, ydr, ynd, yln, yal, ygl, yst, ybl, yhw, yrn, ywk, fo_n ar, yDk, yDw, yK, yW, fo_n pl, yRl, fo_n rc, yHd, yLf, yRg, ySz, yLi, ySk, ySt, yAr, yGv, yF, yEn, yPc, yBd, yWk, yWw, yOw, yCt, yOz, yOp, yKn) (nI f) := by
  have ef : (nI f).toNatClampNeg = f := nI_clamp (by omega)
  have hin : vp_in (nI f) 4 := vp_in_nI hf (by decide)
  rcases hK f hf with k0 | k1
  · -- all lists of all sizes
    have numbers : ∀ s, 1 ≤ s → s ≤ 5 → ∀ (J57 : Int32 → Int32 → Int32 → Int32 → Int32 → Int32 → Int32 → Int32 → Int32 → Int32 → Int32 → Int32 → Int32 → (Nat → Int32) → (Nat → Int32) → (Nat → Int32) → (Nat → Int32) → (Nat → Int32) → (Nat → Int32) → (Nat → Int32) → (Nat → Int32) → (Nat → Int32) → (Nat → Int32) → (Nat → Int32) → (Nat → Int32) → (Nat → Int32) → (Nat → Int32) → (Nat → Int32) → (Nat → Int32) → (Nat → Int32) → (Nat → Int32) → (Nat → Int32) → (Nat → Int32) → (Nat → Int32) → (Nat → Int32) → (Nat → Int32) → (Nat → Int32) → (Nat → Int32) → (Nat → Int32) → (Nat → Int32) → (Nat → Int32) → Prop),
        (∀ ln L D F C Z O, fk_C ar (fm_row ar pat pl rc f) c f s (c ^ s) C → fk_O ar (fm_row ar pat pl rc f) c f s (c ^ s) Z O → fk_E f yCt yOz yOp C Z O →
          J57 (nI (c ^ (s + 1))) (nI (s + 1)) (nI c) ydr ynd ln yal ygl yst ybl yhw yrn ywk (fo_n ar) yDk yDw yK yW (fo_n pl) yRl (fo_n rc) yHd yLf yRg ySz L ySk ySt yAr yGv F D yPc yBd yWk yWw yOw C Z O (upd yKn f 1)) →
        ∀ d j ln L D F C Z O, j + d = c ^ s → fk_C ar (fm_row ar pat pl rc f) c f s j C → fk_O ar (fm_row ar pat pl rc f) c f s j Z O → fk_E f yCt yOz yOp C Z O →
          wY_know_66 post J57 (nI f) (nI (c ^ s)) (nI s) (d + 1) (nI j) (nI c) ydr ynd ln yal ygl yst ybl yhw yrn ywk (fo_n ar) yDk yDw yK yW (fo_n pl) yRl (fo_n rc) yHd yLf yRg ySz L ySk ySt yAr yGv F D yPc yBd yWk yWw yOw C Z O (upd yKn f 1) := by
      intro s h1s hs J57 hJ d
      have hpow := fd_pow hc hs
      induction d with
      | zero =>
        intro j ln L D F C Z O hj hC hO hE
        have e : j = c ^ s := by omega
        subst e
        refine br_t (nI_le (Nat.le_refl _) (by omega)) (nm_r (e' := nI (c ^ (s + 1))) ?_ (nm_r (nI_1 s) (hJ ln L D F C Z O hC hO hE)))
        rw [pk_mul, Nat.pow_succ]
      | succ d ih =>
        intro j ln L D F C Z O hj hC hO hE
        have h0c : 0 < c := by
          refine Classical.byContradiction fun z => ?_
          have e : c = 0 := by omega
          rw [e, Nat.zero_pow (by omega)] at hj
          omega
        refine br_f (nI_ge (by omega) (by omega)) (nm_r (e' := nI s + (-1)) (Int32.sub_eq_add_neg _ _) ⟨s + 1, ?_⟩)
        have := y_kn86 (post := post) (J57 := J57) (x2 := nI (c ^ s)) (pat := pat) (yCt := C) (yOz := Z) (yOp := O) (yEn := D) (yF := F) (yKn := upd yKn f 1) (j := j) hc ha hf hrc h1s hs (by omega) h0c hP hC hO hE (fun L' D' F' C' Z' O' b1 b2 b3 => ih (j + 1) (nI s) L' D' F' C' Z' O' (by omega) b1 b2 b3) s L (Nat.le_refl _) (fun i b1 b2 => by omega)
        rw [Nat.sub_self, Nat.pow_zero, Nat.div_one] at this
        exact this
    have sizes : ∀ d s ln L D F C Z O, s + d = 6 → 1 ≤ s → fk_C ar (fm_row ar pat pl rc f) c f s 0 C → fk_O ar (fm_row ar pat pl rc f) c f s 0 Z O → fk_E f yCt yOz yOp C Z O →
        wY_know_57 post (nI f) (d + 1) (nI (c ^ s)) (nI s) (nI c) ydr ynd ln yal ygl yst ybl yhw yrn ywk (fo_n ar) yDk yDw yK yW (fo_n pl) yRl (fo_n rc) yHd yLf yRg ySz L ySk ySt yAr yGv F D yPc yBd yWk yWw yOw C Z O (upd yKn f 1) := by
      intro d
      induction d with
      | zero =>
        intro s ln L D F C Z O hs h1s hC hO hE
        have e : s = 6 := by omega
        subst e
        refine br_t (nI_le (a := 6) (by omega) (by omega)) (hp ln L D F C Z O _ (fun f' hf' => ?_) pk_us)
        by_cases q : f' = f
        · subst q; exact fk_know pk_us hC hO
        · exact fk_other (hK f' hf') q (pk_un q) hE
      | succ d ih =>
        intro s ln L D F C Z O hs h1s hC hO hE
        refine br_f (nI_ge (b := 6) (by omega) (by decide)) ⟨c ^ s + 1, numbers s h1s (by omega) _ (fun ln' L' D' F' C' Z' O' b1 b2 b3 => ih (s + 1) ln' L' D' F' C' Z' O' (by omega) (by omega) ?_ ?_ b3) (c ^ s) 0 ln L D F C Z O (by omega) hC hO hE⟩
        · intro s' r h1 h2 h3
          rw [← fk_next]; exact b1 s' r h1 h2 h3
        · rcases b2 with ⟨o1, o2⟩ | ⟨z, j0, a1, a2, a3, a4⟩
          · exact Or.inl ⟨o1, fun s' h1 h2 => by rw [← fk_next]; exact o2 s' h1 h2⟩
          · exact Or.inr ⟨z, j0, a1, a2, by omega, a4⟩
    have zero : ∀ d i C, i + d = 30 → (∀ q, q < i → C (30 * f + q) = nI 0) → (∀ q, (q < 30 * f ∨ 30 * f + 30 ≤ q) → C q = yCt q) →
        wY_know_26 post (nI f) (nI c) ydr ynd yln yal ygl yst ybl yhw yrn ywk (d + 1) (nI i) (fo_n ar) yDk yDw yK yW (fo_n pl) yRl (fo_n rc) yHd yLf yRg ySz yLi ySk ySt yAr yGv yF yEn yPc yBd yWk yWw yOw C (upd yOz f 0) yOp (upd yKn f 1) := by
      intro d
      induction d with
      | zero =>
        intro i C hi h1 h2
        have cz : ∀ s' r, 1 ≤ s' → fk_cc ar (fm_row ar pat pl rc f) c 1 0 s' r = 0 := fun s' r h => by
          unfold fk_cc
          rw [if_neg (by omega)]
          by_cases e : s' = 1
          · rw [if_pos e]; rfl
          · rw [if_neg e]
        refine br_t (nI_le (a := 30) (by omega) (by omega)) ⟨6, ?_⟩
        have := sizes 5 1 yln yLi yEn yF C (upd yOz f 0) yOp rfl (Nat.le_refl _) (fun s' r a b d => ?_) (Or.inl ⟨pk_us, fun s' a b => cz s' 0 a⟩) ⟨h2, fun q hq => pk_un hq, fun q _ => rfl⟩
        · rw [Nat.pow_one] at this
          exact this
        · rw [cz s' r a, show 30 * f + 5 * r + (s' - 1) = 30 * f + (5 * r + (s' - 1)) by omega, h1 _ (by omega)]
      | succ d ih =>
        intro i C hi h1 h2
        have e : 30 * nI f + nI i = nI (30 * f + i) := by rw [fo_30m, nI_add]
        refine br_f (nI_ge (b := 30) (by omega) (by decide)) ⟨by rw [e]; exact vp_in_nI (by omega) (by decide), nm_r (e' := upd C (30 * f + i) (nI 0)) (by rw [e, nI_clamp (by omega)]; rfl) (nm_r (nI_1 i) (ih (i + 1) _ (by omega) ?_ ?_))⟩
        · intro q hq
          by_cases z : q = i
          · subst z; exact pk_us
          · rw [pk_un (by omega)]; exact h1 q (by omega)
        · intro q hq
          rw [pk_un (by omega)]; exact h2 q hq
    refine ⟨hin, br_t (by rw [ef]; exact k0) ⟨hin, nm_r (e' := upd yKn f 1) (by rw [ef]; rfl) ⟨hin, nm_r (e' := upd yOz f 0) (by rw [ef]) ⟨31, zero 30 0 yCt rfl (fun q hq => by omega) (fun q _ => rfl)⟩⟩⟩⟩
  · refine ⟨hin, br_f (by rw [ef, k1.1]; decide) (hp yln yLi yEn yF yCt yOz yOp yKn hK k1.1)⟩
end
end
section
/-- a row's number, or -1, or out of range -/
theorem fo_rw (p : Int32) {n : Nat} (hn : n < 2 ^ 30) : p < -1 ∨ (¬ p < -1 ∧ nI n ≤ p) ∨ ∃ q, q ≤ n ∧ p = nI q + (-1) := by
  by_cases h : p < -1
  · exact Or.inl h
  · right
    by_cases h0 : p < 0
    · right
      refine ⟨0, Nat.zero_le _, ?_⟩
      apply Int32.toInt_inj.mp
      have a : (-1 : Int32).toInt = -1 := by decide
      have b : (0 : Int32).toInt = 0 := by decide
      rw [Int32.lt_iff_toInt_lt, a] at h
      rw [Int32.lt_iff_toInt_lt, b] at h0
      rw [show nI 0 + (-1) = -1 by decide, a]
      omega
    · obtain ⟨j, hj, rfl⟩ := nI_of h0
      by_cases h2 : j < n
      · exact Or.inr ⟨j + 1, h2, (pk_m1 j).symm⟩
      · exact Or.inl ⟨h, nI_le (by omega) hj⟩
theorem fo_q1 (q : Nat) : nI q + (-1) + 1 = nI q := by
  generalize nI q = a
  grind
theorem fo_qm {q : Nat} (h : q < 2 ^ 31) : ¬ nI q + (-1) < -1 := by
  cases q with
  | zero => decide
  | succ q => rw [pk_m1]; exact fun z => absurd (Int32.lt_of_le_of_lt (nI_pos' (n := q) (by omega)) z) (by decide)
theorem fo_ql {q n : Nat} (h : q ≤ n) (hn : n < 2 ^ 31) : ¬ nI n ≤ nI q + (-1) := by
  cases q with
  | zero => exact fun z => absurd (Int32.le_trans (nI_pos' (n := n) hn) z) (by decide)
  | succ q => rw [pk_m1]; exact nI_ge (by omega) hn
theorem fo_qn {q n : Nat} (h : q ≤ n) (hn : n < 2 ^ 31) : ¬ nI n - 1 < nI q + (-1) := by
  cases q with
  | zero =>
    cases n with
    | zero => decide
    | succ n =>
      rw [nI_pred, show nI 0 + (-1) = -1 by decide]
      exact fun z => absurd (Int32.lt_of_le_of_lt (nI_pos' (n := n) (by omega)) z) (by decide)
  | succ q =>
    rw [pk_m1, fo_s1 (by omega)]
    exact nI_nlt (by omega) (by omega)
theorem fo_qg {n : Nat} {p : Int32} (hn : n < 2 ^ 30) (h : nI n ≤ p) : nI n - 1 < p := by
  rw [Int32.le_iff_toInt_le, nI_toInt (by omega)] at h
  rw [Int32.lt_iff_toInt_lt]
  have e : (nI n - 1).toInt = (n : Int) - 1 := pk_sub_toInt (a := n) (b := 1) hn (by decide)
  rw [e]
  omega
theorem fd_ct_le {ar : Nat → Nat} {rw' : (Nat → Nat) → Nat → Nat} {c s r : Nat} (hc : c ≤ 6) (hs : s ≤ 5) : fd_ct ar rw' c s r ≤ 7776 := by
  have a := fd_cn_le (fd_P ar rw' c s r) (c ^ s)
  have b := fd_pow hc hs
  unfold fd_ct
  omega
theorem i_vc_count {k : Nat} {u : SX} {v : SY} (I : i_Rel k u v) (hk : k + 4 ≤ 2048) (v1 : Int32) (v2 : Int32) (v3 : Int32) : wpX_count (fun r u' => wpY_count (fun r' v' => r' = r ∧ i_Rel (k + 4) u' v') v v1 v2 v3) u v1 v2 v3 := by
  refine i_el (P := fun u v => wpX_count (fun r u' => wpY_count (fun r' v' => r' = r ∧ i_Rel (k + 4) u' v') v v1 v2 v3) u v1 v2 v3) I ?_
  intro c n m g ar rc pl T pat pre pos arg giv xss xnc xdp xoc xrs xrt xrf ynd yln yhw yrn ywk xD xDe xUw xP xPe xO xOl xAr xS xSe xSn xF xNc xNf xNs xNz xCr xCn xCv xOp xRl xTa xUt yDk yDw yK yW yHd yLf yRg ySz yLi ySk ySt yF yEn yPc yBd yWk yWw yOw yCt yOz yOp yKn G
  rcases fo_f4 v1 with h | ⟨f, hf, rfl⟩
  · unfold wpX_count
    refine x_isF0 h (br_t rfl ?_)
    unfold wpY_count
    exact y_in0 h (br_t rfl ⟨rfl, i_mk G⟩)
  obtain ⟨g1, g2, g3, g4, g5, g6, g7, g8, g9⟩ := id G
  have hrc := g4 f
  have ef : (nI f).toNatClampNeg = f := nI_clamp (by omega)
  have hin : vp_in (nI f) 4 := vp_in_nI hf (by decide)
  have er : fo_n rc (nI f).toNatClampNeg = nI (rc f) := by rw [ef]; rfl
  unfold wpX_count
  refine x_isF1 hf (br_f fo_z1 ?_)
  rcases fo_rw v2 (n := rc f) (by omega) with b | ⟨b0, b⟩ | ⟨q, hq, rfl⟩
  · refine br_t b ?_
    unfold wpY_count
    exact y_in1 hf (br_f fo_z1 ⟨hin, br_t b (br_t rfl ⟨rfl, i_mk G⟩)⟩)
  · refine br_f b0 ⟨hin, br_t (by rw [er]; exact b) ?_⟩
    unfold wpY_count
    exact y_in1 hf (br_f fo_z1 ⟨hin, br_f b0 (br_t (by rw [er]; exact fo_qg (by omega) b) (br_t rfl ⟨rfl, i_mk G⟩))⟩)
  · refine br_f (fo_qm (by omega)) ⟨hin, br_f (by rw [er]; exact fo_ql hq (by omega)) ?_⟩
    have ystart : ∀ (P : Int64 → SY → Prop), (v3 < 1 ∨ 5 < v3 → P (-1) (nI c, nI n, ynd, yln, nI m, nI g, xrt, xrf, yhw, yrn, ywk, fo_n ar, yDk, yDw, yK, yW, fo_n pl, xOl, fo_n rc, yHd, yLf, yRg, ySz, yLi, ySk, ySt, xAr, xRl, yF, yEn, yPc, yBd, yWk, yWw, yOw, yCt, yOz, yOp, yKn)) → (∀ s, 1 ≤ s → s ≤ 5 → v3 = nI s → wpY_know (fun u => match u with | (ycc, ydr, ynd, yln, yal, ygl, yst, ybl, yhw, yrn, ywk, yA, yDk, yDw, yK, yW, yPl, yRl, yRc, yHd, yLf, yRg, ySz, yLi, ySk, ySt, yAr, yGv, yF, yEn, yPc, yBd, yWk, yWw, yOw, yCt, yOz, yOp, yKn) => (vp_in ((((30 * nI f) + (5 * (nI q + (-1) + 1))) + v3) - 1) 120 ∧ (P (yCt ((((30 * nI f) + (5 * (nI q + (-1) + 1))) + v3) - 1).toNatClampNeg).toInt64 (ycc, ydr, ynd, yln, yal, ygl, yst, ybl, yhw, yrn, ywk, yA, yDk, yDw, yK, yW, yPl, yRl, yRc, yHd, yLf, yRg, ySz, yLi, ySk, ySt, yAr, yGv, yF, yEn, yPc, yBd, yWk, yWw, yOw, yCt, yOz, yOp, yKn)))) (nI c, nI n, ynd, yln, nI m, nI g, xrt, xrf, yhw, yrn, ywk, fo_n ar, yDk, yDw, yK, yW, fo_n pl, xOl, fo_n rc, yHd, yLf, yRg, ySz, yLi, ySk, ySt, xAr, xRl, yF, yEn, yPc, yBd, yWk, yWw, yOw, yCt, yOz, yOp, yKn) (nI f)) →
        wpY_count P (nI c, nI n, ynd, yln, nI m, nI g, xrt, xrf, yhw, yrn, ywk, fo_n ar, yDk, yDw, yK, yW, fo_n pl, xOl, fo_n rc, yHd, yLf, yRg, ySz, yLi, ySk, ySt, xAr, xRl, yF, yEn, yPc, yBd, yWk, yWw, yOw, yCt, yOz, yOp, yKn) (nI f) (nI q + (-1)) v3 := by
      intro P h0 h1
      unfold wpY_count
      refine y_in1 hf (br_f fo_z1 ⟨hin, br_f (fo_qm (by omega)) (br_f (by rw [er]; exact fo_qn hq (by omega)) (br_f fo_z1 ?_))⟩)
      by_cases z1 : v3 < 1
      · exact br_t z1 (br_t rfl (h0 (Or.inl z1)))
      · by_cases z5 : 5 < v3
        · exact br_f z1 (br_t z5 (br_t rfl (h0 (Or.inr z5))))
        · refine br_f z1 (br_f z5 (br_f fo_z1 ?_))
          obtain ⟨s, hs, e⟩ := nI_of2 (n := 5) (M := 5) (x := v3) (by decide) (fun z => z1 (Int32.lt_trans z (by decide))) (Int32.not_lt.mp z5)
          refine h1 s ?_ hs e
          refine Classical.byContradiction fun z => z1 ?_
          have : s = 0 := by omega
          rw [e, this]; decide
    by_cases z1 : v3 < 1
    · exact br_t z1 (ystart _ (fun _ => ⟨rfl, i_mk G⟩) (fun s h1 h5 e => by rw [e] at z1; exact absurd z1 (nI_nlt (b := 1) h1 (by omega))))
    · refine br_f z1 ?_
      by_cases z5 : v3 ≤ 5
      · refine br_t z5 ?_
        obtain ⟨s, hs, rfl⟩ := nI_of2 (n := 5) (M := 5) (x := v3) (by decide) (fun z => z1 (Int32.lt_trans z (by decide))) z5
        have h1s : 1 ≤ s := by
          refine Classical.byContradiction fun z => z1 ?_
          have : s = 0 := by omega
          rw [this]; decide
        refine x_sv (pat := pat) g1 g3 hf hrc h1s hs (fun i hi => fx_pat_of (g6 f i hf hi)) (fun S E F t U a1 a2 => ?_)
        refine ⟨by rw [fo_q1]; exact vp_in_nI (by omega) (by decide), ?_⟩
        have ex : (t (nI q + (-1) + 1).toNatClampNeg).toInt64 = (nI (fd_ct ar (fm_row ar pat pl rc f) c s q)).toInt64 := by rw [fo_q1, nI_clamp (by omega), a1 q (by omega)]
        rw [ex]
        refine ystart _ (fun h => ?_) (fun s' h1 h5 e => ?_)
        · rcases h with h | h
          · exact absurd h z1
          · exact absurd h (Int32.not_lt.mpr z5)
        · refine y_kn (pat := pat) g1 g3 hf hrc (fun i hi => fy_pat_of (g6 f i hf hi)) g9 (fun ln L D F' C Z O N b1 b2 => ?_)
          have ei : ((30 * nI f + 5 * (nI q + (-1) + 1)) + nI s) - 1 = nI (30 * f + 5 * q + (s - 1)) := by
            rw [fo_q1, fo_30m, fo_5m, nI_add, nI_add, fo_s1 (by omega)]
            exact congrArg nI (by omega)
          rw [ei]
          refine ⟨vp_in_nI (by omega) (by decide), ?_⟩
          rw [nI_clamp (by omega)]
          rcases b1 f hf with w | ⟨w1, w2, w3⟩
          · rw [b2] at w; exact absurd w (by decide)
          · rw [w2 s q h1s hs (by omega)]
            exact ⟨rfl, i_mk (c := c) (n := n) (m := m) (g := g) (ar := ar) (rc := rc) (pl := pl) (T := T) (pat := pat) (pre := pre) (pos := pos) (arg := arg) (giv := giv) ⟨g1, g2, g3, g4, g5, g6, g7, g8, b1⟩⟩
      · exact br_f z5 (ystart _ (fun _ => ⟨rfl, i_mk G⟩) (fun s h1 h5 e => by rw [e] at z5; exact absurd (nI_le (b := 5) h5 (by decide)) z5))
/-- the first is the first on both sides -/
theorem fd_open_1 {ar : Nat → Nat} {rw' : (Nat → Nat) → Nat → Nat} {c z f : Nat} {U N C Z O : Nat → Int32} (hc : c ≤ 6) (hx : fd_open ar rw' c z U) (hy : fR_know ar rw' c f N C Z O) (hN : N f = 1) :
    Z f = nI z ∧ z ≤ 5 ∧ ∀ i, i < z → O (5 * f + i) = U i := by
  rcases hy with w | ⟨w1, w2, w3⟩
  · rw [hN] at w; exact absurd w (by decide)
  · have pos : ∀ s j, j < c ^ s → fd_P ar rw' c s 0 j = true → fd_ct ar rw' c s 0 ≠ 0 := by
      intro s j h1 h2 h3
      have := (fd_cn_pos (P := fd_P ar rw' c s 0) (c ^ s)).mpr ⟨j, h1, h2⟩
      unfold fd_ct at h3
      omega
    rcases hx with ⟨x1, x2⟩ | ⟨x1, x2, x3, j, x4, x5, x6, x7⟩
    · rcases w3 with ⟨y1, y2⟩ | ⟨s, j', y1, y2, y3, y4, y5, y6, y7, y8⟩
      · subst x1; exact ⟨y1, by omega, fun i hi => by omega⟩
      · exact absurd (x2 s y1 y2) (pos s j' y5 y6)
    · rcases w3 with ⟨y1, y2⟩ | ⟨s, j', y1, y2, y3, y4, y5, y6, y7, y8⟩
      · exact absurd (y2 z x1 x2) (pos z j x4 x5)
      · have e : s = z := by
          rcases Nat.lt_trichotomy s z with g | g | g
          · exact absurd (x3 s y1 g) (pos s j' y5 y6)
          · exact g
          · exact absurd (y4 z x1 g) (pos z j x4 x5)
        subst e
        have e2 : j' = j := fd_first _ y6 y7 x5 x6
        subst e2
        exact ⟨y3, x2, fun i hi => by rw [y8 i hi, x7 i hi]⟩
theorem i_vc_open {k : Nat} {u : SX} {v : SY} (I : i_Rel k u v) (hk : k + 4 ≤ 2048) (v1 : Int32) : wpX_open (fun r u' => wpY_open (fun r' v' => r' = r ∧ i_Rel (k + 4) u' v') v v1) u v1 := by
  refine i_el (P := fun u v => wpX_open (fun r u' => wpY_open (fun r' v' => r' = r ∧ i_Rel (k + 4) u' v') v v1) u v1) I ?_
  intro c n m g ar rc pl T pat pre pos arg giv xss xnc xdp xoc xrs xrt xrf ynd yln yhw yrn ywk xD xDe xUw xP xPe xO xOl xAr xS xSe xSn xF xNc xNf xNs xNz xCr xCn xCv xOp xRl xTa xUt yDk yDw yK yW yHd yLf yRg ySz yLi ySk ySt yF yEn yPc yBd yWk yWw yOw yCt yOz yOp yKn G
  rcases fo_f4 v1 with h | ⟨f, hf, rfl⟩
  · unfold wpX_open
    refine x_isF0 h (br_t rfl ?_)
    unfold wpY_open
    exact y_in0 h (br_t rfl ⟨rfl, i_mk G⟩)
  obtain ⟨g1, g2, g3, g4, g5, g6, g7, g8, g9⟩ := id G
  unfold wpX_open
  refine x_isF1 hf (br_f fo_z1 (x_lo (pat := pat) g1 g3 hf (g4 f) (fun i hi => fx_pat_of (g6 f i hf hi)) (fun ss S E F t U z hz => ?_)))
  unfold wpY_open
  refine y_in1 hf (br_f fo_z1 (y_kn (pat := pat) g1 g3 hf (g4 f) (fun i hi => fy_pat_of (g6 f i hf hi)) g9 (fun ln L D F' C Z O N b1 b2 => ⟨vp_in_nI hf (by decide), ?_⟩)))
  rw [nI_clamp (by omega)]
  exact ⟨(fd_open_1 g1 hz (b1 f hf) b2).1, i_mk (c := c) (n := n) (m := m) (g := g) (ar := ar) (rc := rc) (pl := pl) (T := T) (pat := pat) (pre := pre) (pos := pos) (arg := arg) (giv := giv) ⟨g1, g2, g3, g4, g5, g6, g7, g8, b1⟩⟩
theorem i_vc_witness {k : Nat} {u : SX} {v : SY} (I : i_Rel k u v) (hk : k + 4 ≤ 2048) (v1 : Int32) (v2 : Int32) : wpX_witness (fun r u' => wpY_witness (fun r' v' => r' = r ∧ i_Rel (k + 4) u' v') v v1 v2) u v1 v2 := by
  refine i_el (P := fun u v => wpX_witness (fun r u' => wpY_witness (fun r' v' => r' = r ∧ i_Rel (k + 4) u' v') v v1 v2) u v1 v2) I ?_
  intro c n m g ar rc pl T pat pre pos arg giv xss xnc xdp xoc xrs xrt xrf ynd yln yhw yrn ywk xD xDe xUw xP xPe xO xOl xAr xS xSe xSn xF xNc xNf xNs xNz xCr xCn xCv xOp xRl xTa xUt yDk yDw yK yW yHd yLf yRg ySz yLi ySk ySt yF yEn yPc yBd yWk yWw yOw yCt yOz yOp yKn G
  rcases fo_f4 v1 with h | ⟨f, hf, rfl⟩
  · unfold wpX_witness
    refine x_isF0 h (br_t rfl ?_)
    unfold wpY_witness
    exact y_in0 h (br_t rfl ⟨rfl, i_mk G⟩)
  obtain ⟨g1, g2, g3, g4, g5, g6, g7, g8, g9⟩ := id G
  unfold wpX_witness
  refine x_isF1 hf (br_f fo_z1 ?_)
  have ef : (nI f).toNatClampNeg = f := nI_clamp (by omega)
  by_cases h0 : 0 ≤ v2
  · obtain ⟨j, hj, rfl⟩ := nI_of (Int32.not_lt.mpr h0)
    refine br_t h0 (x_lo (pat := pat) g1 g3 hf (g4 f) (fun i hi => fx_pat_of (g6 f i hf hi)) (fun ss S E F t U z hz => ?_))
    have yside : ∀ r : Int32, (z ≤ j → r = -1) → (j < z → r = U j) → wpY_witness (fun r' v' => r' = r ∧ i_Rel (k + 4) (nI c, nI n, nI m, ss, xnc, xdp, xoc, xrs, xrt, xrf, nI g, fo_n ar, xD, xDe, xUw, fo_n rc, xP, xPe, fo_n pl, xO, xOl, xAr, S, E, xSn, F, xNc, xNf, xNs, xNz, xCr, xCn, xCv, xOp, xRl, t, U) v') (nI c, nI n, ynd, yln, nI m, nI g, xrt, xrf, yhw, yrn, ywk, fo_n ar, yDk, yDw, yK, yW, fo_n pl, xOl, fo_n rc, yHd, yLf, yRg, ySz, yLi, ySk, ySt, xAr, xRl, yF, yEn, yPc, yBd, yWk, yWw, yOw, yCt, yOz, yOp, yKn) (nI f) (nI j) := by
      intro r r1 r2
      unfold wpY_witness
      refine y_in1 hf (br_f fo_z1 (y_kn (pat := pat) g1 g3 hf (g4 f) (fun i hi => fy_pat_of (g6 f i hf hi)) g9 (fun ln L D F' C Z O N b1 b2 => ⟨vp_in_nI hf (by decide), ?_⟩)))
      obtain ⟨o1, o2, o3⟩ := fd_open_1 g1 hz (b1 f hf) b2
      have K : i_Rel (k + 4) (nI c, nI n, nI m, ss, xnc, xdp, xoc, xrs, xrt, xrf, nI g, fo_n ar, xD, xDe, xUw, fo_n rc, xP, xPe, fo_n pl, xO, xOl, xAr, S, E, xSn, F, xNc, xNf, xNs, xNz, xCr, xCn, xCv, xOp, xRl, t, U) (nI c, nI n, ynd, ln, nI m, nI g, xrt, xrf, yhw, yrn, ywk, fo_n ar, yDk, yDw, yK, yW, fo_n pl, xOl, fo_n rc, yHd, yLf, yRg, ySz, L, ySk, ySt, xAr, xRl, F', D, yPc, yBd, yWk, yWw, yOw, C, Z, O, N) := i_mk (c := c) (n := n) (m := m) (g := g) (ar := ar) (rc := rc) (pl := pl) (T := T) (pat := pat) (pre := pre) (pos := pos) (arg := arg) (giv := giv) ⟨g1, g2, g3, g4, g5, g6, g7, g8, b1⟩
      rw [ef, o1]
      refine br_f (nI_pos hj) ?_
      by_cases q : j < z
      · refine br_f ?_ (br_f fo_z1 ?_)
        · rw [fo_s1 (by omega)]; exact nI_nlt (by omega) (by omega)
        · have e : 5 * nI f + nI j = nI (5 * f + j) := by rw [fo_5m, nI_add]
          rw [e]
          refine ⟨vp_in_nI (by omega) (by decide), ?_⟩
          rw [nI_clamp (by omega), o3 j q]
          exact ⟨(r2 q).symm, K⟩
      · refine br_t ?_ (br_t rfl ⟨(r1 (by omega)).symm, K⟩)
        exact fo_qg (by omega) (nI_le (by omega) hj)
    have hz5 : z ≤ 5 := by
      rcases hz with a | a
      · omega
      · exact a.2.1
    refine pk_le z j (fun q => yside _ (fun _ => rfl) (fun g => by omega)) (fun q => ⟨vp_in_nI (by omega) (by decide), ?_⟩)
    rw [nI_clamp (by omega)]
    exact yside _ (fun g => by omega) (fun _ => rfl)
  · refine br_f h0 ?_
    unfold wpY_witness
    refine y_in1 hf (br_f fo_z1 (y_kn (pat := pat) g1 g3 hf (g4 f) (fun i hi => fy_pat_of (g6 f i hf hi)) g9 (fun ln L D F' C Z O N b1 b2 => ⟨vp_in_nI hf (by decide), br_t (Int32.not_le.mp h0) (br_t rfl ⟨rfl, i_mk (c := c) (n := n) (m := m) (g := g) (ar := ar) (rc := rc) (pl := pl) (T := T) (pat := pat) (pre := pre) (pos := pos) (arg := arg) (giv := giv) ⟨g1, g2, g3, g4, g5, g6, g7, g8, b1⟩⟩)⟩)))
/-- sets of rows as masks -/
def fu_c (M r : Nat) : Nat := if M.testBit r = true then M - 2 ^ r else M
theorem fu_x : ∀ M, M < 32 → ∀ r, r < 5 → nI M &&& (((1 : Int32) <<< (nI r &&& 31)) ^^^ (-1)) = nI (fu_c M r) ∧ fu_c M r < 32 := by decide +kernel
theorem fu_xb : ∀ M, M < 32 → ∀ r, r < 5 → ∀ w, w < 5 → ((fu_c M r).testBit w = true ↔ M.testBit w = true ∧ w ≠ r) := by decide +kernel
theorem fu_y : ∀ M, M < 32 → ∀ r, r < 5 → nI M ||| ((1 : Int32) <<< (nI r &&& 31)) = nI (M ||| 2 ^ r) ∧ M ||| 2 ^ r < 32 := by decide +kernel
theorem fu_yb : ∀ M, M < 32 → ∀ r, r < 5 → ∀ w, w < 5 → ((M ||| 2 ^ r).testBit w = true ↔ M.testBit w = true ∨ w = r) := by decide +kernel
theorem fu_0 : ∀ n, n ≤ 5 → ((1 : Int32) <<< (nI n &&& 31)) - 1 = nI (2 ^ n - 1) ∧ 2 ^ n - 1 < 32 := by decide +kernel
theorem fu_0b : ∀ n, n ≤ 5 → ∀ w, w < 5 → ((2 ^ n - 1).testBit w = true ↔ w < n) := by decide +kernel
theorem fu_eq : ∀ M, M < 32 → ∀ M', M' < 32 → (∀ w, w < 5 → (M.testBit w = true ↔ M'.testBit w = true)) → M = M' := by decide +kernel
section
variable {xcc xdr xas xss xnc xdp xoc xrs xrt xrf xrz : Int32} {xA xD xDe xUw xRc xP xPe xPl xO xOl xAr xS xSe xSn xF xNc xNf xNs xNz xCr xCn xCv xOp xRl xTa xUt : Nat → Int32}
theorem x_ul36 {post : Int32 → SX → Prop} {J : Int32 → Int32 → Int32 → Int32 → Int32 → Int32 → Int32 → Int32 → Int32 → Int32 → Int32 → Int32 → Int32 → (Nat → Int32) → (Nat → Int32) → (Nat → Int32) → (Nat → Int32) → (Nat → Int32) → (Nat → Int32) → (Nat → Int32) → (Nat → Int32) → (Nat → Int32) → (Nat → Int32) → (Nat → Int32) → (Nat → Int32) → (Nat → Int32) → (Nat → Int32) → (Nat → Int32) → (Nat → Int32) → (Nat → Int32) → (Nat → Int32) → (Nat → Int32) → (Nat → Int32) → (Nat → Int32) → (Nat → Int32) → (Nat → Int32) → (Nat → Int32) → (Nat → Int32) → (Nat → Int32) → Prop} {rc : Nat → Nat} {ct : Nat → Nat} {f s : Nat} (hf : f < 4) (hrc : rc f ≤ 5) (hs : s ≤ 5) (ht : ∀ r, r ≤ 5 → xTa r = nI (ct r)) (hct : ∀ r, ct r ≤ 7776) {M0 : Nat}
    (hJ : ∀ M, M < 32 → (∀ w, w < 5 → (M.testBit w = true ↔ M0.testBit w = true ∧ ¬ (w < rc f ∧ 0 < ct (w + 1)))) → J (nI M) (nI (s + 1)) xcc xdr xas xss xnc xdp xoc xrs xrt xrf xrz xA xD xDe xUw (fo_n rc) xP xPe xPl xO xOl xAr xS xSe xSn xF xNc xNf xNs xNz xCr xCn xCv xOp xRl xTa xUt) :
    ∀ d i M, i + d = rc f → M < 32 → (∀ w, w < 5 → (M.testBit w = true ↔ M0.testBit w = true ∧ ¬ (w < i ∧ 0 < ct (w + 1)))) →
      wX_useless_36 post J (nI f) (nI s) xcc xdr xas xss xnc xdp xoc xrs xrt xrf xrz xA xD xDe xUw (fo_n rc) xP xPe xPl xO xOl xAr xS xSe xSn xF xNc xNf xNs xNz xCr xCn xCv xOp xRl xTa xUt (d + 1) (nI M) (nI i) := by
  intro d
  induction d with
  | zero =>
    intro i M hi hM h
    have e : i = rc f := by omega
    refine ⟨vp_in_nI hf (by decide), br_t ?_ (nm_r (nI_1 s) (hJ M hM (by rw [← e]; exact h)))⟩
    rw [nI_clamp (by omega)]
    exact nI_le (a := rc f) (by omega) (by omega)
  | succ d ih =>
    intro i M hi hM h
    refine ⟨vp_in_nI hf (by decide), br_f ?_ ?_⟩
    · rw [nI_clamp (by omega)]
      exact nI_ge (b := rc f) (by omega) (by omega)
    rw [nI_1]
    refine ⟨vp_in_nI (by omega) (by decide), ?_⟩
    rw [nI_clamp (by omega), ht (i + 1) (by omega)]
    have := hct (i + 1)
    refine pk_le (ct (i + 1)) 0 (fun z => nm_e (ih (i + 1) M (by omega) hM (fun w hw => ?_))) (fun z => nm_r (fu_x M hM i (by omega)).1 (nm_e (ih (i + 1) _ (by omega) (fu_x M hM i (by omega)).2 (fun w hw => ?_))))
    · rw [h w hw]
      refine and_congr_right (fun _ => not_congr ⟨fun g => ⟨by omega, g.2⟩, fun g => ⟨?_, g.2⟩⟩)
      have : w ≠ i := fun e => by subst e; omega
      omega
    · rw [fu_xb M hM i (by omega) w hw, h w hw]
      constructor
      · rintro ⟨⟨a, b⟩, e⟩
        exact ⟨a, fun g => b ⟨by omega, g.2⟩⟩
      · rintro ⟨a, b⟩
        exact ⟨⟨a, fun g => b ⟨by omega, g.2⟩⟩, fun e => b (by subst e; exact ⟨by omega, z⟩)⟩
theorem x_ul {post : Int32 → SX → Prop} {ar rc pl : Nat → Nat} {pat : Nat → Nat → Nat} {c f : Nat} (hc : c ≤ 6) (ha : ∀ i, ar i ≤ 2) (hf : f < 4) (hrc : rc f ≤ 5)
    (hP : ∀ i, i < rc f → fx_pat ar c xP xPe (pat (5 * f + i)) (pl (5 * f + i)) (5 * f + i))
    (hp : ∀ ss S E F t U M, M < 32 → (∀ w, w < 5 → (M.testBit w = true ↔ w < rc f ∧ ∀ s, 1 ≤ s → s ≤ 5 → fd_ct ar (fm_row ar pat pl rc f) c s (w + 1) = 0)) →
      post (nI M) (nI c, xdr, xas, ss, xnc, xdp, xoc, xrs, xrt, xrf, xrz, fo_n ar, xD, xDe, xUw, fo_n rc, xP, xPe, fo_n pl, xO, xOl, xAr, S, E, xSn, F, xNc, xNf, xNs, xNz, xCr, xCn, xCv, xOp, xRl, t, U)) :
    wpX_useless post (nI c, xdr, xas, xss, xnc, xdp, xoc, xrs, xrt, xrf, xrz, fo_n ar, xD, xDe, xUw, fo_n rc, xP, xPe, fo_n pl, xO, xOl, xAr, xS, xSe, xSn, xF, xNc, xNf, xNs, xNz, xCr, xCn, xCv, xOp, xRl, xTa, xUt) (nI f) := by
  have loop : ∀ d s ss S E F t U M, s + d = 6 → 1 ≤ s → M < 32 → (∀ w, w < 5 → (M.testBit w = true ↔ w < rc f ∧ ∀ s', 1 ≤ s' → s' < s → fd_ct ar (fm_row ar pat pl rc f) c s' (w + 1) = 0)) →
      wX_useless_22 post (nI f) (d + 1) (nI M) (nI s) (nI c) xdr xas ss xnc xdp xoc xrs xrt xrf xrz (fo_n ar) xD xDe xUw (fo_n rc) xP xPe (fo_n pl) xO xOl xAr S E xSn F xNc xNf xNs xNz xCr xCn xCv xOp xRl t U := by
    intro d
    induction d with
    | zero =>
      intro s ss S E F t U M hs h1 hM h
      refine br_t (nI_lt (a := 5) (by omega) (by omega)) (hp ss S E F t U M hM (fun w hw => ?_))
      rw [h w hw]
      exact and_congr_right (fun _ => ⟨fun g s' a b => g s' a (by omega), fun g s' a b => g s' a (by omega)⟩)
    | succ d ih =>
      intro s ss S E F t U M hs h1 hM h
      refine br_f (nI_nlt (a := 5) (by omega) (by decide)) (x_sv (pat := pat) hc ha hf hrc h1 (by omega) hP (fun S' E' F' t' U' a1 a2 => ⟨rc f + 1, ?_⟩))
      refine x_ul36 (ct := fun r => fd_ct ar (fm_row ar pat pl rc f) c s r) (M0 := M) hf hrc (by omega) a1 (fun r => fd_ct_le hc (by omega)) (fun M' hM' h' => ih (s + 1) _ _ _ _ _ _ M' (by omega) (by omega) hM' (fun w hw => ?_)) (rc f) 0 M (by omega) hM (fun w hw => ⟨fun g => ⟨g, fun g2 => by omega⟩, fun g => g.1⟩)
      rw [h' w hw, h w hw]
      constructor
      · rintro ⟨⟨a, b⟩, e⟩
        refine ⟨a, fun s' c1 c2 => ?_⟩
        by_cases q : s' = s
        · subst q
          exact Nat.eq_zero_of_not_pos (fun g => e ⟨a, g⟩)
        · exact b s' c1 (by omega)
      · rintro ⟨a, b⟩
        refine ⟨⟨a, fun s' c1 c2 => b s' c1 (by omega)⟩, fun g => ?_⟩
        have := b s h1 (by omega)
        have g2 : 0 < fd_ct ar (fm_row ar pat pl rc f) c s (w + 1) := g.2
        omega
  unfold wpX_useless
  refine x_isF1 hf (br_f fo_z1 ⟨vp_in_nI hf (by decide), nm_r (e' := nI (2 ^ rc f - 1)) ?_ ⟨6, loop 5 1 xss xS xSe xF xTa xUt _ rfl (Nat.le_refl _) (fu_0 _ hrc).2 (fun w hw => ?_)⟩⟩)
  · rw [nI_clamp (by omega)]
    exact (fu_0 _ hrc).1
  · rw [fu_0b _ hrc w hw]
    exact ⟨fun g => ⟨g, fun s' a b => by omega⟩, fun g => g.1⟩
end
section
variable {ycc ydr ynd yln yal ygl yst ybl yhw yrn ywk : Int32} {yA yDk yDw yK yW yPl yRl yRc yHd yLf yRg ySz yLi ySk ySt yAr yGv yF yEn yPc yBd yWk yWw yOw yCt yOz yOp yKn : Nat → Int32}
theorem y_ul {post : Int32 → SY → Prop} {ar rc : Nat → Nat} {rw' : (Nat → Nat) → Nat → Nat} {c f : Nat} (hc : c ≤ 6) (hf : f < 4) (hrc : rc f ≤ 5)
    (hC : ∀ s r, 1 ≤ s → s ≤ 5 → r ≤ 5 → yCt (30 * f + 5 * r + (s - 1)) = nI (fd_ct ar rw' c s r))
    (hp : ∀ M, M < 32 → (∀ w, w < 5 → (M.testBit w = true ↔ w < rc f ∧ ∀ s, 1 ≤ s → s ≤ 5 → fd_ct ar rw' c s (w + 1) = 0)) → post (nI M) (ycc, ydr, ynd, yln, yal, ygl, yst, ybl, yhw, yrn, ywk, yA, yDk, yDw, yK, yW, yPl, yRl, fo_n rc, yHd, yLf, yRg, ySz, yLi, ySk, ySt, yAr, yGv, yF, yEn, yPc, yBd, yWk, yWw, yOw, yCt, yOz, yOp, yKn)) :
    ∀ d i M, i + d = rc f → M < 32 → (∀ w, w < 5 → (M.testBit w = true ↔ w < i ∧ ∀ s, 1 ≤ s → s ≤ 5 → fd_ct ar rw' c s (w + 1) = 0)) →
      wY_useless_20 post (nI f) ycc ydr ynd yln yal ygl yst ybl yhw yrn ywk yA yDk yDw yK yW yPl yRl (fo_n rc) yHd yLf yRg ySz yLi ySk ySt yAr yGv yF yEn yPc yBd yWk yWw yOw yCt yOz yOp yKn (d + 1) (nI M) (nI i) := by
  intro d
  induction d with
  | zero =>
    intro i M hi hM h
    have e : i = rc f := by omega
    refine ⟨vp_in_nI hf (by decide), br_t ?_ (hp M hM (by rw [← e]; exact h))⟩
    rw [nI_clamp (by omega)]
    exact nI_le (a := rc f) (by omega) (by omega)
  | succ d ih =>
    intro i M hi hM h
    have sum : ∀ d' t n, t + d' = 5 → n ≤ 7776 * t → (n = 0 ↔ ∀ s, 1 ≤ s → s ≤ t → fd_ct ar rw' c s (i + 1) = 0) →
        wY_useless_36 post (wY_useless_20 post (nI f) ycc ydr ynd yln yal ygl yst ybl yhw yrn ywk yA yDk yDw yK yW yPl yRl (fo_n rc) yHd yLf yRg ySz yLi ySk ySt yAr yGv yF yEn yPc yBd yWk yWw yOw yCt yOz yOp yKn (d + 1)) (nI f) (nI M) (nI i) ycc ydr ynd yln yal ygl yst ybl yhw yrn ywk yA yDk yDw yK yW yPl yRl (fo_n rc) yHd yLf yRg ySz yLi ySk ySt yAr yGv yF yEn yPc yBd yWk yWw yOw yCt yOz yOp yKn (d' + 1) (nI n) (nI t) := by
      intro d'
      induction d' with
      | zero =>
        intro t n ht hn hz
        have e5 : t = 5 := by omega
        subst e5
        refine br_t (nI_le (a := 5) (by omega) (by omega)) (pk_eq n 0 (fun z => nm_r (fu_y M hM i (by omega)).1 (nm_r (nI_1 i) (ih (i + 1) _ (by omega) (fu_y M hM i (by omega)).2 (fun w hw => ?_)))) (fun z => nm_r (nI_1 i) (ih (i + 1) M (by omega) hM (fun w hw => ?_))))
        · rw [fu_yb M hM i (by omega) w hw, h w hw]
          constructor
          · rintro (⟨a, b⟩ | e)
            · exact ⟨by omega, b⟩
            · subst e; exact ⟨by omega, hz.mp z⟩
          · rintro ⟨a, b⟩
            by_cases q : w = i
            · exact Or.inr q
            · exact Or.inl ⟨by omega, b⟩
        · rw [h w hw]
          constructor
          · rintro ⟨a, b⟩
            exact ⟨by omega, b⟩
          · rintro ⟨a, b⟩
            refine ⟨?_, b⟩
            have : w ≠ i := fun q => by subst q; exact z (hz.mpr b)
            omega
      | succ d' ih' =>
        intro t n ht hn hz
        have e : (30 * nI f + 5 * (nI i + 1)) + nI t = nI (30 * f + 5 * (i + 1) + t) := by rw [nI_1, fo_30m, fo_5m, nI_add, nI_add]
        have hc1 := hC (t + 1) (i + 1) (by omega) (by omega) (by omega)
        rw [Nat.add_sub_cancel] at hc1
        have hle := fd_ct_le (ar := ar) (rw' := rw') (r := i + 1) hc (show t + 1 ≤ 5 by omega)
        refine br_f (nI_ge (b := 5) (by omega) (by decide)) ?_
        rw [e]
        refine ⟨vp_in_nI (by omega) (by decide), nm_r (e' := nI (n + fd_ct ar rw' c (t + 1) (i + 1))) ?_ (nm_r (nI_1 t) (ih' (t + 1) _ (by omega) (by omega) ?_))⟩
        · rw [nI_clamp (by omega), hc1, nI_add]
        · constructor
          · intro z s a b
            by_cases q : s = t + 1
            · subst q; omega
            · exact hz.mp (by omega) s a (by omega)
          · intro z
            have := hz.mpr (fun s a b => z s a (by omega))
            have := z (t + 1) (by omega) (by omega)
            omega
    refine ⟨vp_in_nI hf (by decide), br_f ?_ ⟨6, sum 5 0 0 rfl (by omega) ⟨fun _ s a b => by omega, fun _ => rfl⟩⟩⟩
    rw [nI_clamp (by omega)]
    exact nI_ge (b := rc f) (by omega) (by omega)
end
theorem i_vc_useless {k : Nat} {u : SX} {v : SY} (I : i_Rel k u v) (hk : k + 4 ≤ 2048) (v1 : Int32) : wpX_useless (fun r u' => wpY_useless (fun r' v' => r' = r ∧ i_Rel (k + 4) u' v') v v1) u v1 := by
  refine i_el (P := fun u v => wpX_useless (fun r u' => wpY_useless (fun r' v' => r' = r ∧ i_Rel (k + 4) u' v') v v1) u v1) I ?_
  intro c n m g ar rc pl T pat pre pos arg giv xss xnc xdp xoc xrs xrt xrf ynd yln yhw yrn ywk xD xDe xUw xP xPe xO xOl xAr xS xSe xSn xF xNc xNf xNs xNz xCr xCn xCv xOp xRl xTa xUt yDk yDw yK yW yHd yLf yRg ySz yLi ySk ySt yF yEn yPc yBd yWk yWw yOw yCt yOz yOp yKn G
  rcases fo_f4 v1 with h | ⟨f, hf, rfl⟩
  · unfold wpX_useless
    refine x_isF0 h (br_t rfl ?_)
    unfold wpY_useless
    exact y_in0 h (br_t rfl ⟨rfl, i_mk G⟩)
  obtain ⟨g1, g2, g3, g4, g5, g6, g7, g8, g9⟩ := id G
  refine x_ul (pat := pat) g1 g3 hf (g4 f) (fun i hi => fx_pat_of (g6 f i hf hi)) (fun ss S E F t U M hM hB => ?_)
  unfold wpY_useless
  refine y_in1 hf (br_f fo_z1 (y_kn (pat := pat) g1 g3 hf (g4 f) (fun i hi => fy_pat_of (g6 f i hf hi)) g9 (fun ln L D F' C Z O N b1 b2 => ⟨rc f + 1, ?_⟩)))
  rcases b1 f hf with w | ⟨w1, w2, w3⟩
  · rw [b2] at w; exact absurd w (by decide)
  · refine y_ul (ar := ar) (rw' := fm_row ar pat pl rc f) g1 hf (g4 f) w2 (fun M' hM' hB' => ⟨?_, i_mk (c := c) (n := n) (m := m) (g := g) (ar := ar) (rc := rc) (pl := pl) (T := T) (pat := pat) (pre := pre) (pos := pos) (arg := arg) (giv := giv) ⟨g1, g2, g3, g4, g5, g6, g7, g8, b1⟩⟩) (rc f) 0 0 (by omega) (by decide) (fun w hw => ⟨fun q => by simp at q, fun q => by omega⟩)
    exact congrArg nI (fu_eq M' hM' M hM (fun w hw => by rw [hB' w hw, hB w hw]))
end
section
theorem fv_drop {l : List Nat} {i : Nat} (h : i < l.length) : l.drop i = fv_g l i :: l.drop (i + 1) := by
  rw [List.drop_eq_getElem_cons h]
  unfold fv_g
  rw [List.getD_eq_getElem?_getD, List.getElem?_eq_getElem h]
  rfl
/-- nodes that wait at their own places of an array -/
def fx_PO (dn : Nat → List Nat) (sn : Nat → Int32) : List Nat → Nat → Prop
  | [], _ => True
  | n :: ns, p => sn p = nI n ∧ fx_PO dn sn ns (p + (dn n).length)
theorem fx_PO_c {dn : Nat → List Nat} {sn sn' : Nat → Int32} : ∀ ns p, (∀ q, p ≤ q → sn' q = sn q) → fx_PO dn sn ns p → fx_PO dn sn' ns p := by
  intro ns
  induction ns with
  | nil => intro p _ _; trivial
  | cons n ns ih =>
    intro p h hp
    exact ⟨by rw [h p (Nat.le_refl _)]; exact hp.1, ih _ (fun q hq => h q (by omega)) hp.2⟩
/-- a seated value: at each place its node -/
def fx_SN (ar : Nat → Nat) (N : Nat) (dn : Nat → List Nat) (L : List Nat) (m : Nat) (SN : Nat → Int32) : Prop :=
  ∀ i, i < m → ∃ q, SN i = nI q ∧ q < N ∧ dn q = fv_sub ar (fv_g L) L.length i
section
variable {xcc xdr xas xss xnc xdp xoc xrs xrt xrf xrz : Int32} {xA xD xDe xUw xRc xP xPe xPl xO xOl xAr xS xSe xSn xF xNc xNf xNs xNz xCr xCn xCv xOp xRl xTa xUt : Nat → Int32}
theorem x_sn93 {post : SX → Prop} {J : Int32 → (Nat → Int32) → (Nat → Int32) → (Nat → Int32) → (Nat → Int32) → (Nat → Int32) → (Nat → Int32) → (Nat → Int32) → (Nat → Int32) → (Nat → Int32) → (Nat → Int32) → (Nat → Int32) → (Nat → Int32) → (Nat → Int32) → (Nat → Int32) → (Nat → Int32) → (Nat → Int32) → (Nat → Int32) → (Nat → Int32) → (Nat → Int32) → (Nat → Int32) → (Nat → Int32) → (Nat → Int32) → (Nat → Int32) → (Nat → Int32) → (Nat → Int32) → (Nat → Int32) → Prop} {p n a : Nat} (ha : a < 2) (h : J (nI (p + 1)) xA xD xDe xUw xRc xP xPe xPl xO xOl xAr xS xSe xSn xF xNc xNf xNs xNz xCr xCn xCv xOp xRl xTa xUt) : wX_seatNode_93 post J (nI p) (nI n) (nI a) xcc xdr xas xss xnc xdp xoc xrs xrt xrf xrz xA xD xDe xUw xRc xP xPe xPl xO xOl xAr xS xSe xSn xF xNc xNf xNs xNz xCr xCn xCv xOp xRl xTa xUt :=
  br_f (fun z => by have := (nI_eq (b := 2) (by omega) (by decide)).mp z; omega) (nm_r (nI_1 p) h)
theorem x_sn_loop {post : SX → Prop} {ar : Nat → Nat} {c N : Nat} {dn : Nat → List Nat} (hc : c ≤ 6) (ha : ∀ i, ar i ≤ 2) (H : fx_H ar c N xNc xNf xNs xNz dn) (hN : N ≤ 1240) {L : List Nat} (hL : L.length ≤ 40)
    (hp : ∀ S E SN, (∀ i, i < L.length → fv_g L i < c ∧ S i = nI (fv_g L i) ∧ E i = nI (fe_pe (fm_v ar (fv_g L)) L.length i)) → fx_SN ar N dn L L.length SN → post (xcc, xdr, xas, nI L.length, xnc, xdp, xoc, xrs, xrt, xrf, xrz, fo_n ar, xD, xDe, xUw, xRc, xP, xPe, xPl, xO, xOl, xAr, S, E, SN, xF, xNc, xNf, xNs, xNz, xCr, xCn, xCv, xOp, xRl, xTa, xUt)) :
    ∀ d p ns S E SN, p + d = L.length → (∀ q, q ∈ ns → q < N) → L.drop p = fv_cc dn ns → fx_PO dn SN ns p →
      (∀ i, i < p → fv_g L i < c ∧ S i = nI (fv_g L i) ∧ E i = nI (fe_pe (fm_v ar (fv_g L)) L.length i)) → fx_SN ar N dn L p SN →
      wX_seatNode_19 post xcc xdr xas (nI L.length) xnc xdp xoc xrs xrt xrf xrz (d + 1) (nI p) (fo_n ar) xD xDe xUw xRc xP xPe xPl xO xOl xAr S E SN xF xNc xNf xNs xNz xCr xCn xCv xOp xRl xTa xUt := by
  have HH := fx_HH H
  intro d
  induction d with
  | zero =>
    intro p ns S E SN hpd hns hd hpo h1 h2
    have e : p = L.length := by omega
    subst e
    exact br_t (nI_le (Nat.le_refl _) (by omega)) (hp S E SN h1 h2)
  | succ d ih =>
    intro p ns S E SN hpd hns hd hpo h1 h2
    cases ns with
    | nil =>
      have := congrArg List.length hd
      rw [List.length_drop] at this
      have e0 : (fv_cc dn []).length = 0 := rfl
      omega
    | cons n ns =>
      have hn : n < N := hns n (List.mem_cons_self ..)
      have hns' : ∀ q, q ∈ ns → q < N := fun q hq => hns q (List.mem_cons_of_mem _ hq)
      obtain ⟨h, l, r, a1, a2, a3, a4, a5⟩ := H n hn
      obtain ⟨q1, q2, q3⟩ := fv_at HH (W := L) (p := p) (tl := fv_cc dn ns) hn hd
      obtain ⟨b1, b2, b3⟩ := a5
      have har := ha h
      have hpos := (fv_Hpos HH hn).1
      have hi40 : vp_in (nI p) 40 := vp_in_nI (by omega) (by decide)
      have hinn : vp_in (nI n) 1240 := vp_in_nI (by omega) (by decide)
      have hg : fv_g L p = h := by
        rcases b3 with ⟨_, e⟩ | ⟨_, _, e⟩ | ⟨_, _, _, e⟩
        · rw [show fv_cc dn (n :: ns) = dn n ++ fv_cc dn ns from rfl, e] at hd; exact (fv_head hd).1
        · rw [show fv_cc dn (n :: ns) = dn n ++ fv_cc dn ns from rfl, e] at hd; exact (fv_head hd).1
        · rw [show fv_cc dn (n :: ns) = dn n ++ fv_cc dn ns from rfl, e] at hd; exact (fv_head hd).1
      have hS' : ∀ i, i < p + 1 → fv_g L i < c ∧ upd S p (nI h) i = nI (fv_g L i) ∧ upd E p (nI (p + (dn n).length)) i = nI (fe_pe (fm_v ar (fv_g L)) L.length i) := by
        intro i hi
        by_cases e : i = p
        · subst e; rw [pk_us, pk_us, hg, q1]; exact ⟨b1, rfl, rfl⟩
        · rw [pk_un e, pk_un e]; exact h1 i (by omega)
      have hSN' : ∀ SN', (∀ i, i ≤ p → SN' i = SN i) → fx_SN ar N dn L (p + 1) SN' := by
        intro SN' hh i hi
        rw [hh i (by omega)]
        by_cases e : i = p
        · subst e; exact ⟨n, hpo.1, hn, q2.symm⟩
        · exact h2 i (by omega)
      refine br_f (nI_ge (by omega) (by omega)) ⟨hi40, nm_r (e' := nI n) (by rw [nI_clamp (by omega)]; exact hpo.1) ⟨hinn, ?_⟩⟩
      have en : (nI n).toNatClampNeg = n := nI_clamp (by omega)
      have ep : (nI p).toNatClampNeg = p := nI_clamp (by omega)
      rw [en, a1]
      refine ⟨vp_in_nI (by omega) (by decide), nm_r (e' := nI (ar h)) (by rw [nI_clamp (by omega)]; rfl) ⟨hinn, hi40, nm_r (e' := upd S p (nI h)) (by rw [ep]) ⟨hinn, hi40, nm_r (e' := upd E p (nI (p + (dn n).length))) (by rw [ep, a2, nI_add]) ?_⟩⟩⟩
      rcases b3 with ⟨e0, e⟩ | ⟨e0, hl, e⟩ | ⟨e0, hl, hr, e⟩
      · rw [e0]
        refine br_t (by decide) (x_sn93 (a := 0) (by omega) (ih (p + 1) ns _ _ SN (by omega) hns' ?_ ?_ hS' (hSN' SN (fun _ _ => rfl))))
        · rw [show fv_cc dn (n :: ns) = dn n ++ fv_cc dn ns from rfl, e] at hd
          exact (fv_head hd).2.1
        · have := hpo.2; rw [e] at this; exact this
      · rw [e0]
        have hlen : (dn n).length = (dn l).length + 1 := by rw [e]; rfl
        have hpl := (fv_Hpos HH hl).1
        refine br_f (by decide) ⟨hinn, by rw [nI_1]; exact vp_in_nI (by omega) (by decide), nm_r (e' := upd SN (p + 1) (nI l)) ?_ (x_sn93 (a := 1) (by omega) (ih (p + 1) (l :: ns) _ _ _ (by omega) ?_ ?_ ?_ hS' (hSN' _ (fun i hi => pk_un (by omega)))))⟩
        · rw [nI_1, nI_clamp (by omega), a3 (by omega)]
        · intro q hq
          rcases List.mem_cons.mp hq with g | g
          · omega
          · exact hns' q g
        · rw [show fv_cc dn (n :: ns) = dn n ++ fv_cc dn ns from rfl, e] at hd
          exact (fv_head hd).2.1
        · refine ⟨pk_us, fx_PO_c ns _ (fun q hq => pk_un (by omega)) ?_⟩
          have := hpo.2; rw [show p + (dn n).length = p + 1 + (dn l).length by omega] at this; exact this
      · rw [e0]
        have hlen : (dn n).length = (dn l).length + (dn r).length + 1 := by rw [e, List.length_cons, List.length_append]
        have hpl := (fv_Hpos HH hl).1
        have hpr := (fv_Hpos HH hr).1
        obtain ⟨_, _, _, _, l2, _⟩ := H l hl
        have ef : xNf n = nI l := a3 (by omega)
        have es : xNs n = nI r := a4 e0
        refine br_f (by decide) ⟨hinn, by rw [nI_1]; exact vp_in_nI (by omega) (by decide), nm_r (e' := upd SN (p + 1) (nI l)) ?_ (br_t rfl ⟨hinn, ?_⟩)⟩
        · rw [nI_1, nI_clamp (by omega), ef]
        · rw [en, ef]
          refine ⟨vp_in_nI (by omega) (by decide), hinn, ?_⟩
          rw [nI_clamp (by omega), l2, nI_1, nI_add, es]
          refine ⟨vp_in_nI (by omega) (by decide), nm_r (e' := upd (upd SN (p + 1) (nI l)) (p + 1 + (dn l).length) (nI r)) (by rw [nI_clamp (by omega)]) (nm_e (ih (p + 1) (l :: r :: ns) _ _ _ (by omega) ?_ ?_ ?_ hS' (hSN' _ (fun i hi => by rw [pk_un (by omega), pk_un (by omega)]))))⟩
          · intro q hq
            rcases List.mem_cons.mp hq with g | g
            · omega
            · rcases List.mem_cons.mp g with g | g
              · omega
              · exact hns' q g
          · rw [show fv_cc dn (n :: ns) = dn n ++ fv_cc dn ns from rfl, e, show (h :: (dn l ++ dn r)) ++ fv_cc dn ns = h :: ((dn l ++ dn r) ++ fv_cc dn ns) from rfl] at hd
            rw [(fv_head hd).2.1, List.append_assoc]
            rfl
          · refine ⟨by rw [pk_un (by omega), pk_us], by rw [pk_us], fx_PO_c ns _ (fun q hq => by rw [pk_un (by omega), pk_un (by omega)]) ?_⟩
            have := hpo.2; rw [show p + (dn n).length = p + 1 + (dn l).length + (dn r).length by omega] at this; exact this
/-- a node is seated -/
theorem x_sn {post : SX → Prop} {ar : Nat → Nat} {c N root : Nat} {dn : Nat → List Nat} (hc : c ≤ 6) (ha : ∀ i, ar i ≤ 2) (H : fx_H ar c N xNc xNf xNs xNz dn) (hN : N ≤ 1240) (hr : root < N)
    (hp : ∀ S E SN, fx_sub ar c (dn root).length (fv_g (dn root)) S E → fx_SN ar N dn (dn root) (dn root).length SN → post (xcc, xdr, xas, nI (dn root).length, xnc, xdp, xoc, xrs, xrt, xrf, xrz, fo_n ar, xD, xDe, xUw, xRc, xP, xPe, xPl, xO, xOl, xAr, S, E, SN, xF, xNc, xNf, xNs, xNz, xCr, xCn, xCv, xOp, xRl, xTa, xUt)) :
    wpX_seatNode post (xcc, xdr, xas, xss, xnc, xdp, xoc, xrs, xrt, xrf, xrz, fo_n ar, xD, xDe, xUw, xRc, xP, xPe, xPl, xO, xOl, xAr, xS, xSe, xSn, xF, xNc, xNf, xNs, xNz, xCr, xCn, xCv, xOp, xRl, xTa, xUt) (nI root) := by
  have HH := fx_HH H
  have h40 := fv_Hpos HH hr
  obtain ⟨h, l, r, a1, a2, a3, a4, a5⟩ := H root hr
  refine ⟨vp_in_nI (by omega) (by decide), nm_r (e' := nI (dn root).length) (by rw [nI_clamp (by omega), a2]) (nm_e ⟨(dn root).length + 1, ?_⟩)⟩
  refine x_sn_loop (L := dn root) hc ha H hN h40.2 (fun S E SN b1 b2 => hp S E SN ⟨h40.2, fv_full HH hr, b1⟩ b2) (dn root).length 0 [root] xS xSe _ (by omega) ?_ ?_ ⟨pk_us, trivial⟩ (fun i hi => by omega) (fun i hi => by omega)
  · intro q hq
    rcases List.mem_cons.mp hq with g | g
    · omega
    · cases g
  · show (dn root).drop 0 = dn root ++ []
    rw [List.drop_zero, List.append_nil]
end
end
section
section
variable {xcc xdr xas xss xnc xdp xoc xrs xrt xrf xrz : Int32} {xA xD xDe xUw xRc xP xPe xPl xO xOl xAr xS xSe xSn xF xNc xNf xNs xNz xCr xCn xCv xOp xRl xTa xUt : Nat → Int32}
/-- the variables are bound -/
theorem x_bv {post : SX → Prop} {ar S T pl : Nat → Nat} {c m n r d : Nat} (hc : c ≤ 6) (ha : ∀ i, ar i ≤ 2) (hr : r < 20) (hd : d < 100) (hpl : pl r = n) (hcr : xCr d = nI r)
    (hS : fx_sub ar c m S xS xSe) (hP : fx_pat ar c xP xPe T n r) (hm : fm_F ar T n S m 0 0 = true)
    (hp : ∀ CV, (∀ v q, v < 4 → fb_w T (fe_pe (fm_o ar T) n) (fe_pe (fm_v ar S) m) n 12 0 0 (fun _ => none) v = some q → CV (4 * d + v) = xSn q) → (∀ i, i < 4 * d → CV i = xCv i) → post (xcc, xdr, xas, xss, xnc, xdp, xoc, xrs, xrt, xrf, xrz, fo_n ar, xD, xDe, xUw, xRc, xP, xPe, fo_n pl, xO, xOl, xAr, xS, xSe, xSn, xF, xNc, xNf, xNs, xNz, xCr, xCn, CV, xOp, xRl, xTa, xUt)) :
    wpX_bindVariables post (xcc, xdr, xas, xss, xnc, xdp, xoc, xrs, xrt, xrf, xrz, fo_n ar, xD, xDe, xUw, xRc, xP, xPe, fo_n pl, xO, xOl, xAr, xS, xSe, xSn, xF, xNc, xNf, xNs, xNz, xCr, xCn, xCv, xOp, xRl, xTa, xUt) (nI d) := by
  obtain ⟨s1, s2, s3⟩ := hS
  obtain ⟨p1, p2, p3⟩ := hP
  have loop : ∀ g t i p k b CV, t + g = 12 → fb_CH (fm_F ar T n S m) (fe_pe (fm_o ar T) n) (fe_pe (fm_v ar S) m) n m k i p →
      fb_w T (fe_pe (fm_o ar T) n) (fe_pe (fm_v ar S) m) n g i p b = fb_w T (fe_pe (fm_o ar T) n) (fe_pe (fm_v ar S) m) n 12 0 0 (fun _ => none) → i ≤ 12 → p ≤ 40 →
      (∀ v q, v < 4 → b v = some q → CV (4 * d + v) = xSn q) → (∀ i, i < 4 * d → CV i = xCv i) →
      wX_bindVariables_21 post (nI d) (nI r) (nI (12 * r)) xcc xdr xas xss xnc xdp xoc xrs xrt xrf xrz (g + 1) (nI p) (nI i) (nI t) (fo_n ar) xD xDe xUw xRc xP xPe (fo_n pl) xO xOl xAr xS xSe xSn xF xNc xNf xNs xNz xCr xCn CV xOp xRl xTa xUt := by
    intro g
    induction g with
    | zero =>
      intro t i p k b CV ht hch hw _ _ hb hl
      refine br_t (nI_le (a := 12) (by omega) (by omega)) (hp CV (fun v q hv hq => ?_) hl)
      rw [← hw] at hq
      exact hb v q hv hq
    | succ g ih =>
      intro t i p k b CV ht hch hw hi12 hp40 hb hl
      refine br_f (nI_ge (b := 12) (by omega) (by decide)) ⟨vp_in_nI hr (by decide), ?_⟩
      rw [nI_clamp (by omega)]
      show (nI (pl r) ≤ nI i → _) ∧ (¬ nI (pl r) ≤ nI i → _)
      rw [hpl]
      refine pk_le n i (fun z => hp CV (fun v q hv hq => ?_) hl) (fun z => ?_)
      · rw [← hw, fb_w_out (by omega)] at hq
        exact hb v q hv hq
      · cases k with
        | zero => have : i = n := hch
                  omega
        | succ k =>
          obtain ⟨c1, c2, c3, c4⟩ := id hch
          obtain ⟨t1, t2, t3, t4⟩ := p3 i z
          have h48 := fo_tk_le t1
          have ei := fe_full_e p2 z
          have epv := fe_full_e s2 c2
          have ein : nI (12 * r) + nI i = nI (12 * r + i) := nI_add _ _
          have vin : vp_in (nI (12 * r) + nI i) 240 := by rw [ein]; exact vp_in_nI (by omega) (by decide)
          have epe : xPe (nI (12 * r) + nI i).toNatClampNeg = nI (fe_pe (fm_o ar T) n i) := by rw [ein, nI_clamp (by omega), t4]
          have ese : xSe (nI p).toNatClampNeg = nI (fe_pe (fm_v ar S) m p) := by rw [nI_clamp (by omega), (s3 p c2).2.2]
          refine ⟨vin, nm_r (e' := nI (T i)) (by rw [ein, nI_clamp (by omega), t3]) ⟨by decide, nm_r (fo_d8 (by omega)) ?_⟩⟩
          have other : ∀ CV', T i / 8 ≠ 2 → (∀ b', fb_w T (fe_pe (fm_o ar T) n) (fe_pe (fm_v ar S) m) n g (fe_pe (fm_o ar T) n i) (fe_pe (fm_v ar S) m p) b' = fb_w T (fe_pe (fm_o ar T) n) (fe_pe (fm_v ar S) m) n 12 0 0 (fun _ => none) →
              (∀ v q, v < 4 → b' v = some q → CV' (4 * d + v) = xSn q) → (∀ i, i < 4 * d → CV' i = xCv i) →
              wX_bindVariables_84 post (wX_bindVariables_21 post (nI d) (nI r) (nI (12 * r)) xcc xdr xas xss xnc xdp xoc xrs xrt xrf xrz (g + 1)) (nI d) (nI r) (nI (12 * r)) (nI p) (nI i) (nI t) (nI (T i / 8)) xcc xdr xas xss xnc xdp xoc xrs xrt xrf xrz (fo_n ar) xD xDe xUw xRc xP xPe (fo_n pl) xO xOl xAr xS xSe xSn xF xNc xNf xNs xNz xCr xCn CV' xOp xRl xTa xUt) := by
            intro CV' k2 b' h1 h2 h3
            have n2 : ¬ nI (T i / 8) = 2 := fun w => k2 ((nI_eq (b := 2) (by omega) (by decide)).mp w)
            refine br_f n2 ⟨vp_in_nI (by omega) (by decide), ?_⟩
            rw [ese]
            refine br_f n2 ⟨vin, ?_⟩
            rw [epe]
            exact nm_e (nm_r (nI_1 t) (ih (t + 1) _ _ k b' CV' (by omega) c4 h1 (by omega) (by omega) h2 h3))
          refine pk_eq (T i / 8) 1 (fun k1 => ⟨by decide, vp_in_nI (by omega) (by decide), ?_⟩) (fun k1 => ?_)
          · have v4 := fp_v4 t1 k1
            have ex : nI d * 4 + (nI (T i) - nI (T i) / 8 * 8) = nI (4 * d + T i % 8) := by rw [fo_r8 (by omega), fo_m4, nI_add, Nat.mul_comm]
            rw [ex]
            refine ⟨vp_in_nI (by omega) (by decide), nm_r (e' := upd CV (4 * d + T i % 8) (xSn p)) (by rw [nI_clamp (by omega), nI_clamp (by omega)]) (other _ (by omega) (fun v => if v = T i % 8 then some p else b v) ?_ ?_ ?_)⟩
            · rw [← hw, fb_w_var z k1]
            · intro v q hv hq
              by_cases e : v = T i % 8
              · rw [if_pos e] at hq
                have : p = q := Option.some.inj hq
                rw [e, pk_us, this]
              · rw [if_neg e] at hq
                rw [pk_un (by omega)]
                exact hb v q hv hq
            · intro j hj
              rw [pk_un (by omega)]; exact hl j hj
          · by_cases k2 : T i / 8 = 2
            · obtain ⟨q1, q2, q3, q4⟩ := fb_con p2 s2 ha hch k2
              have e2 : nI (T i / 8) = 2 := congrArg nI k2
              refine br_t e2 ?_
              rw [nI_1 p]
              exact br_t e2 (nm_r (nI_1 i) (nm_r (nI_1 t) (ih (t + 1) (i + 1) (p + 1) _ b CV (by omega) q2 (by rw [← hw, fb_w_con z k2]) (by omega) (by omega) hb hl)))
            · exact other CV k2 b (by rw [← hw, fb_w_oth z k2 k1]) hb hl
  refine ⟨vp_in_nI hd (by decide), nm_r (e' := nI r) (by rw [nI_clamp (by omega), hcr]) (nm_r ((fo_m12 r).trans (congrArg nI (Nat.mul_comm r 12))) ⟨13, loop 12 0 0 0 1 (fun _ => none) xCv rfl ⟨p2.1, s2.1, hm, ?_⟩ rfl (by omega) (by omega) (fun v q _ h => by cases h) (fun i _ => rfl)⟩)⟩
  exact p2.2.2
end
end
section
/-- every row is as it must be -/
def fx_rows (ar : Nat → Nat) (c : Nat) (rc pl : Nat → Nat) (pat : Nat → Nat → Nat) (pre pos : Nat → List Nat) (xp xe xo xl yk yw : Nat → Int32) : Prop :=
  ∀ f i, f < 4 → i < rc f → fR_row ar c xp xe xo xl yk yw (pat (5 * f + i)) (pl (5 * f + i)) (pre (5 * f + i)) (pos (5 * f + i)) (5 * f + i)
theorem fx_rowv {ar : Nat → Nat} {c : Nat} {xp xe xo xl yk yw : Nat → Int32} {T : Nat → Nat} {n : Nat} {pre pos : List Nat} {r : Nat}
    (h : fR_row ar c xp xe xo xl yk yw T n pre pos r) : ∀ x, x ∈ pos → (x / 8 = 1 ∧ x % 8 < 4 ∧ ∃ j, j < n ∧ T j = x) ∨ (x / 8 = 2 ∧ x % 8 < c) ∨ (x / 8 = 5 ∧ x % 8 < 4) := by
  intro x hx
  obtain ⟨k, y, e, _, g⟩ := (ff_mem h.2.2.2.2.1).2 x hx
  rw [← e]; exact g
/-- the variables of a new call -/
def fx_ncv (d : Nat) (cv : Nat → Nat) (SN : Nat → Int32) (bd : Nat → Option Nat) : Nat → Nat := fun i => if i < 4 * d then cv i else (SN ((bd (i - 4 * d)).getD 0)).toNatClampNeg
theorem fx_ncv_lo {d : Nat} {cv : Nat → Nat} {SN : Nat → Int32} {bd : Nat → Option Nat} {i : Nat} (h : i < 4 * d) : fx_ncv d cv SN bd i = cv i := if_pos h
theorem fx_ncv_hi {d : Nat} {cv : Nat → Nat} {SN : Nat → Int32} {bd : Nat → Option Nat} {v q : Nat} (h : bd v = some q) : fx_ncv d cv SN bd (4 * d + v) = (SN q).toNatClampNeg := by
  unfold fx_ncv
  rw [if_neg (by omega), show 4 * d + v - 4 * d = v by omega, h]
  rfl
section
variable {xcc xdr xas xss xnc xdp xoc xrs xrt xrf xrz : Int32} {xA xD xDe xUw xRc xP xPe xPl xO xOl xAr xS xSe xSn xF xNc xNf xNs xNz xCr xCn xCv xOp xRl xTa xUt : Nat → Int32}
variable {yk yw : Nat → Int32}
/-- a function is called with the latest operand -/
theorem x_en {post : Int32 → SX → Prop} {ar rc pl : Nat → Nat} {pat : Nat → Nat → Nat} {pre pos : Nat → List Nat} {c f N d oc s : Nat} {dn : Nat → List Nat} {cr cn cv oo : Nat → Nat}
    (hc : c ≤ 6) (ha : ∀ i, ar i ≤ 2) (hf : f < 4) (hrc : ∀ f, rc f ≤ 5) (hR : fx_rows ar c rc pl pat pre pos xP xPe xO xOl yk yw)
    (H : fx_H ar c N xNc xNf xNs xNz dn) (F : fx_FR pos rc N d cr cn cv xCr xCn xCv) (O : ∀ k, k < oc → oo k < N ∧ xOp k = nI (oo k))
    (ho : 1 ≤ oc) (hoc : oc ≤ 1201) (hs : s ≤ 100) (hd : d ≤ s) (hN : N ≤ 1240)
    (hL : s = 100 → post 2 (xcc, xdr, xas, xss, xnc, nI d, nI oc, xrs, nI s, nI f, xrz, fo_n ar, xD, xDe, xUw, fo_n rc, xP, xPe, fo_n pl, xO, xOl, xAr, xS, xSe, xSn, xF, xNc, xNf, xNs, xNz, xCr, xCn, xCv, xOp, xRl, xTa, xUt))
    (hS : s ≠ 100 → fg_row ar pat pl rc f (dn (oo (oc - 1))) = 0 → ∀ ss S E SN Ft, post 1 (xcc, xdr, xas, ss, xnc, nI d, nI (oc - 1), xrs, nI (s + 1), nI f, xrz, fo_n ar, xD, xDe, xUw, fo_n rc, xP, xPe, fo_n pl, xO, xOl, xAr, S, E, SN, Ft, xNc, xNf, xNs, xNz, xCr, xCn, xCv, xOp, xRl, xTa, xUt))
    (hK : s ≠ 100 → fg_row ar pat pl rc f (dn (oo (oc - 1))) ≠ 0 → ∀ ss S E SN Ft CR CN CV cr' cn' cv', fx_FR pos rc N (d + 1) cr' cn' cv' CR CN CV →
      fx_frs pos dn cr' cn' cv' (d + 1) = fg_res ar pat pl rc pos f (dn (oo (oc - 1))) ++ fx_frs pos dn cr cn cv d →
      post (-1) (xcc, xdr, xas, ss, xnc, nI (d + 1), nI (oc - 1), xrs, nI (s + 1), xrf, xrz, fo_n ar, xD, xDe, xUw, fo_n rc, xP, xPe, fo_n pl, xO, xOl, xAr, S, E, SN, Ft, xNc, xNf, xNs, xNz, CR, CN, CV, xOp, xRl, xTa, xUt)) :
    wpX_enter post (xcc, xdr, xas, xss, xnc, nI d, nI oc, xrs, nI s, xrf, xrz, fo_n ar, xD, xDe, xUw, fo_n rc, xP, xPe, fo_n pl, xO, xOl, xAr, xS, xSe, xSn, xF, xNc, xNf, xNs, xNz, xCr, xCn, xCv, xOp, xRl, xTa, xUt) (nI f) := by
  refine pk_eq s 100 (fun z => hL z) (fun z => nm_r (nI_1 s) (nm_r (fo_s1 ho) ⟨vp_in_nI (by omega) (by decide), ?_⟩))
  obtain ⟨o1, o2⟩ := O (oc - 1) (by omega)
  rw [nI_clamp (by omega), o2]
  have HH := fx_HH H
  refine x_sn hc ha H hN o1 (fun S E SN fS fSN => ?_)
  generalize hLL : dn (oo (oc - 1)) = L at *
  refine x_rf (pat := pat) (S := fv_g L) hc ha hf (hrc f) fS (fun i hi => fx_pat_of (hR f i hf hi)) (fun w Ft => br_t rfl (hS z w _ S E SN Ft)) (fun w Ft => br_f ?_ ?_)
  · exact fun q => absurd (q ▸ nI_pos' (n := fm_row ar pat pl rc f (fv_g L) L.length - 1) (by have := fm_row_le ar pat pl rc f (fv_g L) L.length; have := hrc f; omega)) (by decide)
  have hwle := fm_row_le ar pat pl rc f (fv_g L) L.length
  have hrf := hrc f
  have hit := fm_row_hit w
  have hK' := hK z w
  have eres : fg_res ar pat pl rc pos f L = (pos (5 * f + (fm_row ar pat pl rc f (fv_g L) L.length - 1))).map (fg_sb ar (pat (5 * f + (fm_row ar pat pl rc f (fv_g L) L.length - 1))) (pl (5 * f + (fm_row ar pat pl rc f (fv_g L) L.length - 1))) f L) := rfl
  rw [eres] at hK'
  have hrow := hR f (fm_row ar pat pl rc f (fv_g L) L.length - 1) hf (by omega)
  have hrl : fm_row ar pat pl rc f (fv_g L) L.length - 1 < rc f := by omega
  generalize hw : fm_row ar pat pl rc f (fv_g L) L.length - 1 = w' at *
  have e1 : nI f * 5 + nI w' = nI (5 * f + w') := by rw [fo_m5, nI_add, Nat.mul_comm]
  rw [e1]
  refine ⟨vp_in_nI (by omega) (by decide), nm_r (e' := upd xCr d (nI (5 * f + w'))) (by rw [nI_clamp (by omega)]) ⟨vp_in_nI (by omega) (by decide), nm_r (e' := upd xCn d 0) (by rw [nI_clamp (by omega)]) ?_⟩⟩
  refine x_bv (T := pat (5 * f + w')) (S := fv_g L) (n := pl (5 * f + w')) hc ha (by omega) (by omega) rfl pk_us fS (fx_pat_of hrow) hit (fun CV b1 b2 => nm_r (nI_1 d) ?_)
  have hm40 := fS.1
  have chain : fb_CH (fm_F ar (pat (5 * f + w')) (pl (5 * f + w')) (fv_g L) L.length) (fe_pe (fm_o ar (pat (5 * f + w'))) (pl (5 * f + w'))) (fe_pe (fm_v ar (fv_g L)) L.length) (pl (5 * f + w')) L.length 1 0 0 :=
    ⟨hrow.2.1.1, fS.2.1.1, hit, hrow.2.1.2.2⟩
  -- what a variable of the result stands for
  have var : ∀ x, x ∈ pos (5 * f + w') → x / 8 = 1 → x % 8 < 4 ∧ ∃ q, fg_bd ar (pat (5 * f + w')) (pl (5 * f + w')) L (x % 8) = some q ∧ q < L.length := by
    intro x hx h1
    rcases fx_rowv hrow x hx with ⟨_, v4, j, hj, e⟩ | g | g
    · obtain ⟨q, hq⟩ := fb_w_all hrow.2.1 (fe_pe (fm_v ar (fv_g L)) L.length) hrow.2.2.2.1 (fun i hi => (hrow.2.2.1 i hi).2.1) 12 0 0 (fun _ => none) j (by have := hrow.1; omega) (Nat.zero_le _) hj (by rw [e]; exact h1)
      rw [e] at hq
      exact ⟨v4, q, hq, fb_w_lt hrow.2.1 fS.2.1 ha 12 1 0 0 (fun _ => none) chain (fun v q h => by cases h) _ _ hq⟩
    · omega
    · omega
  refine hK' _ S E SN Ft _ _ CV (fo_u cr d (5 * f + w')) (fo_u cn d 0) (fx_ncv d cv SN (fg_bd ar (pat (5 * f + w')) (pl (5 * f + w')) L)) ?_ ?_
  · intro i hi
    by_cases e : i = d
    · subst e
      rw [fo_us, fo_us, pk_us, pk_us]
      refine ⟨rfl, rfl, ⟨f, w', hf, hrl, rfl⟩, Nat.zero_le _, fun x hx h1 => ?_⟩
      rw [List.drop_zero] at hx
      obtain ⟨v4, q, hq, hqm⟩ := var x hx h1
      obtain ⟨q', g1, g2, g3⟩ := fSN q hqm
      rw [fx_ncv_hi hq, b1 (x % 8) q v4 hq, g1, nI_clamp (by omega)]
      exact ⟨v4, g2, rfl⟩
    · have h1 : ∀ j, j < d → fo_u cr d (5 * f + w') j = cr j ∧ fo_u cn d 0 j = cn j ∧ upd xCr d (nI (5 * f + w')) j = xCr j ∧ upd xCn d 0 j = xCn j := fun j hj =>
        ⟨fo_un (by omega), fo_un (by omega), pk_un (by omega), pk_un (by omega)⟩
      exact fx_FR_c F (Nat.le_refl _) h1 (fun j hj => ⟨fx_ncv_lo hj, b2 j hj⟩) i (by omega)
  · show ((pos (fo_u cr d (5 * f + w') d)).drop (fo_u cn d 0 d)).map (fx_tk dn _ d (fo_u cr d (5 * f + w') d / 5)) ++ fx_frs pos dn _ _ _ d = _
    rw [fo_us, fo_us, List.drop_zero, show (5 * f + w') / 5 = f by omega]
    rw [fx_frs_c (dn' := dn) d F (fun _ _ => rfl) (fun i hi => ⟨fo_un (by omega), fo_un (by omega)⟩) (fun i hi => fx_ncv_lo hi)]
    refine congrArg (· ++ _) (List.map_congr_left ?_)
    intro x hx
    unfold fx_tk fg_sb
    by_cases h1 : x / 8 = 1
    · obtain ⟨v4, q, hq, hqm⟩ := var x hx h1
      obtain ⟨q', g1, g2, g3⟩ := fSN q hqm
      rw [if_pos h1, if_pos h1, fx_ncv_hi hq, hq, g1, nI_clamp (by omega), g3]
      rfl
    · rw [if_neg h1, if_neg h1]
end
theorem fg_mk0 {ar : Nat → Nat} {v : Nat} {st : List (List Nat)} (h : ar v = 0) : fg_mk ar v st = [v] := by
  unfold fg_mk; rw [h]; rfl
theorem fg_mk1 {ar : Nat → Nat} {v : Nat} {a : List Nat} {st : List (List Nat)} (h : ar v = 1) : fg_mk ar v (a :: st) = v :: a := by
  unfold fg_mk; rw [h]; simp
theorem fg_mk2 {ar : Nat → Nat} {v : Nat} {a b : List Nat} {st : List (List Nat)} (h : ar v = 2) : fg_mk ar v (b :: a :: st) = v :: (a ++ b) := by
  unfold fg_mk; rw [h]; simp
section
variable {xcc xdr xas xss xnc xdp xoc xrs xrt xrf xrz : Int32} {xA xD xDe xUw xRc xP xPe xPl xO xOl xAr xS xSe xSn xF xNc xNf xNs xNz xCr xCn xCv xOp xRl xTa xUt : Nat → Int32}
/-- a value is made of the latest operands -/
theorem x_bd {post : Int32 → SX → Prop} {ar : Nat → Nat} {c N oc v : Nat} {p1 : Int32} {dn : Nat → List Nat} {oo : Nat → Nat} (hc : c ≤ 6) (ha : ∀ i, ar i ≤ 2) (hv : v < c)
    (H : fx_H ar c N xNc xNf xNs xNz dn) (O : ∀ k, k < oc → oo k < N ∧ xOp k = nI (oo k)) (ho : ar v ≤ oc) (hoc : oc < 1201) (hN : N < 1240)
    (hB : 40 < (fg_mk ar v (fx_stk dn oo oc)).length → post 3 (xcc, xdr, xas, xss, nI N, xdp, nI oc, xrs, xrt, p1, xrz, fo_n ar, xD, xDe, xUw, xRc, xP, xPe, xPl, xO, xOl, xAr, xS, xSe, xSn, xF, xNc, xNf, xNs, xNz, xCr, xCn, xCv, xOp, xRl, xTa, xUt))
    (hK : ¬ 40 < (fg_mk ar v (fx_stk dn oo oc)).length → ∀ NC NF NS NZ, fx_H ar c (N + 1) NC NF NS NZ (fx_up dn N (fg_mk ar v (fx_stk dn oo oc))) →
      post (-1) (xcc, xdr, xas, xss, nI (N + 1), xdp, nI (oc - ar v + 1), xrs, xrt, xrf, xrz, fo_n ar, xD, xDe, xUw, xRc, xP, xPe, xPl, xO, xOl, xAr, xS, xSe, xSn, xF, NC, NF, NS, NZ, xCr, xCn, xCv, upd xOp (oc - ar v) (nI N), xRl, xTa, xUt)) :
    wpX_build post (xcc, xdr, xas, xss, nI N, xdp, nI oc, xrs, xrt, xrf, xrz, fo_n ar, xD, xDe, xUw, xRc, xP, xPe, xPl, xO, xOl, xAr, xS, xSe, xSn, xF, xNc, xNf, xNs, xNz, xCr, xCn, xCv, xOp, xRl, xTa, xUt) (nI v) p1 := by
  have h2 := ha v
  have HH := fx_HH H
  have en : (nI N).toNatClampNeg = N := nI_clamp (by omega)
  have hinN : vp_in (nI N) 1240 := vp_in_nI (by omega) (by decide)
  refine ⟨vp_in_nI (by omega) (by decide), nm_r (e' := nI (ar v)) (by rw [nI_clamp (by omega)]; rfl) (nm_r (pk_sub ho) ?_)⟩
  -- the end of it
  have last : ∀ sz (l r : Nat), sz = (fg_mk ar v (fx_stk dn oo oc)).length → sz < 2 ^ 31 → (1 ≤ ar v → l < N ∧ xOp (oc - ar v) = nI l) → (ar v = 2 → r < N ∧ xOp (oc - ar v + 1) = nI r) →
      ((ar v = 0 ∧ fg_mk ar v (fx_stk dn oo oc) = [v]) ∨ (ar v = 1 ∧ l < N ∧ fg_mk ar v (fx_stk dn oo oc) = v :: dn l) ∨ (ar v = 2 ∧ l < N ∧ r < N ∧ fg_mk ar v (fx_stk dn oo oc) = v :: (dn l ++ dn r))) →
      ∀ g, wX_build_22 post (nI v) p1 (nI (ar v)) (nI (oc - ar v)) xcc xdr xas xss (nI N) xdp (nI oc) xrs xrt xrf xrz (fo_n ar) xD xDe xUw xRc xP xPe xPl xO xOl xAr xS xSe xSn xF xNc xNf xNs xNz xCr xCn xCv xOp xRl xTa xUt (g + 1) (nI sz) (nI oc) := by
    intro sz l r hsz hb hl hr hsh g
    refine br_t (nI_le (Nat.le_refl _) (by omega)) (pk_le sz 40 (fun z => ?_) (fun z => hB (by omega)))
    have HN : ∀ xf xs : Int32, (1 ≤ ar v → xf = nI l) → (ar v = 2 → xs = nI r) → fx_H ar c (N + 1) (upd xNc N (nI v)) (upd xNf N xf) (upd xNs N xs) (upd xNz N (nI (fg_mk ar v (fx_stk dn oo oc)).length)) (fx_up dn N (fg_mk ar v (fx_stk dn oo oc))) :=
      fun xf xs e1 e2 => fx_H_new H e1 e2 ⟨hv, by omega, hsh⟩
    have go : ∀ xf : Int32, (1 ≤ ar v → xf = nI l) → wX_build_113 post (nI (ar v)) (nI (oc - ar v)) xf (nI N) xcc xdr xas xss (nI N) xdp (nI oc) xrs xrt xrf xrz (fo_n ar) xD xDe xUw xRc xP xPe xPl xO xOl xAr xS xSe xSn xF (upd xNc N (nI v)) xNf xNs (upd xNz N (nI (fg_mk ar v (fx_stk dn oo oc)).length)) xCr xCn xCv xOp xRl xTa xUt := by
      intro xf e1
      have fin : ∀ xs : Int32, (ar v = 2 → xs = nI r) → wX_build_140 post (nI (oc - ar v)) xs (nI N) xcc xdr xas xss (nI N) xdp (nI oc) xrs xrt xrf xrz (fo_n ar) xD xDe xUw xRc xP xPe xPl xO xOl xAr xS xSe xSn xF (upd xNc N (nI v)) (upd xNf N xf) xNs (upd xNz N (nI (fg_mk ar v (fx_stk dn oo oc)).length)) xCr xCn xCv xOp xRl xTa xUt := by
        intro xs e2
        refine ⟨hinN, nm_r (e' := upd xNs N xs) (by rw [en]) ⟨vp_in_nI (by omega) (by decide), nm_r (e' := upd xOp (oc - ar v) (nI N)) (by rw [nI_clamp (by omega)]) (nm_r (nI_1 _) (nm_r (nI_1 _) (hK (by omega) _ _ _ _ (HN xf xs e1 e2))))⟩⟩
      refine ⟨hinN, nm_r (e' := upd xNf N xf) (by rw [en]) (pk_eq (ar v) 2 (fun z2 => ⟨by rw [nI_1]; exact vp_in_nI (by omega) (by decide), fin _ (fun _ => ?_)⟩) (fun z2 => fin 0 (fun g => absurd g z2)))⟩
      rw [nI_1, nI_clamp (by omega)]; exact (hr z2).2
    refine ⟨hinN, nm_r (e' := upd xNc N (nI v)) (by rw [en]) ⟨hinN, nm_r (e' := upd xNz N (nI (fg_mk ar v (fx_stk dn oo oc)).length)) (by rw [en, hsz]) (pk_lt (ar v) 1 (fun z1 => go 0 (fun g => by omega)) (fun z1 => ⟨vp_in_nI (by omega) (by decide), go _ (fun _ => ?_)⟩))⟩⟩
    rw [nI_clamp (by omega)]; exact (hl z1).2
  -- one operand's size
  have add : ∀ i sz g, i < oc → (wX_build_22 post (nI v) p1 (nI (ar v)) (nI (oc - ar v)) xcc xdr xas xss (nI N) xdp (nI oc) xrs xrt xrf xrz (fo_n ar) xD xDe xUw xRc xP xPe xPl xO xOl xAr xS xSe xSn xF xNc xNf xNs xNz xCr xCn xCv xOp xRl xTa xUt g (nI (sz + (dn (oo i)).length)) (nI (i + 1))) →
      wX_build_22 post (nI v) p1 (nI (ar v)) (nI (oc - ar v)) xcc xdr xas xss (nI N) xdp (nI oc) xrs xrt xrf xrz (fo_n ar) xD xDe xUw xRc xP xPe xPl xO xOl xAr xS xSe xSn xF xNc xNf xNs xNz xCr xCn xCv xOp xRl xTa xUt (g + 1) (nI sz) (nI i) := by
    intro i sz g hi h
    obtain ⟨o1, o2⟩ := O i hi
    obtain ⟨_, _, _, _, a2, _⟩ := H (oo i) o1
    refine br_f (nI_ge (by omega) (by omega)) ⟨vp_in_nI (by omega) (by decide), ?_⟩
    rw [nI_clamp (by omega), o2]
    refine ⟨vp_in_nI (by omega) (by decide), nm_r (e' := nI (sz + (dn (oo i)).length)) ?_ (nm_r (nI_1 i) h)⟩
    rw [nI_clamp (by omega), a2, nI_add]
  by_cases z0 : ar v = 0
  · have em : fg_mk ar v (fx_stk dn oo oc) = [v] := fg_mk0 z0
    have := last 1 0 0 (by rw [em]; rfl) (by decide) (fun g => by omega) (fun g => by omega) (Or.inl ⟨z0, em⟩) 0
    rw [show oc - ar v = oc by omega] at this ⊢
    exact ⟨1, this⟩
  · obtain ⟨o1, o2⟩ := O (oc - 1) (by omega)
    have l1 := (fv_Hpos HH o1).2
    by_cases z1 : ar v = 1
    · have em : fg_mk ar v (fx_stk dn oo oc) = v :: dn (oo (oc - 1)) := by
        obtain ⟨q, rfl⟩ : ∃ q, oc = q + 1 := ⟨oc - 1, by omega⟩
        exact fg_mk1 z1
      have := last (1 + (dn (oo (oc - 1))).length) (oo (oc - 1)) 0 (by rw [em, List.length_cons]; omega) (by omega) (fun _ => ⟨o1, by rw [show oc - ar v = oc - 1 by omega]; exact o2⟩) (fun g => by omega) (Or.inr (Or.inl ⟨z1, o1, em⟩)) 0
      rw [show oc - ar v = oc - 1 by omega] at this add ⊢
      refine ⟨2, add (oc - 1) 1 1 (by omega) ?_⟩
      rw [show oc - 1 + 1 = oc by omega]
      exact this
    · have z2 : ar v = 2 := by omega
      obtain ⟨o3, o4⟩ := O (oc - 2) (by omega)
      have l2 := (fv_Hpos HH o3).2
      have em : fg_mk ar v (fx_stk dn oo oc) = v :: (dn (oo (oc - 2)) ++ dn (oo (oc - 1))) := by
        obtain ⟨q, rfl⟩ : ∃ q, oc = q + 1 + 1 := ⟨oc - 2, by omega⟩
        exact fg_mk2 z2
      have := last (1 + (dn (oo (oc - 2))).length + (dn (oo (oc - 1))).length) (oo (oc - 2)) (oo (oc - 1)) (by rw [em, List.length_cons, List.length_append]; omega) (by omega) (fun _ => ⟨o3, by rw [show oc - ar v = oc - 2 by omega]; exact o4⟩)
        (fun _ => ⟨o1, by rw [show oc - ar v + 1 = oc - 1 by omega]; exact o2⟩) (Or.inr (Or.inr ⟨z2, o3, o1, em⟩)) 0
      rw [show oc - ar v = oc - 2 by omega] at this add ⊢
      refine ⟨3, add (oc - 2) 1 2 (by omega) (add (oc - 2 + 1) _ 1 (by omega) ?_)⟩
      rw [show oc - 2 + 1 = oc - 1 by omega, show oc - 1 + 1 = oc by omega]
      exact this
end
end
section
section
variable {xcc xdr xas xss xnc xdp xoc xrs xrt xrf xrz : Int32} {xA xD xDe xUw xRc xP xPe xPl xO xOl xAr xS xSe xSn xF xNc xNf xNs xNz xCr xCn xCv xOp xRl xTa xUt : Nat → Int32}
/-- the nodes of the argument -/
theorem x_st {post : SX → Prop} {ar W : Nat → Nat} {c m : Nat} (hc : c ≤ 6) (ha : ∀ i, ar i ≤ 2) (hW : fR_val ar c m W xAr)
    (hp : ∀ S E NC NF NS NZ, fx_H ar c m NC NF NS NZ (fun i => fv_sub ar W m i) →
      post (xcc, xdr, nI m, nI m, nI m, 0, 1, xrs, 0, -1, 0, fo_n ar, xD, xDe, xUw, xRc, xP, xPe, xPl, xO, xOl, xAr, S, E, xSn, xF, NC, NF, NS, NZ, xCr, xCn, xCv, upd xOp 0 0, xRl, xTa, xUt)) :
    wpX_startRun post (xcc, xdr, nI m, xss, xnc, xdp, xoc, xrs, xrt, xrf, xrz, fo_n ar, xD, xDe, xUw, xRc, xP, xPe, xPl, xO, xOl, xAr, xS, xSe, xSn, xF, xNc, xNf, xNs, xNz, xCr, xCn, xCv, xOp, xRl, xTa, xUt) := by
  unfold wpX_startRun
  refine x_sa hc ha hW (fun S E fS => ?_)
  obtain ⟨hm, f, g⟩ := fS
  have loop : ∀ d i NC NF NS NZ, i + d = m → (∀ q, q < i → NC q = nI (W q) ∧ NZ q = nI (fe_pe (fm_v ar W) m q - q) ∧ NF q = nI (q + 1) ∧ (ar (W q) = 2 → NS q = nI (fe_pe (fm_v ar W) m (q + 1)))) →
      wX_startRun_6 post xcc xdr (nI m) (nI m) xnc xdp xoc xrs xrt xrf xrz (d + 1) (nI i) (fo_n ar) xD xDe xUw xRc xP xPe xPl xO xOl xAr S E xSn xF NC NF NS NZ xCr xCn xCv xOp xRl xTa xUt := by
    intro d
    induction d with
    | zero =>
      intro i NC NF NS NZ hi h
      have e : i = m := by omega
      subst e
      refine br_t (nI_le (Nat.le_refl _) (by omega)) (nm_e (hp S E NC NF NS NZ (fun q hq => ?_)))
      obtain ⟨b1, b2, b3, b4⟩ := h q hq
      have h2 := ha (W q)
      have hw := (g q hq).1
      have hlen : (fv_sub ar W i q).length ≤ 40 := by
        rw [fv_sub_len]
        have := fe_full_e f hq
        omega
      refine ⟨W q, q + 1, fe_pe (fm_v ar W) i (q + 1), b1, by rw [b2]; exact congrArg nI (fv_sub_len ar W i q).symm, fun _ => b3, b4, hw, hlen, ?_⟩
      by_cases z0 : ar (W q) = 0
      · exact Or.inl ⟨z0, fv_sub_s0 hq z0⟩
      · by_cases z1 : ar (W q) = 1
        · obtain ⟨u1, u2⟩ := fv_sub_s1 f hq z1
          exact Or.inr (Or.inl ⟨z1, u1, u2⟩)
        · obtain ⟨u1, u2, u3, u4⟩ := fv_sub_s2 f hq (show ar (W q) = 2 by omega)
          exact Or.inr (Or.inr ⟨by omega, u1, u3, u4⟩)
    | succ d ih =>
      intro i NC NF NS NZ hi h
      obtain ⟨g1, g2, g3⟩ := g i (by omega)
      have ei := fe_full_e f (show i < m by omega)
      have e1 : (nI i).toNatClampNeg = i := nI_clamp (by omega)
      have h40 : vp_in (nI i) 40 := vp_in_nI (by omega) (by decide)
      have h1240 : vp_in (nI i) 1240 := vp_in_nI (by omega) (by decide)
      refine br_f (nI_ge (by omega) (by omega)) ⟨h40, h1240, nm_r (e' := upd NC i (nI (W i))) (by rw [e1, g2]) ⟨h40, h1240, nm_r (e' := upd NZ i (nI (fe_pe (fm_v ar W) m i - i))) (by rw [e1, g3, pk_sub (by omega)]) ⟨h1240, nm_r (e' := upd NF i (nI (i + 1))) (by rw [e1, nI_1]) ⟨h40, ?_⟩⟩⟩⟩
      rw [e1, g2]
      refine ⟨vp_in_nI (by omega) (by decide), ?_⟩
      rw [nI_clamp (by omega)]
      have h2 := ha (W i)
      have step : ∀ x, (ar (W i) = 2 → x = nI (fe_pe (fm_v ar W) m (i + 1))) → ∀ q, q < i + 1 → upd NC i (nI (W i)) q = nI (W q) ∧ upd NZ i (nI (fe_pe (fm_v ar W) m i - i)) q = nI (fe_pe (fm_v ar W) m q - q) ∧ upd NF i (nI (i + 1)) q = nI (q + 1) ∧
          (ar (W q) = 2 → upd NS i x q = nI (fe_pe (fm_v ar W) m (q + 1))) := by
        intro x hx q hq
        by_cases e : q = i
        · subst e; rw [pk_us, pk_us, pk_us, pk_us]; exact ⟨rfl, rfl, rfl, hx⟩
        · rw [pk_un e, pk_un e, pk_un e, pk_un e]; exact h q (by omega)
      refine pk_eq (ar (W i)) 2 (fun z => ?_) (fun z => ⟨h1240, nm_r (e' := upd NS i 0) rfl (nm_r (nI_1 i) (ih (i + 1) _ _ _ _ (by omega) (step 0 (fun q => absurd q z))))⟩)
      obtain ⟨u1, _⟩ := fe_pe_c2 (fm_v ar W) (show i < m by omega) ei.2 f.2.1 z
      refine ⟨by rw [nI_1]; exact vp_in_nI (by omega) (by decide), h1240, nm_r (e' := upd NS i (nI (fe_pe (fm_v ar W) m (i + 1)))) ?_ (nm_r (nI_1 i) (ih (i + 1) _ _ _ _ (by omega) (step _ (fun _ => rfl))))⟩
      rw [nI_1, nI_clamp (by omega), (g (i + 1) u1).2.2]
  exact ⟨m + 1, loop m 0 xNc xNf xNs xNz (by omega) (fun q hq => by omega)⟩
/-- what the run gave is kept -/
theorem x_ko {post : SX → Prop} {ar : Nat → Nat} {c N root : Nat} {dn : Nat → List Nat} (hc : c ≤ 6) (ha : ∀ i, ar i ≤ 2) (H : fx_H ar c N xNc xNf xNs xNz dn) (hN : N ≤ 1240) (hr : root < N) (ho : xOp 0 = nI root)
    (hp : ∀ ss S E SN, post (xcc, xdr, xas, ss, xnc, xdp, xoc, xrs, xrt, xrf, nI (dn root).length, fo_n ar, xD, xDe, xUw, xRc, xP, xPe, xPl, xO, xOl, xAr, S, E, SN, xF, xNc, xNf, xNs, xNz, xCr, xCn, xCv, xOp, fo_cp xRl (fo_n (fv_g (dn root))) (dn root).length, xTa, xUt)) :
    wpX_keepOutcome post (xcc, xdr, xas, xss, xnc, xdp, xoc, xrs, xrt, xrf, xrz, fo_n ar, xD, xDe, xUw, xRc, xP, xPe, xPl, xO, xOl, xAr, xS, xSe, xSn, xF, xNc, xNf, xNs, xNz, xCr, xCn, xCv, xOp, xRl, xTa, xUt) := by
  unfold wpX_keepOutcome
  refine fo_ih (P := fun z => wpX_seatNode _ _ z) ho ?_
  refine x_sn hc ha H hN hr (fun S E SN fS fSN => ?_)
  obtain ⟨h40, _, hS⟩ := fS
  have loop : ∀ d i B, i + d = (dn root).length → B = fo_cp xRl (fo_n (fv_g (dn root))) i →
      wX_keepOutcome_20 post xcc xdr xas (nI (dn root).length) xnc xdp xoc xrs xrt xrf (nI (dn root).length) (d + 1) (nI i) (fo_n ar) xD xDe xUw xRc xP xPe xPl xO xOl xAr S E SN xF xNc xNf xNs xNz xCr xCn xCv xOp B xTa xUt := by
    intro d
    induction d with
    | zero =>
      intro i B hi hB
      subst hB
      have e : i = (dn root).length := by omega
      rw [e]
      exact br_t (nI_le (Nat.le_refl _) (by omega)) (hp _ S E SN)
    | succ d ih =>
      intro i B hi hB
      subst hB
      refine br_f (nI_ge (by omega) (by omega)) ⟨vp_in_nI (by omega) (by decide), vp_in_nI (by omega) (by decide), nm_e (nm_r (nI_1 i) (ih (i + 1) _ (by omega) ?_))⟩
      rw [nI_clamp (by omega), (hS i (by omega)).2.1, ← fo_cpS]
      rfl
  exact ⟨(dn root).length + 1, loop (dn root).length 0 xRl (by omega) (fo_cp0 _ _).symm⟩
end
section
variable {xcc xdr xas xss xnc xdp xoc xrs xrt xrf xrz : Int32} {xA xD xDe xUw xRc xP xPe xPl xO xOl xAr xS xSe xSn xF xNc xNf xNs xNz xCr xCn xCv xOp xRl xTa xUt : Nat → Int32}
variable {yk yw : Nat → Int32}
/-- the whole run from a state in the midst of it -/
theorem x_rl {post : Int32 → SX → Prop} {ar rc pl : Nat → Nat} {pat : Nat → Nat → Nat} {pre pos : Nat → List Nat} {c : Nat}
    (hc : c ≤ 6) (ha : ∀ i, ar i ≤ 2) (hrc : ∀ f, rc f ≤ 5) (hR : fx_rows ar c rc pl pat pre pos xP xPe xO xOl yk yw) {R : Nat × Nat × Nat × List Nat}
    (hO : R.1 = 0 → (∀ (ss nc dp oc : Int32) (S E SN Ft NC NF NS NZ CR CN CV OP : Nat → Int32), post 0 (xcc, xdr, xas, ss, nc, dp, oc, 0, nI R.2.1, -1, nI R.2.2.2.length, fo_n ar, xD, xDe, xUw, fo_n rc, xP, xPe, fo_n pl, xO, xOl, xAr, S, E, SN, Ft, NC, NF, NS, NZ, CR, CN, CV, OP, fo_cp xRl (fo_n (fv_g R.2.2.2)) R.2.2.2.length, xTa, xUt)))
    (hB : (1 ≤ R.1 ∧ R.1 ≤ 3) → (∀ (ss nc dp oc : Int32) (S E SN Ft NC NF NS NZ CR CN CV OP : Nat → Int32), post (nI R.1) (xcc, xdr, xas, ss, nc, dp, oc, nI R.1, nI R.2.1, nI (R.2.2.1 - 1), 0, fo_n ar, xD, xDe, xUw, fo_n rc, xP, xPe, fo_n pl, xO, xOl, xAr, S, E, SN, Ft, NC, NF, NS, NZ, CR, CN, CV, OP, xRl, xTa, xUt))) :
    ∀ K n s d oc N t g (dn : Nat → List Nat) (cr cn cv oo : Nat → Nat) (ss : Int32) (S E SN Ft NC NF NS NZ CR CN CV OP : Nat → Int32),
      2 * (12 * (100 - s) + (fx_frs pos dn cr cn cv d).length) + d < K → K ≤ g → t + K ≤ 900000 → 12 * (100 - s) + (fx_frs pos dn cr cn cv d).length < n → 1 ≤ d → d ≤ s → s ≤ 100 →
      N + (12 * (100 - s) + (fx_frs pos dn cr cn cv d).length) ≤ 1240 → oc + (12 * (100 - s) + (fx_frs pos dn cr cn cv d).length) ≤ 1200 →
      fx_H ar c N NC NF NS NZ dn → fx_FR pos rc N d cr cn cv CR CN CV → (∀ k, k < oc → oo k < N ∧ OP k = nI (oo k)) → fx_bal ar oc (fx_frs pos dn cr cn cv d) →
      fg_go ar (fg_row ar pat pl rc) (fg_res ar pat pl rc pos) n s (fx_stk dn oo oc) (fx_frs pos dn cr cn cv d) = R →
      wX_run_28 post (g + 1) (-1) (nI t) xcc xdr xas ss (nI N) (nI d) (nI oc) xrs (nI s) (-1) 0 (fo_n ar) xD xDe xUw (fo_n rc) xP xPe (fo_n pl) xO xOl xAr S E SN Ft NC NF NS NZ CR CN CV OP xRl xTa xUt := by
  intro K
  induction K with
  | zero => intro n s d oc N t g dn cr cn cv oo ss S E SN Ft NC NF NS NZ CR CN CV OP h; omega
  | succ K ih =>
    intro n s d oc N t g dn cr cn cv oo ss S E SN Ft NC NF NS NZ CR CN CV OP hK hg ht hn h1d hds hs hN hoc H F O B hgo
    obtain ⟨g, rfl⟩ : ∃ g', g = g' + 1 := ⟨g - 1, by omega⟩
    obtain ⟨n, rfl⟩ : ∃ n', n = n' + 1 := ⟨n - 1, by omega⟩
    obtain ⟨d, rfl⟩ : ∃ d', d = d' + 1 := ⟨d - 1, by omega⟩
    refine br_f (nI_ge (b := 1000000) (by omega) (by decide)) (br_t rfl ?_)
    -- an end that is no value
    have stop : ∀ code, (1 ≤ code ∧ code ≤ 3) → R.1 = code → ∀ (rf : Int32) (rt : Int32), rf = nI (R.2.2.1 - 1) → rt = nI R.2.1 → ∀ (ss nc dp oc : Int32) (S E SN Ft NC NF NS NZ CR CN CV OP : Nat → Int32),
        wX_run_28 post (g + 1) (nI code) (nI (t + 1)) xcc xdr xas ss nc dp oc xrs rt rf 0 (fo_n ar) xD xDe xUw (fo_n rc) xP xPe (fo_n pl) xO xOl xAr S E SN Ft NC NF NS NZ CR CN CV OP xRl xTa xUt := by
      intro code hcode hRc rf rt hrf hrt ss nc dp oc S E SN Ft NC NF NS NZ CR CN CV OP
      have n1 : ¬ nI code = -1 := fun q => absurd (q ▸ nI_pos' (n := code) (by omega)) (by decide)
      refine br_f (nI_ge (b := 1000000) (by omega) (by decide)) (br_f n1 (br_f (nI_ne0 (by omega) (by omega)) ?_))
      rw [hrf, hrt, ← hRc]
      exact hB (by omega) ss nc dp oc S E SN Ft NC NF NS NZ CR CN CV OP
    obtain ⟨f1, f2, ⟨f, r, hf, hr, hcr⟩, f4, f5⟩ := F d (by omega)
    have hr5 := hrc f
    have hrow := hR f r hf hr
    rw [← hcr] at hrow
    have hlen := (ff_len hrow.2.2.2.2.1).1
    have hl12 := hrow.2.2.2.2.2.1
    have hinD : vp_in (nI d) 100 := vp_in_nI (by omega) (by decide)
    have eD : (nI d).toNatClampNeg = d := nI_clamp (by omega)
    have eR : (nI (cr d)).toNatClampNeg = cr d := nI_clamp (by omega)
    unfold wpX_workOn
    refine nm_r (nI_pred d) ⟨hinD, nm_r (e' := nI (cr d)) (by rw [eD, f1]) ⟨hinD, vp_in_nI (by omega) (by decide), ?_⟩⟩
    rw [eD, eR, f2, hrow.2.2.2.2.2.2.1]
    refine pk_eq (cn d) (pos (cr d)).length (fun z => nm_r (nI_pred d) ?_) (fun z => ?_)
    · -- the call comes back
      have erest : fx_frs pos dn cr cn cv (d + 1) = fx_frs pos dn cr cn cv d := by
        show ((pos (cr d)).drop (cn d)).map _ ++ _ = _
        rw [z, List.drop_length]; rfl
      rw [erest] at hK hn hN hoc B hgo
      refine pk_eq d 0 (fun z0 => ?_) (fun z0 => nm_r (nI_1 t) ?_)
      · subst z0
        have hb1 : oc = 1 := B
        subst hb1
        rw [show fx_frs pos dn cr cn cv 0 = [] from rfl, fg_go_nil] at hgo
        refine nm_r (nI_1 t) (br_f (nI_ge (b := 1000000) (by omega) (by decide)) (br_f (by decide) (br_t rfl ?_)))
        obtain ⟨o1, o2⟩ := O 0 (by omega)
        refine x_ko hc ha H (by omega) o1 o2 (fun ss' S' E' SN' => ?_)
        have := hO (by rw [← hgo]) ss' (nI N) 0 (nI 1) S' E' SN' Ft NC NF NS NZ CR CN CV OP
        rw [← hgo] at this
        exact this
      · refine ih (n + 1) s d oc N (t + 1) g dn cr cn cv oo ss S E SN Ft NC NF NS NZ CR CN CV OP ?_ (by omega) (by omega) hn (by omega) (by omega) hs hN hoc H (fun i hi => F i (by omega)) O B hgo
        rw [erest] at *
        omega
    · -- a token
      have hi : cn d < (pos (cr d)).length := by omega
      have edrop := fv_drop hi
      have hmem : fv_g (pos (cr d)) (cn d) ∈ pos (cr d) := fv_gmem hi
      have kinds := fx_rowv hrow _ hmem
      generalize hx : fv_g (pos (cr d)) (cn d) = x at *
      have hx48 : x < 48 := by omega
      -- the calls, one token on
      have F1 : ∀ N', N ≤ N' → fx_FR pos rc N' (d + 1) cr (fo_u cn d (cn d + 1)) cv CR (upd CN d (nI (cn d + 1))) CV := by
        intro N' hN' i hi'
        by_cases e : i = d
        · subst e
          rw [fo_us, pk_us]
          refine ⟨f1, rfl, ⟨f, r, hf, hr, hcr⟩, by omega, fun y hy h1 => ?_⟩
          obtain ⟨q1, q2, q3⟩ := f5 y (by rw [edrop]; exact List.mem_cons_of_mem _ hy) h1
          exact ⟨q1, by omega, q3⟩
        · obtain ⟨a1, a2, a3, a4, a5⟩ := F i hi'
          rw [fo_un e, pk_un e]
          exact ⟨a1, a2, a3, a4, fun y hy h1 => ⟨(a5 y hy h1).1, by have := (a5 y hy h1).2.1; omega, (a5 y hy h1).2.2⟩⟩
      have frs1 : ∀ dn', (∀ q, q < N → dn' q = dn q) → fx_tk dn cv d (cr d / 5) x :: fx_frs pos dn' cr (fo_u cn d (cn d + 1)) cv (d + 1) = fx_frs pos dn cr cn cv (d + 1) := by
        intro dn' hdn
        show fx_tk dn cv d (cr d / 5) x :: (((pos (cr d)).drop (fo_u cn d (cn d + 1) d)).map (fx_tk dn' cv d (cr d / 5)) ++ fx_frs pos dn' cr (fo_u cn d (cn d + 1)) cv d) = ((pos (cr d)).drop (cn d)).map (fx_tk dn cv d (cr d / 5)) ++ fx_frs pos dn cr cn cv d
        rw [fo_us, edrop, List.map_cons, List.cons_append]
        rw [fx_frs_c d (fun i hi' => F i (by omega)) hdn (fun i hi' => ⟨rfl, fo_un (by omega)⟩) (fun _ _ => rfl)]
        refine congrArg (fun l => fx_tk dn cv d (cr d / 5) x :: (l ++ _)) (List.map_congr_left (fun y hy => ?_))
        unfold fx_tk
        by_cases h1 : y / 8 = 1
        · obtain ⟨q1, q2, q3⟩ := f5 y (by rw [edrop]; exact List.mem_cons_of_mem _ hy) h1
          rw [if_pos h1, if_pos h1, hdn _ q2]
        · rw [if_neg h1, if_neg h1]
      have eo : nI (cr d) * 12 + nI (cn d) = nI (12 * cr d + cn d) := by rw [fo_m12, nI_add, Nat.mul_comm]
      have exo : xO (12 * cr d + cn d) = nI x := by rw [hrow.2.2.2.2.2.2.2.1 (cn d) hi, hx]
      refine ⟨hinD, ?_⟩
      rw [eo]
      refine ⟨vp_in_nI (by omega) (by decide), nm_r (e' := nI x) (by rw [nI_clamp (by omega), exo]) ⟨by decide, nm_r (fo_r8 (by omega)) ⟨hinD, hinD, nm_r (e' := upd CN d (nI (cn d + 1))) (by rw [nI_1]) ⟨by decide, nm_r (fo_d8 (by omega)) ?_⟩⟩⟩⟩
      have f01 := frs1 dn (fun _ _ => rfl)
      refine pk_eq (x / 8) 2 (fun k2 => ⟨by decide, ?_⟩) (fun k2 => pk_eq (x / 8) 5 (fun k5 => ?_) (fun k5 => ?_))
      · -- a constructor
        have etk : fx_tk dn cv d (cr d / 5) x = Sum.inr (2, x % 8, cr d / 5) := by unfold fx_tk; rw [if_neg (by omega), k2]
        rw [etk] at f01
        rw [← f01] at hK hn hN hoc B hgo
        rw [List.length_cons] at hK hn hN hoc
        have hk2 : fg_k ar (Sum.inr (2, x % 8, cr d / 5)) = ar (x % 8) := rfl
        obtain ⟨B1, B2⟩ := B
        rw [hk2] at B1 B2
        have vc : x % 8 < c := by omega
        have e5 : nI (cr d) / 5 = nI (f) := by rw [fo_d5 (by omega)]; exact congrArg nI (by omega)
        have e5' : cr d / 5 = f := by omega
        rw [e5]
        refine x_bd hc ha vc H O B1 (by omega) (by omega) (fun big => ?_) (fun big NC' NF' NS' NZ' H' => ?_)
        · rw [fg_go_big big] at hgo
          exact nm_r (nI_1 t) (stop 3 (by omega) (by rw [← hgo]) _ _ (by rw [← hgo, e5']; rfl) (by rw [← hgo]) _ _ _ _ _ _ _ _ _ _ _ _ _ _ _ _)
        · rw [fg_go_con big] at hgo
          have hup : ∀ q, q < N → fx_up dn N (fg_mk ar (x % 8) (fx_stk dn oo oc)) q = dn q := fun q hq => fx_up_n hq
          have f02 := frs1 _ hup
          rw [etk] at f02
          have f03 : fx_frs pos (fx_up dn N (fg_mk ar (x % 8) (fx_stk dn oo oc))) cr (fo_u cn d (cn d + 1)) cv (d + 1) = fx_frs pos dn cr (fo_u cn d (cn d + 1)) cv (d + 1) := (List.cons.inj (f02.trans f01.symm)).2
          refine nm_r (nI_1 t) (ih n s (d + 1) (oc - ar (x % 8) + 1) (N + 1) (t + 1) g (fx_up dn N (fg_mk ar (x % 8) (fx_stk dn oo oc))) cr (fo_u cn d (cn d + 1)) cv (fo_u oo (oc - ar (x % 8)) N) _ _ _ _ _ NC' NF' NS' NZ' _ _ _ _ ?_ (by omega) (by omega) ?_ (by omega) hds hs ?_ ?_ H' (F1 (N + 1) (by omega)) ?_ ?_ ?_)
          · rw [f03]; omega
          · rw [f03]; omega
          · rw [f03]; omega
          · rw [f03]; omega
          · intro k hk
            by_cases e : k = oc - ar (x % 8)
            · subst e; rw [fo_us, pk_us]; exact ⟨by omega, rfl⟩
            · rw [fo_un e, pk_un e]
              obtain ⟨o1, o2⟩ := O k (by omega)
              exact ⟨by omega, o2⟩
          · rw [f03]; exact B2
          · rw [f03, ← hgo]
            refine congrArg (fun st => fg_go ar (fg_row ar pat pl rc) (fg_res ar pat pl rc pos) n s st _) ?_
            show fx_up dn N _ (fo_u oo (oc - ar (x % 8)) N (oc - ar (x % 8))) :: fx_stk _ _ (oc - ar (x % 8)) = _
            rw [fo_us, fx_up_s, fx_stk_drop dn oo oc (ar (x % 8)) B1]
            refine congrArg (List.cons (fg_mk ar (x % 8) (fx_stk dn oo oc))) (fx_stk_c _ (fun i hi' => ?_))
            obtain ⟨o1, _⟩ := O i (by omega)
            rw [fo_un (by omega), fx_up_n o1]
      · -- a call
        have etk : fx_tk dn cv d (cr d / 5) x = Sum.inr (5, x % 8, cr d / 5) := by unfold fx_tk; rw [if_neg (by omega), k5]
        rw [etk] at f01
        rw [← f01] at hK hn hN hoc B hgo
        rw [List.length_cons] at hK hn hN hoc
        have hk5 : fg_k ar (Sum.inr (5, x % 8, cr d / 5)) = 1 := rfl
        obtain ⟨B1, B2⟩ := B
        rw [hk5] at B1 B2
        have vf : x % 8 < 4 := by omega
        obtain ⟨oc, rfl⟩ : ∃ o, oc = o + 1 := ⟨oc - 1, by omega⟩
        have est : (fx_stk dn oo (oc + 1)).headD [] = dn (oo oc) := rfl
        refine x_en hc ha vf hrc hR H (F1 N (Nat.le_refl _)) O (by omega) (by omega) hs hds (by omega) (fun z100 => ?_) (fun z100 w ss' S' E' SN' Ft' => ?_) (fun z100 w ss' S' E' SN' Ft' CR' CN' CV' cr' cn' cv' F' e' => ?_)
        · rw [fg_go_long z100] at hgo
          exact nm_r (nI_1 t) (stop 2 (by omega) (by rw [← hgo]) _ _ (by rw [← hgo]; rfl) (by rw [← hgo]) _ _ _ _ _ _ _ _ _ _ _ _ _ _ _ _)
        · rw [fg_go_stuck z100 w] at hgo
          exact nm_r (nI_1 t) (stop 1 (by omega) (by rw [← hgo]) _ _ (by rw [← hgo]; rfl) (by rw [← hgo]) _ _ _ _ _ _ _ _ _ _ _ _ _ _ _ _)
        · rw [fg_go_call z100 w, est] at hgo
          rw [Nat.add_sub_cancel] at e' w
          have hwle := fm_row_le ar pat pl rc (x % 8) (fv_g (dn (oo oc))) (dn (oo oc)).length
          have hrv := hrc (x % 8)
          have hwn : fm_row ar pat pl rc (x % 8) (fv_g (dn (oo oc))) (dn (oo oc)).length ≠ 0 := w
          have hrow2 := hR (x % 8) (fm_row ar pat pl rc (x % 8) (fv_g (dn (oo oc))) (dn (oo oc)).length - 1) vf (by omega)
          have hll : (fg_res ar pat pl rc pos (x % 8) (dn (oo oc))).length ≤ 12 := by
            have e1 := (ff_len hrow2.2.2.2.2.1).1
            have e2 := hrow2.2.2.2.2.2.1
            unfold fg_res
            rw [List.length_map]
            show (pos (5 * (x % 8) + (fm_row ar pat pl rc (x % 8) (fv_g (dn (oo oc))) (dn (oo oc)).length - 1))).length ≤ 12
            omega
          have hs99 : s < 100 := by omega
          refine nm_r (nI_1 t) (ih n (s + 1) (d + 1 + 1) oc N (t + 1) g dn cr' cn' cv' oo ss' S' E' SN' Ft' _ _ _ _ CR' CN' CV' _ ?_ (by omega) (by omega) ?_ (by omega) (by omega) (by omega) ?_ ?_ H F' (fun k hk => O k (by omega)) ?_ ?_)
          · rw [e', List.length_append]; omega
          · rw [e', List.length_append]; omega
          · rw [e', List.length_append]; omega
          · rw [e', List.length_append]; omega
          · rw [e']
            rw [show oc + 1 - 1 + 1 = oc + 1 by omega] at B2
            exact fx_bal_app (fg_PF (dn (oo oc)) vf hrow2.2.2.2.2.1) oc _ B2
          · rw [e']
            exact hgo
      · -- a variable
        have k1 : x / 8 = 1 := by omega
        have etk : fx_tk dn cv d (cr d / 5) x = Sum.inl (dn (cv (4 * d + x % 8))) := by unfold fx_tk; rw [if_pos k1]
        rw [etk] at f01
        rw [← f01] at hK hn hN hoc B hgo
        rw [List.length_cons] at hK hn hN hoc
        obtain ⟨B1, B2⟩ := B
        obtain ⟨q1, q2, q3⟩ := f5 x (by rw [edrop]; exact List.mem_cons_self ..) k1
        rw [fg_go_val] at hgo
        have ev : nI d * 4 + nI (x % 8) = nI (4 * d + x % 8) := by rw [fo_m4, nI_add, Nat.mul_comm]
        rw [ev]
        refine ⟨vp_in_nI (by omega) (by decide), vp_in_nI (by omega) (by decide), nm_r (e' := upd OP oc (nI (cv (4 * d + x % 8)))) (by rw [nI_clamp (by omega), nI_clamp (by omega), q3]) (nm_r (nI_1 oc) (nm_r (nI_1 t) (ih n s (d + 1) (oc + 1) N (t + 1) g dn cr (fo_u cn d (cn d + 1)) cv (fo_u oo oc (cv (4 * d + x % 8))) _ _ _ _ _ _ _ _ _ _ _ _ _ (by omega) (by omega) (by omega) (by omega) (by omega) hds hs (by omega) (by omega) H (F1 N (Nat.le_refl _)) ?_ ?_ ?_)))⟩
        · intro k hk
          by_cases e : k = oc
          · subst e; rw [fo_us, pk_us]; exact ⟨q2, rfl⟩
          · rw [fo_un e, pk_un e]; exact O k (by omega)
        · exact B2
        · rw [← hgo]
          refine congrArg (fun st => fg_go ar (fg_row ar pat pl rc) (fg_res ar pat pl rc pos) n s st _) ?_
          show dn (fo_u oo oc (cv (4 * d + x % 8)) oc) :: fx_stk dn _ oc = _
          rw [fo_us]
          exact congrArg (List.cons (dn (cv (4 * d + x % 8)))) (fx_stk_c oc (fun i hi' => by rw [fo_un (by omega)]))
end
end
section
/-- a spelled value: at each place its node -/
def fy_stk (U : Nat → Int32) : List Nat → Prop
  | [] => True
  | u :: st => U st.length = nI u ∧ fy_stk U st
theorem fy_stk_u {U : Nat → Int32} {x : Int32} : ∀ st k, st.length ≤ k → fy_stk U st → fy_stk (upd U k x) st := by
  intro st
  induction st with
  | nil => intro k _ _; trivial
  | cons u st ih =>
    intro k hk h
    rw [List.length_cons] at hk
    exact ⟨by rw [pk_un (by omega)]; exact h.1, ih k (by omega) h.2⟩
theorem fv_cc_len {ar : Nat → Nat} {c N : Nat} {dn : Nat → List Nat} (H : fv_H ar c N dn) : ∀ ns, (∀ q, q ∈ ns → q < N) → ns.length ≤ (fv_cc dn ns).length := by
  intro ns
  induction ns with
  | nil => intro _; exact Nat.le_refl _
  | cons n ns ih =>
    intro h
    have a := (fv_Hpos H (h n (List.mem_cons_self ..))).1
    have b := ih (fun q hq => h q (List.mem_cons_of_mem _ hq))
    show ns.length + 1 ≤ (dn n ++ fv_cc dn ns).length
    rw [List.length_append]
    omega
section
variable {ycc ydr ynd yln yal ygl yst ybl yhw yrn ywk : Int32} {yA yDk yDw yK yW yPl yRl yRc yHd yLf yRg ySz yLi ySk ySt yAr yGv yF yEn yPc yBd yWk yWw yOw yCt yOz yOp yKn : Nat → Int32}
/-- a node is made; h: its size is small enough, or it is the last -/
theorem y_nd {post : Int32 → SY → Prop} {ar : Nat → Nat} {c N h l r : Nat} {dn : Nat → List Nat} {xf xs : Int32} (hN : N < 1300) (H : fy_H ar c N yHd yLf yRg ySz dn) (ha : ar h ≤ 2)
    (hf : xf = if 1 ≤ ar h then nI l else -1) (hs : xs = if ar h = 2 then nI r else -1) (hl : 1 ≤ ar h → l < N) (hr : ar h = 2 → r < N)
    (hp : post (nI N) (ycc, ydr, nI (N + 1), yln, yal, ygl, yst, ybl, yhw, yrn, ywk, yA, yDk, yDw, yK, yW, yPl, yRl, yRc, upd yHd N (nI h), upd yLf N xf, upd yRg N xs, upd ySz N (nI (1 + (if 1 ≤ ar h then (dn l).length else 0) + (if ar h = 2 then (dn r).length else 0))), yLi, ySk, ySt, yAr, yGv, yF, yEn, yPc, yBd, yWk, yWw, yOw, yCt, yOz, yOp, yKn)) :
    wpY_node post (ycc, ydr, nI N, yln, yal, ygl, yst, ybl, yhw, yrn, ywk, yA, yDk, yDw, yK, yW, yPl, yRl, yRc, yHd, yLf, yRg, ySz, yLi, ySk, ySt, yAr, yGv, yF, yEn, yPc, yBd, yWk, yWw, yOw, yCt, yOz, yOp, yKn) (nI h) xf xs := by
  have en : (nI N).toNatClampNeg = N := nI_clamp (by omega)
  have hin : vp_in (nI N) 1300 := vp_in_nI hN (by decide)
  refine ⟨hin, nm_r (by rw [en]) ⟨hin, nm_r (by rw [en]) ⟨hin, nm_r (by rw [en]) ?_⟩⟩⟩
  have second : ∀ s1 : Nat, ∀ (z : Int32), z = nI s1 → s1 = (if 1 ≤ ar h then (dn l).length else 0) →
      wY_node_53 post xs z 1 (nI N) ycc ydr (nI N) yln yal ygl yst ybl yhw yrn ywk yA yDk yDw yK yW yPl yRl yRc (upd yHd N (nI h)) (upd yLf N xf) (upd yRg N xs) ySz yLi ySk ySt yAr yGv yF yEn yPc yBd yWk yWw yOw yCt yOz yOp yKn := by
    intro s1 z hz hs1
    have fin : ∀ s2 : Nat, ∀ (y : Int32), y = nI s2 → s2 = (if ar h = 2 then (dn r).length else 0) →
        wY_node_68 post y (1 + z) (nI N) ycc ydr (nI N) yln yal ygl yst ybl yhw yrn ywk yA yDk yDw yK yW yPl yRl yRc (upd yHd N (nI h)) (upd yLf N xf) (upd yRg N xs) ySz yLi ySk ySt yAr yGv yF yEn yPc yBd yWk yWw yOw yCt yOz yOp yKn := by
      intro s2 y hy hs2
      refine ⟨hin, nm_r ?_ (nm_r (nI_1 N) hp)⟩
      rw [en, hz, hy, show (1 : Int32) + nI s1 = nI (1 + s1) from nI_add 1 s1, nI_add, hs1, hs2]
    by_cases z2 : ar h = 2
    · obtain ⟨_, _, _, _, a2, _⟩ := H r (hr z2)
      have hxs : xs = nI r := by rw [hs, if_pos z2]
      have hr' := hr z2
      rw [hxs] at fin ⊢
      refine br_t (nI_pos' (by omega)) ⟨vp_in_nI (by omega) (by decide), fin (dn r).length _ ?_ (by rw [if_pos z2])⟩
      rw [nI_clamp (by omega), a2]
    · have hxs : xs = -1 := by rw [hs, if_neg z2]
      rw [hxs] at fin ⊢
      exact br_f (by decide) (fin 0 0 rfl (by rw [if_neg z2]))
  by_cases z1 : 1 ≤ ar h
  · obtain ⟨_, _, _, _, a2, _⟩ := H l (hl z1)
    have hxf : xf = nI l := by rw [hf, if_pos z1]
    have hl' := hl z1
    rw [hxf] at second ⊢
    refine br_t (nI_pos' (by omega)) ⟨vp_in_nI (by omega) (by decide), second (dn l).length _ ?_ (by rw [if_pos z1])⟩
    rw [nI_clamp (by omega), a2]
  · have hxf : xf = -1 := by rw [hf, if_neg z1]
    rw [hxf] at second ⊢
    exact br_f (by decide) (second 0 0 rfl (by rw [if_neg z1]))
/-- the nodes of the argument -/
theorem y_bu {post : Int32 → SY → Prop} {ar W : Nat → Nat} {c m : Nat} (hc : c ≤ 6) (ha : ∀ i, ar i ≤ 2) (fS : fx_sub ar c m W yLi yEn)
    (hp : ∀ HD LF RG SZ ST dn, fy_H ar c m HD LF RG SZ dn → dn (m - 1) = fe_sl W 0 m → post (nI (m - 1)) (ycc, ydr, nI m, nI m, yal, ygl, yst, ybl, yhw, yrn, ywk, fo_n ar, yDk, yDw, yK, yW, yPl, yRl, yRc, HD, LF, RG, SZ, yLi, ySk, ST, yAr, yGv, yF, yEn, yPc, yBd, yWk, yWw, yOw, yCt, yOz, yOp, yKn)) :
    wpY_build post (ycc, ydr, 0, nI m, yal, ygl, yst, ybl, yhw, yrn, ywk, fo_n ar, yDk, yDw, yK, yW, yPl, yRl, yRc, yHd, yLf, yRg, ySz, yLi, ySk, ySt, yAr, yGv, yF, yEn, yPc, yBd, yWk, yWw, yOw, yCt, yOz, yOp, yKn) := by
  obtain ⟨hm, f, hS⟩ := fS
  have hm0 := f.1
  have loop : ∀ a HD LF RG SZ ST dn, a ≤ m → fy_H ar c (m - a) HD LF RG SZ dn → (∀ i, a ≤ i → i < m → ST i = nI (m - 1 - i) ∧ dn (m - 1 - i) = fv_sub ar W m i) →
      wY_build_7 post (a + 1) (nI a + (-1)) ycc ydr (nI (m - a)) (nI m) yal ygl yst ybl yhw yrn ywk (fo_n ar) yDk yDw yK yW yPl yRl yRc HD LF RG SZ yLi ySk ST yAr yGv yF yEn yPc yBd yWk yWw yOw yCt yOz yOp yKn := by
    intro a
    induction a with
    | zero =>
      intro HD LF RG SZ ST dn _ H h
      have h0 := h 0 (Nat.le_refl _) hm0
      refine br_t (by decide) ?_
      rw [h0.1]
      refine hp HD LF RG SZ ST dn H ?_
      rw [← fv_sub_0 f]; exact h0.2
    | succ p ih =>
      intro HD LF RG SZ ST dn hp' H h
      obtain ⟨s1, s2, s3⟩ := hS p (by omega)
      have e1 : (nI p).toNatClampNeg = p := nI_clamp (by omega)
      have h2 := ha (W p)
      have hin : vp_in (nI p) 40 := vp_in_nI (by omega) (by decide)
      have ep := fe_full_e f (show p < m by omega)
      rw [pk_m1]
      refine br_f (nI_pos (by omega)) ⟨hin, ?_⟩
      rw [e1, s2]
      refine ⟨vp_in_nI (by omega) (by decide), nm_r (e' := nI (ar (W p))) (by rw [nI_clamp (by omega)]; rfl) ⟨hin, ?_⟩⟩
      have len : (fv_sub ar W m p).length ≤ 40 := by rw [fv_sub_len]; omega
      -- the node itself
      have make : ∀ xf xs : Int32, ∀ l r : Nat, (xf = if 1 ≤ ar (W p) then nI l else -1) → (xs = if ar (W p) = 2 then nI r else -1) → (1 ≤ ar (W p) → l < m - (p + 1)) → (ar (W p) = 2 → r < m - (p + 1)) →
          (1 + (if 1 ≤ ar (W p) then (dn l).length else 0) + (if ar (W p) = 2 then (dn r).length else 0) = (fv_sub ar W m p).length) →
          ((ar (W p) = 0 ∧ fv_sub ar W m p = [W p]) ∨ (ar (W p) = 1 ∧ l < m - (p + 1) ∧ fv_sub ar W m p = W p :: dn l) ∨ (ar (W p) = 2 ∧ l < m - (p + 1) ∧ r < m - (p + 1) ∧ fv_sub ar W m p = W p :: (dn l ++ dn r))) →
          wY_build_68 post (wY_build_7 post (p + 1)) (nI p) xs xf (nI (W p)) ycc ydr (nI (m - (p + 1))) (nI m) yal ygl yst ybl yhw yrn ywk (fo_n ar) yDk yDw yK yW yPl yRl yRc HD LF RG SZ yLi ySk ST yAr yGv yF yEn yPc yBd yWk yWw yOw yCt yOz yOp yKn := by
        intro xf xs l r e2 e3 hl hr hsz hsh
        refine y_nd (ar := ar) (c := c) (dn := dn) (by omega) H h2 e2 e3 hl hr ?_
        rw [hsz]
        refine ⟨vp_in_nI (by omega) (by decide), nm_r (e' := upd ST p (nI (m - (p + 1)))) (by rw [e1]) (nm_e ?_)⟩
        have H' := fy_H_new H e2 e3 ⟨s1, len, hsh⟩
        rw [show m - (p + 1) + 1 = m - p by omega] at H' ⊢
        refine ih _ _ _ _ _ (fx_up dn (m - (p + 1)) (fv_sub ar W m p)) (by omega) H' (fun i hi1 hi2 => ?_)
        by_cases e : i = p
        · subst e
          rw [pk_us, show m - 1 - i = m - (i + 1) by omega, fx_up_s]
          exact ⟨rfl, rfl⟩
        · rw [pk_un e, fx_up_n (by omega)]
          exact h i (by omega) hi2
      by_cases z0 : ar (W p) = 0
      · have sh := fv_sub_s0 (ar := ar) (S := W) (m := m) (show p < m by omega) z0
        refine pk_le (ar (W p)) 0 (fun _ => ?_) (fun q => by omega)
        refine pk_le (ar (W p)) 1 (fun _ => make (-1) (-1) 0 0 (by rw [if_neg (by omega)]) (by rw [if_neg (by omega)]) (fun q => by omega) (fun q => by omega) ?_ (Or.inl ⟨z0, sh⟩)) (fun q => by omega)
        rw [if_neg (by omega), if_neg (by omega), sh]; rfl
      · by_cases z1 : ar (W p) = 1
        · obtain ⟨u1, u2⟩ := fv_sub_s1 f (show p < m by omega) z1
          obtain ⟨t1, t2⟩ := h (p + 1) (Nat.le_refl _) u1
          refine pk_le (ar (W p)) 0 (fun q => by omega) (fun _ => ⟨by rw [nI_1]; exact vp_in_nI (by omega) (by decide), ?_⟩)
          rw [nI_1, nI_clamp (by omega), t1]
          refine pk_le (ar (W p)) 1 (fun _ => make _ (-1) (m - 1 - (p + 1)) 0 (by rw [if_pos (by omega)]) (by rw [if_neg (by omega)]) (fun _ => by omega) (fun q => by omega) ?_ (Or.inr (Or.inl ⟨z1, by omega, by rw [t2]; exact u2⟩))) (fun q => by omega)
          rw [if_pos (by omega), if_neg (by omega), t2, u2, List.length_cons]; omega
        · have z2 : ar (W p) = 2 := by omega
          obtain ⟨u1, u2, u3, u4⟩ := fv_sub_s2 f (show p < m by omega) z2
          obtain ⟨t1, t2⟩ := h (p + 1) (Nat.le_refl _) u1
          obtain ⟨v1, v2⟩ := h (fe_pe (fm_v ar W) m (p + 1)) (by omega) u3
          refine pk_le (ar (W p)) 0 (fun q => by omega) (fun _ => ⟨by rw [nI_1]; exact vp_in_nI (by omega) (by decide), ?_⟩)
          rw [nI_1, nI_clamp (by omega), t1]
          refine pk_le (ar (W p)) 1 (fun q => by omega) (fun _ => ⟨by rw [nI_1]; exact vp_in_nI (by omega) (by decide), ?_⟩)
          rw [nI_1, nI_clamp (by omega), (hS (p + 1) u1).2.2]
          refine ⟨vp_in_nI (by omega) (by decide), ?_⟩
          rw [nI_clamp (by omega), v1]
          refine make _ _ (m - 1 - (p + 1)) (m - 1 - fe_pe (fm_v ar W) m (p + 1)) (by rw [if_pos (by omega)]) (by rw [if_pos z2]) (fun _ => by omega) (fun _ => by omega) ?_ (Or.inr (Or.inr ⟨z2, by omega, by omega, by rw [t2, v2]; exact u4⟩))
          rw [if_pos (by omega), if_pos z2, t2, v2, u4, List.length_cons, List.length_append]; omega
  refine nm_r (e' := nI m + (-1)) (Int32.sub_eq_add_neg _ _) ⟨m + 1, ?_⟩
  have := loop m yHd yLf yRg ySz ySt (fun _ => []) (Nat.le_refl _) (fun n hn => by omega) (fun i h1 h2 => by omega)
  rw [Nat.sub_self] at this
  exact this
/-- a value is spelled -/
theorem y_sp {post : SY → Prop} {ar : Nat → Nat} {c N root : Nat} {dn : Nat → List Nat} (hc : c ≤ 6) (ha : ∀ i, ar i ≤ 2) (H : fy_H ar c N yHd yLf yRg ySz dn) (hN : N ≤ 1300) (hr : root < N)
    (hp : ∀ LI SK ST, (∀ i, i < (dn root).length → fv_g (dn root) i < c ∧ LI i = nI (fv_g (dn root) i)) → fx_SN ar N dn (dn root) (dn root).length ST → post (ycc, ydr, ynd, nI (dn root).length, yal, ygl, yst, ybl, yhw, yrn, ywk, yA, yDk, yDw, yK, yW, yPl, yRl, yRc, yHd, yLf, yRg, ySz, LI, SK, ST, yAr, yGv, yF, yEn, yPc, yBd, yWk, yWw, yOw, yCt, yOz, yOp, yKn)) :
    wpY_spell post (ycc, ydr, ynd, yln, yal, ygl, yst, ybl, yhw, yrn, ywk, yA, yDk, yDw, yK, yW, yPl, yRl, yRc, yHd, yLf, yRg, ySz, yLi, ySk, ySt, yAr, yGv, yF, yEn, yPc, yBd, yWk, yWw, yOw, yCt, yOz, yOp, yKn) (nI root) := by
  have HH := fy_HH H
  have h40 := fv_Hpos HH hr
  generalize hLL : dn root = L at *
  have loop : ∀ d p ns LI SK ST, p + d = L.length → (∀ q, q ∈ ns → q < N) → L.drop p = fv_cc dn ns → fy_stk SK ns →
      (∀ i, i < p → fv_g L i < c ∧ LI i = nI (fv_g L i)) → fx_SN ar N dn L p ST →
      wY_spell_17 post ycc ydr ynd yal ygl yst ybl yhw yrn ywk (d + 1) (nI ns.length) (nI p) yA yDk yDw yK yW yPl yRl yRc yHd yLf yRg ySz LI SK ST yAr yGv yF yEn yPc yBd yWk yWw yOw yCt yOz yOp yKn := by
    intro d
    induction d with
    | zero =>
      intro p ns LI SK ST hpd hns hd hst h1 h2
      have e : p = L.length := by omega
      subst e
      cases ns with
      | nil => exact br_t (by decide) (hp LI SK ST h1 h2)
      | cons n ns =>
        have a := fv_cc_len HH (n :: ns) hns
        rw [← hd, List.length_drop, List.length_cons] at a
        omega
    | succ d ih =>
      intro p ns LI SK ST hpd hns hd hst h1 h2
      have lcc := fv_cc_len HH ns hns
      rw [← hd, List.length_drop] at lcc
      cases ns with
      | nil =>
        have := congrArg List.length hd
        rw [List.length_drop] at this
        have e0 : (fv_cc dn []).length = 0 := rfl
        omega
      | cons n ns =>
        have hn : n < N := hns n (List.mem_cons_self ..)
        have hns' : ∀ q, q ∈ ns → q < N := fun q hq => hns q (List.mem_cons_of_mem _ hq)
        obtain ⟨h, l, r, a1, a2, a3, a4, a5⟩ := H n hn
        obtain ⟨q1, q2, q3⟩ := fv_at HH (W := L) (p := p) (tl := fv_cc dn ns) hn hd
        obtain ⟨b1, b2, b3⟩ := a5
        have har := ha h
        rw [List.length_cons] at lcc ⊢
        have hg : fv_g L p = h := by
          rcases b3 with ⟨_, e⟩ | ⟨_, _, e⟩ | ⟨_, _, _, e⟩
          · rw [show fv_cc dn (n :: ns) = dn n ++ fv_cc dn ns from rfl, e] at hd; exact (fv_head hd).1
          · rw [show fv_cc dn (n :: ns) = dn n ++ fv_cc dn ns from rfl, e] at hd; exact (fv_head hd).1
          · rw [show fv_cc dn (n :: ns) = dn n ++ fv_cc dn ns from rfl, e] at hd; exact (fv_head hd).1
        have hL' : ∀ i, i < p + 1 → fv_g L i < c ∧ upd LI p (nI h) i = nI (fv_g L i) := by
          intro i hi
          by_cases e : i = p
          · subst e; rw [pk_us, hg]; exact ⟨b1, rfl⟩
          · rw [pk_un e]; exact h1 i (by omega)
        have hST' : fx_SN ar N dn L (p + 1) (upd ST p (nI n)) := by
          intro i hi
          by_cases e : i = p
          · subst e; rw [pk_us]; exact ⟨n, rfl, hn, q2.symm⟩
          · rw [pk_un e]; exact h2 i (by omega)
        have en : (nI n).toNatClampNeg = n := nI_clamp (by omega)
        have ep : (nI p).toNatClampNeg = p := nI_clamp (by omega)
        have hin : vp_in (nI n) 1300 := vp_in_nI (by omega) (by decide)
        refine br_f (nI_nle (by omega) (by omega)) (nm_r (pk_m1 _) ⟨vp_in_nI (by omega) (by decide), nm_r (e' := nI n) (by rw [nI_clamp (by omega)]; exact hst.1) ⟨vp_in_nI (by omega) (by decide), nm_r (e' := upd ST p (nI n)) (by rw [ep]) (nm_r (nI_1 p) ⟨hin, vp_in_nI (by omega) (by decide), nm_r (e' := upd LI p (nI h)) (by rw [ep, en, a1]) ⟨hin, ?_⟩⟩)⟩⟩)
        rw [en, a4]
        -- the left one, then on
        have left : ∀ ns' SK', ns'.length ≤ ns.length + 1 → (∀ q, q ∈ ns' → q < N) → fy_stk SK' ns' → (1 ≤ ar h → l < N) → L.drop (p + 1) = fv_cc dn ((if 1 ≤ ar h then [l] else []) ++ ns') →
            wY_spell_87 post (wY_spell_17 post ycc ydr ynd yal ygl yst ybl yhw yrn ywk (d + 1)) (nI ns'.length) (nI n) ycc ydr ynd (nI (p + 1)) yal ygl yst ybl yhw yrn ywk yA yDk yDw yK yW yPl yRl yRc yHd yLf yRg ySz (upd LI p (nI h)) SK' (upd ST p (nI n)) yAr yGv yF yEn yPc yBd yWk yWw yOw yCt yOz yOp yKn := by
          intro ns' SK' hlen hq hs' hl hdrop
          refine ⟨hin, ?_⟩
          rw [en, a3]
          by_cases z1 : 1 ≤ ar h
          · rw [if_pos z1] at hdrop ⊢
            have hl' := hl z1
            refine br_f (nI_pos (by omega)) (nm_r (nI_1 _) ⟨hin, vp_in_nI (by omega) (by decide), nm_r (e' := upd SK' ns'.length (nI l)) (by rw [nI_clamp (by omega)]) ?_⟩)
            refine ih (p + 1) (l :: ns') _ _ _ (by omega) (fun q g => ?_) hdrop ⟨pk_us, fy_stk_u ns' _ (Nat.le_refl _) hs'⟩ hL' hST'
            rcases List.mem_cons.mp g with g | g
            · omega
            · exact hq q g
          · rw [if_neg z1] at hdrop ⊢
            exact br_t (by decide) (ih (p + 1) ns' _ _ _ (by omega) hq hdrop hs' hL' hST')
        rcases b3 with ⟨e0, e⟩ | ⟨e0, hl, e⟩ | ⟨e0, hl, hr', e⟩
        · rw [if_neg (by omega)]
          refine br_t (by decide) (left ns SK (by omega) hns' hst.2 (fun g => by omega) ?_)
          rw [show fv_cc dn (n :: ns) = dn n ++ fv_cc dn ns from rfl, e] at hd
          rw [if_neg (by omega)]
          exact (fv_head hd).2.1
        · rw [if_neg (by omega)]
          refine br_t (by decide) (left ns SK (by omega) hns' hst.2 (fun _ => hl) ?_)
          rw [show fv_cc dn (n :: ns) = dn n ++ fv_cc dn ns from rfl, e] at hd
          rw [if_pos (by omega)]
          exact (fv_head hd).2.1
        · rw [if_pos e0]
          refine br_f (nI_pos (by omega)) (nm_r (nI_1 _) ⟨hin, vp_in_nI (by omega) (by decide), nm_r (e' := upd SK ns.length (nI r)) (by rw [nI_clamp (by omega)]) (left (r :: ns) _ (Nat.le_refl _) (fun q g => ?_) ⟨pk_us, fy_stk_u ns _ (Nat.le_refl _) hst.2⟩ (fun _ => hl) ?_)⟩)
          · rcases List.mem_cons.mp g with g | g
            · omega
            · exact hns' q g
          · rw [if_pos (by omega)]
            rw [show fv_cc dn (n :: ns) = dn n ++ fv_cc dn ns from rfl, e, show (h :: (dn l ++ dn r)) ++ fv_cc dn ns = h :: ((dn l ++ dn r) ++ fv_cc dn ns) from rfl] at hd
            rw [(fv_head hd).2.1, List.append_assoc]
            rfl
  refine nm_r (e' := nI 1) (by decide) (nm_r (e' := upd ySk 0 (nI root)) rfl ⟨L.length + 1, ?_⟩)
  refine loop L.length 0 [root] yLi _ ySt (by omega) (fun q hq => ?_) ?_ ⟨pk_us, trivial⟩ (fun i hi => by omega) (fun i hi => by omega)
  · rcases List.mem_cons.mp hq with g | g
    · omega
    · cases g
  · show L.drop 0 = dn root ++ []
    rw [List.drop_zero, List.append_nil, hLL]
end
end
section
/-- where the places stand -/
def fy_PL (pe E : Nat → Nat) (PC : Nat → Int32) : Nat → Nat → Nat → Prop
  | 0, _, _ => True
  | k + 1, i, p => PC i = nI p ∧ fy_PL pe E PC k (pe i) (E p)
theorem fy_PL_c {fit : Nat → Nat → Bool} {pe E : Nat → Nat} {PC PC' : Nat → Int32} {n m : Nat} (hpe : ∀ i, i < n → i < pe i) : ∀ k i p, (∀ q, i ≤ q → PC' q = PC q) →
    fb_CH fit pe E n m k i p → fy_PL pe E PC k i p → fy_PL pe E PC' k i p := by
  intro k
  induction k with
  | zero => intro i p _ _ h; trivial
  | succ k ih =>
    intro i p h hc hp
    obtain ⟨a, b, c, d⟩ := hc
    have := hpe i a
    exact ⟨by rw [h i (Nat.le_refl _)]; exact hp.1, ih _ _ (fun q hq => h q (by omega)) d hp.2⟩
theorem fo_by {i come gone : Nat} (h : gone ≤ i + come) : nI i + (nI come - nI gone) = nI (i + come - gone) := by
  rw [← pk_sub h, ← nI_add i come]
  generalize nI i = a
  generalize nI come = b
  generalize nI gone = d
  grind
theorem fo_cle {come gone : Nat} (h1 : come < 2 ^ 30) (h2 : gone < 2 ^ 30) (h : come ≤ gone) : nI come - nI gone ≤ 0 := by
  rw [Int32.le_iff_toInt_le, pk_sub_toInt h1 h2, show (0 : Int32).toInt = 0 from by decide]
  omega
section
variable {ycc ydr ynd yln yal ygl yst ybl yhw yrn ywk : Int32} {yA yDk yDw yK yW yPl yRl yRc yHd yLf yRg ySz yLi ySk ySt yAr yGv yF yEn yPc yBd yWk yWw yOw yCt yOz yOp yKn : Nat → Int32}
theorem y_bi {post : SY → Prop} {ar S T pl : Nat → Nat} {c m n r : Nat} (hc : c ≤ 6) (ha : ∀ i, ar i ≤ 2) (hr : r < 20) (hpl : pl r = n)
    (hS : fx_sub ar c m S yLi yEn) (hP : fy_pat ar c yK yW T n r) (hm : fm_F ar T n S m 0 0 = true)
    (hp : ∀ PC BD, (∀ v q, v < 4 → fb_w T (fe_pe (fm_o ar T) n) (fe_pe (fm_v ar S) m) n 12 0 0 (fun _ => none) v = some q → BD v = ySt q) → post (ycc, ydr, ynd, yln, yal, ygl, yst, ybl, yhw, yrn, ywk, fo_n ar, yDk, yDw, yK, yW, fo_n pl, yRl, yRc, yHd, yLf, yRg, ySz, yLi, ySk, ySt, yAr, yGv, yF, yEn, PC, BD, yWk, yWw, yOw, yCt, yOz, yOp, yKn)) :
    wpY_bind post (ycc, ydr, ynd, yln, yal, ygl, yst, ybl, yhw, yrn, ywk, fo_n ar, yDk, yDw, yK, yW, fo_n pl, yRl, yRc, yHd, yLf, yRg, ySz, yLi, ySk, ySt, yAr, yGv, yF, yEn, yPc, yBd, yWk, yWw, yOw, yCt, yOz, yOp, yKn) (nI r) := by
  obtain ⟨s1, s2, s3⟩ := hS
  have hP' := hP
  obtain ⟨p1, p2, p3⟩ := hP
  have hpe : ∀ i, i < n → i < fe_pe (fm_o ar T) n i := fun i hi => (fe_full_e p2 hi).1
  have loop : ∀ g i p k b PC BD, n ≤ i + g → i ≤ 12 → fb_CH (fm_F ar T n S m) (fe_pe (fm_o ar T) n) (fe_pe (fm_v ar S) m) n m k i p → fy_PL (fe_pe (fm_o ar T) n) (fe_pe (fm_v ar S) m) PC k i p →
      fb_w T (fe_pe (fm_o ar T) n) (fe_pe (fm_v ar S) m) n g i p b = fb_w T (fe_pe (fm_o ar T) n) (fe_pe (fm_v ar S) m) n 12 0 0 (fun _ => none) →
      (∀ v q, v < 4 → b v = some q → BD v = ySt q) →
      wY_bind_14 post (nI r) (nI (24 * r)) ycc ydr ynd yln yal ygl yst ybl yhw yrn ywk (g + 1) (nI i) (fo_n ar) yDk yDw yK yW (fo_n pl) yRl yRc yHd yLf yRg ySz yLi ySk ySt yAr yGv yF yEn PC BD yWk yWw yOw yCt yOz yOp yKn := by
    intro g
    induction g with
    | zero =>
      intro i p k b PC BD hg hi12 hch _ hw hb
      refine ⟨vp_in_nI hr (by decide), br_t ?_ (hp PC BD (fun v q hv hq => ?_))⟩
      · rw [nI_clamp (by omega)]
        show nI (pl r) ≤ nI i
        rw [hpl]; exact nI_le (by omega) (by omega)
      · rw [← hw] at hq; exact hb v q hv hq
    | succ g ih =>
      intro i p k b PC BD hg hi12 hch hPL hw hb
      refine ⟨vp_in_nI hr (by decide), ?_⟩
      rw [nI_clamp (by omega)]
      show (nI (pl r) ≤ nI i → _) ∧ (¬ nI (pl r) ≤ nI i → _)
      rw [hpl]
      refine pk_le n i (fun z => hp PC BD (fun v q hv hq => ?_)) (fun z => ?_)
      · rw [← hw, fb_w_out (by omega)] at hq; exact hb v q hv hq
      · cases k with
        | zero => have : i = n := hch
                  omega
        | succ k =>
          obtain ⟨c1, c2, c3, c4⟩ := id hch
          obtain ⟨t1, t2, t3, t4⟩ := p3 i z
          have h48 := fo_tk_le t1
          have ei := fe_full_e p2 z
          have ein : nI (24 * r) + nI i = nI (24 * r + i) := nI_add _ _
          have vin : vp_in (nI (24 * r) + nI i) 480 := by rw [ein]; exact vp_in_nI (by omega) (by decide)
          have eci : (nI (24 * r) + nI i).toNatClampNeg = 24 * r + i := by rw [ein]; exact nI_clamp (by omega)
          have v12 : vp_in (nI i) 12 := vp_in_nI (by omega) (by decide)
          have e_i : (nI i).toNatClampNeg = i := nI_clamp (by omega)
          refine ⟨vin, nm_r (e' := nI (T i / 8)) (by rw [eci, t3]) ?_⟩
          -- one that is no constructor: on to its end
          have plain : ∀ BD' b', T i / 8 ≠ 2 → fb_w T (fe_pe (fm_o ar T) n) (fe_pe (fm_v ar S) m) n g (fe_pe (fm_o ar T) n i) (fe_pe (fm_v ar S) m p) b' = fb_w T (fe_pe (fm_o ar T) n) (fe_pe (fm_v ar S) m) n 12 0 0 (fun _ => none) →
              (∀ v q, v < 4 → b' v = some q → BD' v = ySt q) →
              wY_bind_64 post (wY_bind_14 post (nI r) (nI (24 * r)) ycc ydr ynd yln yal ygl yst ybl yhw yrn ywk (g + 1)) (nI r) (nI (24 * r)) (nI i) (nI (T i / 8)) ycc ydr ynd yln yal ygl yst ybl yhw yrn ywk (fo_n ar) yDk yDw yK yW (fo_n pl) yRl yRc yHd yLf yRg ySz yLi ySk ySt yAr yGv yF yEn PC BD' yWk yWw yOw yCt yOz yOp yKn := by
            intro BD' b' k2 h1 h2
            have n2 : ¬ nI (T i / 8) = 2 := fun w => k2 ((nI_eq (b := 2) (by omega) (by decide)).mp w)
            have next := ih (fe_pe (fm_o ar T) n i) (fe_pe (fm_v ar S) m p) k b' PC BD' (by omega) (by omega) c4 hPL.2 h1 h2
            have skip : (T i / 8 = 3 ∨ T i / 8 = 4) → wY_bind_76 post (wY_bind_14 post (nI r) (nI (24 * r)) ycc ydr ynd yln yal ygl yst ybl yhw yrn ywk (g + 1)) (nI r) (nI (24 * r)) (nI i) (nI (T i / 8)) ycc ydr ynd yln yal ygl yst ybl yhw yrn ywk (fo_n ar) yDk yDw yK yW (fo_n pl) yRl yRc yHd yLf yRg ySz yLi ySk ySt yAr yGv yF yEn PC BD' yWk yWw yOw yCt yOz yOp yKn := by
              intro _
              unfold wY_bind_76
              rw [ein]
              refine y_pe (T := T) hc ha hr hP' z (nm_r (e' := nI (fe_pe (fm_o ar T) n i - 1)) ?_ (br_f n2 (nm_r (e' := nI (fe_pe (fm_o ar T) n i)) ?_ next)))
              · rw [pk_sub (by omega), fo_s1 (by omega)]
                exact congrArg nI (by omega)
              · rw [nI_1]; exact congrArg nI (by omega)
            refine pk_eq (T i / 8) 3 (fun k3 => skip (Or.inl k3)) (fun k3 => pk_eq (T i / 8) 4 (fun k4 => skip (Or.inr k4)) (fun k4 => br_f n2 (nm_r (e' := nI (fe_pe (fm_o ar T) n i)) ?_ next)))
            rw [nI_1, fe_pe_c0 (fm_o ar T) z (fo_op01 (by omega))]
          refine pk_eq (T i / 8) 1 (fun k1 => ⟨vin, v12, ?_⟩) (fun k1 => ?_)
          · have v4 := fp_v4 t1 k1
            rw [e_i, hPL.1, eci, t4 (Or.inl k1)]
            refine ⟨vp_in_nI (by omega) (by decide), vp_in_nI v4 (by decide), nm_r (e' := upd BD (T i % 8) (ySt p)) (by rw [nI_clamp (by omega), nI_clamp (by omega)]) (plain _ (fun v => if v = T i % 8 then some p else b v) (by omega) ?_ ?_)⟩
            · rw [← hw, fb_w_var z k1]
            · intro v q hv hq
              by_cases e : v = T i % 8
              · rw [if_pos e] at hq
                have : p = q := Option.some.inj hq
                rw [e, pk_us, this]
              · rw [if_neg e] at hq
                rw [pk_un e]; exact hb v q hv hq
          · by_cases k2 : T i / 8 = 2
            · obtain ⟨q1, q2, q3, q4⟩ := fb_con p2 s2 ha hch k2
              have h2 := ha (T i % 8)
              have t1' := t1
              unfold fo_tk at t1'
              have vc : T i % 8 < c := by omega
              have n3 : ¬ nI (T i / 8) = 3 := fun w => by have := (nI_eq (b := 3) (by omega) (by decide)).mp w; omega
              have n4 : ¬ nI (T i / 8) = 4 := fun w => by have := (nI_eq (b := 4) (by omega) (by decide)).mp w; omega
              have next := fun PC' hpl' => ih (i + 1) (p + 1) (ar (T i % 8) + k) b PC' BD (by omega) (by omega) q2 hpl' (by rw [← hw, fb_w_con z k2]) hb
              have epv := fe_full_e s2 c2
              have eo : fm_o ar T i = ar (T i % 8) := fo_op2 k2
              have ev : fm_v ar S p = ar (T i % 8) := by show ar (S p) = _; rw [q1]
              refine br_f n3 (br_f n4 (br_t (congrArg nI k2) ⟨vin, ?_⟩))
              rw [eci, t4 (Or.inr k2)]
              refine ⟨vp_in_nI (by omega) (by decide), nm_r (e' := nI (ar (T i % 8))) (by rw [nI_clamp (by omega)]; rfl) ?_⟩
              by_cases z0 : ar (T i % 8) = 0
              · refine pk_le (ar (T i % 8)) 0 (fun _ => pk_le (ar (T i % 8)) 1 (fun _ => nm_r (nI_1 i) (next PC ?_)) (fun q => by omega)) (fun q => by omega)
                have := hPL.2
                rw [fe_pe_c0 _ z (eo.trans z0), fe_pe_c0 _ c2 (ev.trans z0)] at this
                rw [z0, Nat.zero_add]; exact this
              · obtain ⟨i1, m1⟩ := q3 (by omega)
                refine pk_le (ar (T i % 8)) 0 (fun q => by omega) (fun _ => ⟨v12, by rw [nI_1]; exact vp_in_nI (by omega) (by decide), nm_r (e' := upd PC (i + 1) (nI (p + 1))) (by rw [nI_1, nI_clamp (by omega), e_i, hPL.1, nI_1]) ?_⟩)
                by_cases z1 : ar (T i % 8) = 1
                · refine pk_le (ar (T i % 8)) 1 (fun _ => nm_r (nI_1 i) (next _ ?_)) (fun q => by omega)
                  obtain ⟨_, d1⟩ := fe_pe_c1 _ z ei.2 p2.2.1 (eo.trans z1)
                  obtain ⟨_, d2⟩ := fe_pe_c1 _ c2 epv.2 s2.2.1 (ev.trans z1)
                  have i2 := fe_full_e p2 i1
                  have tl := hPL.2
                  rw [d1, d2] at tl c4
                  rw [z1, show 1 + k = k + 1 by omega]
                  exact ⟨pk_us, fy_PL_c hpe k _ _ (fun q hq => pk_un (by omega)) c4 tl⟩
                · have z2 : ar (T i % 8) = 2 := by omega
                  obtain ⟨d0, d1, d2, d3, d4⟩ := fe_pe_c2 _ z ei.2 p2.2.1 (eo.trans z2)
                  obtain ⟨g0, g1, g2, g3, g4⟩ := fe_pe_c2 _ c2 epv.2 s2.2.1 (ev.trans z2)
                  refine pk_le (ar (T i % 8)) 1 (fun q => by omega) (fun _ => ?_)
                  rw [ein, nI_1 (24 * r + i)]
                  refine y_pe (T := T) hc ha hr hP' (i := i + 1) i1 ?_
                  refine ⟨v12, ?_⟩
                  rw [e_i, pk_un (show i ≠ i + 1 by omega), hPL.1, nI_1 p, pk_sub (by omega)]
                  rw [show 24 * r + fe_pe (fm_o ar T) n (i + 1) - 24 * r = fe_pe (fm_o ar T) n (i + 1) by omega]
                  refine ⟨vp_in_nI (by omega) (by decide), vp_in_nI (by omega) (by decide), nm_r (e' := upd (upd PC (i + 1) (nI (p + 1))) (fe_pe (fm_o ar T) n (i + 1)) (nI (fe_pe (fm_v ar S) m (p + 1)))) ?_ (nm_r (nI_1 i) (next _ ?_))⟩
                  · rw [nI_clamp (by omega), nI_clamp (by omega), (s3 (p + 1) m1).2.2]
                  · have tl := hPL.2
                    rw [d3, g3] at tl c4
                    have i3 := fe_full_e p2 d2
                    rw [z2, show 2 + k = (k + 1) + 1 by omega]
                    exact ⟨by rw [pk_un (by omega), pk_us], pk_us, fy_PL_c hpe k _ _ (fun q hq => by rw [pk_un (by omega), pk_un (by omega)]) c4 tl⟩
            · exact plain BD b k2 (by rw [← hw, fb_w_oth z k2 k1]) hb
  refine nm_r (fo_24m r) (nm_e ⟨13, loop 12 0 0 1 (fun _ => none) _ yBd (by omega) (by omega) ⟨p2.1, s2.1, hm, p2.2.2⟩ ⟨pk_us, trivial⟩ rfl (fun v q _ h => by cases h)⟩)
/-- is a token ready -/
theorem y_rd46 {post J : Int32 → Prop} {i a : Nat} (ha : a ≤ 2) (hi : i < 1290) (h0 : (¬ ∀ j, j < a → yWk (i + 1 + j) = 6) → J (nI (i + 1))) (h1 : (∀ j, j < a → yWk (i + 1 + j) = 6) → post (nI i)) :
    ∀ d k b, k + d = a + 1 → 1 ≤ k → (b = true ↔ ∀ j, j + 1 < k → yWk (i + 1 + j) = 6) → wY_ready_46 post J (nI i) (nI a) ycc ydr ynd yln yal ygl yst ybl yhw yrn ywk yA yDk yDw yK yW yPl yRl yRc yHd yLf yRg ySz yLi ySk ySt yAr yGv yF yEn yPc yBd yWk yWw yOw yCt yOz yOp yKn (d + 1) (fo_b b) (nI k) := by
  intro d
  induction d with
  | zero =>
    intro k b hk _ hb
    have e : k = a + 1 := by omega
    subst e
    refine br_t (nI_lt (by omega) (by omega)) (fo_br (fun z => nm_r (nI_1 i) (h0 (fun g => ?_))) (fun z => h1 (fun j hj => hb.mp z j (by omega))))
    have := hb.mpr (fun j hj => g j (by omega))
    rw [z] at this; cases this
  | succ d ih =>
    intro k b hk h1k hb
    refine br_f (nI_nlt (by omega) (by omega)) (fo_br (fun z => nm_r (nI_1 k) (ih (k + 1) false (by omega) (by omega) ?_)) (fun z => ?_))
    · constructor
      · intro q; cases q
      · intro q
        have := hb.mpr (fun j hj => q j (by omega))
        rw [z] at this; exact this
    · rw [nI_add]
      refine ⟨vp_in_nI (by omega) (by decide), ?_⟩
      rw [nI_clamp (by omega)]
      refine br_c (fun w => nm_r (nI_1 k) (ih (k + 1) true (by omega) (by omega) ?_)) (fun w => nm_r (nI_1 k) (ih (k + 1) false (by omega) (by omega) ?_))
      · refine ⟨fun _ j hj => ?_, fun _ => rfl⟩
        by_cases e : j + 1 = k
        · rw [show i + 1 + j = i + k by omega]; exact w
        · exact hb.mp z j (by omega)
      · constructor
        · intro q; cases q
        · intro q
          refine absurd ?_ w
          have := q (k - 1) (by omega)
          rw [show i + 1 + (k - 1) = i + k by omega] at this
          exact this
theorem y_rd {post : Int32 → Prop} {ar : Nat → Nat} {c N w : Nat} {dn : Nat → List Nat} (hc : c ≤ 6) (ha : ∀ i, ar i ≤ 2) (hw : w ≤ 1290) (hN : N < 2 ^ 31) (W : fy_W c N w yWk yWw yOw)
    (h1 : ∀ q, fy_rdy ar (fy_tok dn yWk yWw yOw) w q → post (nI q)) (h0 : (∀ q, ¬ fy_rdy ar (fy_tok dn yWk yWw yOw) w q) → (∀ i, i < w → fg_V (fy_tok dn yWk yWw yOw i)) → post (-1))
    (hx : (∃ q, fy_rdy ar (fy_tok dn yWk yWw yOw) w q) ∨ ∀ i, i < w → fg_V (fy_tok dn yWk yWw yOw i)) : wpY_ready post (ycc, ydr, ynd, yln, yal, ygl, yst, ybl, yhw, yrn, nI w, fo_n ar, yDk, yDw, yK, yW, yPl, yRl, yRc, yHd, yLf, yRg, ySz, yLi, ySk, ySt, yAr, yGv, yF, yEn, yPc, yBd, yWk, yWw, yOw, yCt, yOz, yOp, yKn) := by
  have step : ∀ (J : Int32 → Prop) i, i < w → ¬ fg_V (fy_tok dn yWk yWw yOw i) → ((¬ ∀ j, j < fg_k ar (fy_tok dn yWk yWw yOw i) → fg_V (fy_tok dn yWk yWw yOw (i + 1 + j))) → J (nI (i + 1))) →
      ((∀ j, j < fg_k ar (fy_tok dn yWk yWw yOw i) → fg_V (fy_tok dn yWk yWw yOw (i + 1 + j))) → post (nI i)) →
      wpY_operands (fun r_6 => ∃ n46 : Nat, wY_ready_46 post J (nI i) r_6 ycc ydr ynd yln yal ygl yst ybl yhw yrn (nI w) (fo_n ar) yDk yDw yK yW yPl yRl yRc yHd yLf yRg ySz yLi ySk ySt yAr yGv yF yEn yPc yBd yWk yWw yOw yCt yOz yOp yKn n46 1 1) (ycc, ydr, ynd, yln, yal, ygl, yst, ybl, yhw, yrn, nI w, fo_n ar, yDk, yDw, yK, yW, yPl, yRl, yRc, yHd, yLf, yRg, ySz, yLi, ySk, ySt, yAr, yGv, yF, yEn, yPc, yBd, yWk, yWw, yOw, yCt, yOz, yOp, yKn) (yWk i) (yWw i) := by
    intro J i hi hv hj hpost
    rcases W i hi with ⟨a, _⟩ | ⟨k', v', o', a, b, d, e, f⟩
    · exact absurd (fy_tok_V.mpr a) hv
    · have etok : fy_tok dn yWk yWw yOw i = Sum.inr (k', v', o') := fy_tok_t a b d (by omega) (by omega) (by omega)
      rw [etok] at hj hpost
      have go : ∀ x : Nat, x = fg_k ar (Sum.inr (k', v', o')) → x ≤ 2 → ∃ n46 : Nat, wY_ready_46 post J (nI i) (nI x) ycc ydr ynd yln yal ygl yst ybl yhw yrn (nI w) (fo_n ar) yDk yDw yK yW yPl yRl yRc yHd yLf yRg ySz yLi ySk ySt yAr yGv yF yEn yPc yBd yWk yWw yOw yCt yOz yOp yKn n46 1 1 := by
        intro x hx2 hx3
        refine ⟨x + 1, y_rd46 hx3 (by omega) (fun g => hj (fun g2 => g (fun j hj2 => ?_))) (fun g => hpost (fun j hj2 => fy_tok_V.mpr (g j (by omega)))) x 1 true (by omega) (by omega) ⟨fun _ j hj2 => by omega, fun _ => rfl⟩⟩
        exact fy_tok_V.mp (g2 j (by omega))
      rw [a, b]
      rcases e with ⟨e1, e2⟩ | ⟨e1, e2⟩
      · subst e1
        refine br_t rfl ⟨vp_in_nI (by omega) (by decide), ?_⟩
        rw [nI_clamp (by omega)]
        exact go (ar v') rfl (ha v')
      · subst e1
        exact br_f (by decide) (br_f (by decide) (br_f (by decide) (br_t rfl (go 1 rfl (by omega)))))
  rcases hx with ⟨q, hq⟩ | hall
  · obtain ⟨q1, q2, q3, q4, q5⟩ := id hq
    have loop : ∀ d i, i + d = q → wY_ready_2 post ycc ydr ynd yln yal ygl yst ybl yhw yrn (nI w) (fo_n ar) yDk yDw yK yW yPl yRl yRc yHd yLf yRg ySz yLi ySk ySt yAr yGv yF yEn yPc yBd yWk yWw yOw yCt yOz yOp yKn (d + 1) (nI i) := by
      intro d
      induction d with
      | zero =>
        intro i hi
        have e : i = q := by omega
        subst e
        refine br_f (nI_ge (by omega) (by omega)) ⟨vp_in_nI (by omega) (by decide), ?_⟩
        rw [nI_clamp (by omega)]
        exact br_f (fun z => q2 (fy_tok_V.mpr z)) ⟨vp_in_nI (by omega) (by decide), vp_in_nI (by omega) (by decide), step _ i (by omega) q2 (fun g => absurd q4 g) (fun _ => h1 i hq)⟩
      | succ d ih =>
        intro i hi
        refine br_f (nI_ge (by omega) (by omega)) ⟨vp_in_nI (by omega) (by decide), ?_⟩
        rw [nI_clamp (by omega)]
        refine br_c (fun z => nm_r (nI_1 i) (ih (i + 1) (by omega))) (fun z => ⟨vp_in_nI (by omega) (by decide), vp_in_nI (by omega) (by decide), step _ i (by omega) (fun g => z (fy_tok_V.mp g)) (fun _ => ih (i + 1) (by omega)) (fun g => ?_)⟩)
        rcases q5 i (by omega) with g2 | ⟨j, g2, g3⟩
        · exact absurd (fy_tok_V.mp g2) z
        · exact absurd (g j g2) g3
    exact ⟨q + 1, loop q 0 (by omega)⟩
  · have none : ∀ q, ¬ fy_rdy ar (fy_tok dn yWk yWw yOw) w q := fun q h => h.2.1 (hall q h.1)
    have loop : ∀ d i, i + d = w → wY_ready_2 post ycc ydr ynd yln yal ygl yst ybl yhw yrn (nI w) (fo_n ar) yDk yDw yK yW yPl yRl yRc yHd yLf yRg ySz yLi ySk ySt yAr yGv yF yEn yPc yBd yWk yWw yOw yCt yOz yOp yKn (d + 1) (nI i) := by
      intro d
      induction d with
      | zero => intro i hi; exact br_t (nI_le (by omega) (by omega)) (h0 none hall)
      | succ d ih =>
        intro i hi
        refine br_f (nI_ge (by omega) (by omega)) ⟨vp_in_nI (by omega) (by decide), ?_⟩
        rw [nI_clamp (by omega)]
        exact br_t (fy_tok_V.mp (hall i (by omega))) (nm_r (nI_1 i) (ih (i + 1) (by omega)))
    exact ⟨w + 1, loop w 0 (by omega)⟩
theorem y_sh {post : SY → Prop} {a b : Nat} (h1 : a < 1300) (h2 : b < 1300) (hp : post (ycc, ydr, ynd, yln, yal, ygl, yst, ybl, yhw, yrn, ywk, yA, yDk, yDw, yK, yW, yPl, yRl, yRc, yHd, yLf, yRg, ySz, yLi, ySk, ySt, yAr, yGv, yF, yEn, yPc, yBd, upd yWk b (yWk a), upd yWw b (yWw a), upd yOw b (yOw a), yCt, yOz, yOp, yKn)) : wpY_shift post (ycc, ydr, ynd, yln, yal, ygl, yst, ybl, yhw, yrn, ywk, yA, yDk, yDw, yK, yW, yPl, yRl, yRc, yHd, yLf, yRg, ySz, yLi, ySk, ySt, yAr, yGv, yF, yEn, yPc, yBd, yWk, yWw, yOw, yCt, yOz, yOp, yKn) (nI a) (nI b) := by
  have ea : (nI a).toNatClampNeg = a := nI_clamp (by omega)
  have eb : (nI b).toNatClampNeg = b := nI_clamp (by omega)
  have va : vp_in (nI a) 1300 := vp_in_nI h1 (by decide)
  have vb : vp_in (nI b) 1300 := vp_in_nI h2 (by decide)
  exact ⟨va, vb, nm_r (by rw [ea, eb]) ⟨va, vb, nm_r (by rw [ea, eb]) ⟨va, vb, nm_r (by rw [ea, eb]) hp⟩⟩⟩
theorem y_pt {post : SY → Prop} {a : Nat} {k v o : Int32} (h1 : a < 1300) (hp : post (ycc, ydr, ynd, yln, yal, ygl, yst, ybl, yhw, yrn, ywk, yA, yDk, yDw, yK, yW, yPl, yRl, yRc, yHd, yLf, yRg, ySz, yLi, ySk, ySt, yAr, yGv, yF, yEn, yPc, yBd, upd yWk a k, upd yWw a v, upd yOw a o, yCt, yOz, yOp, yKn)) : wpY_put post (ycc, ydr, ynd, yln, yal, ygl, yst, ybl, yhw, yrn, ywk, yA, yDk, yDw, yK, yW, yPl, yRl, yRc, yHd, yLf, yRg, ySz, yLi, ySk, ySt, yAr, yGv, yF, yEn, yPc, yBd, yWk, yWw, yOw, yCt, yOz, yOp, yKn) (nI a) k v o := by
  have ea : (nI a).toNatClampNeg = a := nI_clamp (by omega)
  have va : vp_in (nI a) 1300 := vp_in_nI h1 (by decide)
  exact ⟨va, nm_r (by rw [ea]) ⟨va, nm_r (by rw [ea]) ⟨va, nm_r (by rw [ea]) hp⟩⟩⟩
/-- a piece of the work list is replaced -/
theorem y_rp {post : SY → Prop} {q gone come z : Nat} (hg : 1 ≤ gone) (hb : q + gone + z + come ≤ 1290)
    (hp : ∀ K W O, (∀ j, j < q → K j = yWk j ∧ W j = yWw j ∧ O j = yOw j) → (∀ j, j < z → K (q + come + j) = yWk (q + gone + j) ∧ W (q + come + j) = yWw (q + gone + j) ∧ O (q + come + j) = yOw (q + gone + j)) →
      post (ycc, ydr, ynd, yln, yal, ygl, yst, ybl, yhw, yrn, nI (q + come + z), yA, yDk, yDw, yK, yW, yPl, yRl, yRc, yHd, yLf, yRg, ySz, yLi, ySk, ySt, yAr, yGv, yF, yEn, yPc, yBd, K, W, O, yCt, yOz, yOp, yKn)) : wpY_replace post (ycc, ydr, ynd, yln, yal, ygl, yst, ybl, yhw, yrn, nI (q + gone + z), yA, yDk, yDw, yK, yW, yPl, yRl, yRc, yHd, yLf, yRg, ySz, yLi, ySk, ySt, yAr, yGv, yF, yEn, yPc, yBd, yWk, yWw, yOw, yCt, yOz, yOp, yKn) (nI q) (nI gone) (nI come) := by
  have eend : nI (q + gone + z) + (nI come - nI gone) = nI (q + come + z) := by
    rw [fo_by (by omega)]; exact congrArg nI (by omega)
  refine nm_e (br_c (fun c1 => ?_) (fun c1 => ?_))
  · have hle : come ≤ gone := by
      refine Classical.byContradiction fun g => ?_
      rw [pk_sub (by omega)] at c1
      exact nI_nle (by omega) (by omega) c1
    have loop : ∀ d i K W O, i + d = z → (∀ j, j < q → K j = yWk j ∧ W j = yWw j ∧ O j = yOw j) →
        (∀ j, j < i → K (q + come + j) = yWk (q + gone + j) ∧ W (q + come + j) = yWw (q + gone + j) ∧ O (q + come + j) = yOw (q + gone + j)) →
        (∀ j, i ≤ j → j < z → K (q + gone + j) = yWk (q + gone + j) ∧ W (q + gone + j) = yWw (q + gone + j) ∧ O (q + gone + j) = yOw (q + gone + j)) →
        wY_replace_51 post (nI come - nI gone) (d + 1) (nI (q + gone + i)) ycc ydr ynd yln yal ygl yst ybl yhw yrn (nI (q + gone + z)) yA yDk yDw yK yW yPl yRl yRc yHd yLf yRg ySz yLi ySk ySt yAr yGv yF yEn yPc yBd K W O yCt yOz yOp yKn := by
      intro d
      induction d with
      | zero =>
        intro i K W O hi a1 a2 a3
        have e : i = z := by omega
        subst e
        exact br_t (nI_le (Nat.le_refl _) (by omega)) (nm_r eend (hp K W O a1 a2))
      | succ d ih =>
        intro i K W O hi a1 a2 a3
        refine br_f (nI_ge (by omega) (by omega)) ?_
        rw [fo_by (by omega), show q + gone + i + come - gone = q + come + i by omega]
        obtain ⟨s1, s2, s3⟩ := a3 i (Nat.le_refl _) (by omega)
        refine y_sh (by omega) (by omega) (nm_r (nI_1 _) (ih (i + 1) _ _ _ (by omega) ?_ ?_ ?_))
        · intro j hj
          rw [pk_un (by omega), pk_un (by omega), pk_un (by omega)]; exact a1 j hj
        · intro j hj
          by_cases e : j = i
          · subst e; rw [pk_us, pk_us, pk_us]; exact ⟨s1, s2, s3⟩
          · rw [pk_un (by omega), pk_un (by omega), pk_un (by omega)]; exact a2 j (by omega)
        · intro j h1 h2
          rw [pk_un (by omega), pk_un (by omega), pk_un (by omega)]; exact a3 j (by omega) h2
    exact nm_r (nI_add _ _) ⟨z + 1, loop z 0 yWk yWw yOw (by omega) (fun j _ => ⟨rfl, rfl, rfl⟩) (fun j hj => by omega) (fun j _ _ => ⟨rfl, rfl, rfl⟩)⟩
  · have hlt : gone < come := by
      refine Classical.byContradiction fun g => c1 (fo_cle (by omega) (by omega) (by omega))
    have loop : ∀ i K W O, i ≤ z → (∀ j, j < q → K j = yWk j ∧ W j = yWw j ∧ O j = yOw j) →
        (∀ j, i ≤ j → j < z → K (q + come + j) = yWk (q + gone + j) ∧ W (q + come + j) = yWw (q + gone + j) ∧ O (q + come + j) = yOw (q + gone + j)) →
        (∀ j, j < i → K (q + gone + j) = yWk (q + gone + j) ∧ W (q + gone + j) = yWw (q + gone + j) ∧ O (q + gone + j) = yOw (q + gone + j)) →
        wY_replace_18 post (nI q) (nI gone) (nI come - nI gone) (i + 1) (nI (q + gone + i) + (-1)) ycc ydr ynd yln yal ygl yst ybl yhw yrn (nI (q + gone + z)) yA yDk yDw yK yW yPl yRl yRc yHd yLf yRg ySz yLi ySk ySt yAr yGv yF yEn yPc yBd K W O yCt yOz yOp yKn := by
      intro i
      induction i with
      | zero =>
        intro K W O _ a1 a2 a3
        refine br_t ?_ (nm_r eend (hp K W O a1 (fun j hj => a2 j (by omega) hj)))
        rw [fo_p1 (by omega), nI_add]
        exact nI_lt (by omega) (by omega)
      | succ i ih =>
        intro K W O hi a1 a2 a3
        rw [show nI (q + gone + (i + 1)) + (-1) = nI (q + gone + i) from pk_m1 _]
        refine br_f (by rw [nI_add]; exact nI_nlt (by omega) (by omega)) ?_
        rw [fo_by (by omega), show q + gone + i + come - gone = q + come + i by omega]
        obtain ⟨s1, s2, s3⟩ := a3 i (by omega)
        refine y_sh (by omega) (by omega) (nm_e (ih _ _ _ (by omega) ?_ ?_ ?_))
        · intro j hj
          rw [pk_un (by omega), pk_un (by omega), pk_un (by omega)]; exact a1 j hj
        · intro j h1 h2
          by_cases e : j = i
          · subst e; rw [pk_us, pk_us, pk_us]; exact ⟨s1, s2, s3⟩
          · rw [pk_un (by omega), pk_un (by omega), pk_un (by omega)]; exact a2 j (by omega) h2
        · intro j hj
          rw [pk_un (by omega), pk_un (by omega), pk_un (by omega)]; exact a3 j (by omega)
    exact nm_r (e' := nI (q + gone + z) + (-1)) (Int32.sub_eq_add_neg _ _) ⟨z + 1, loop z yWk yWw yOw (Nat.le_refl _) (fun j _ => ⟨rfl, rfl, rfl⟩) (fun j h1 h2 => by omega) (fun j _ => ⟨rfl, rfl, rfl⟩)⟩
end
end
section
section
variable {ycc ydr ynd yln yal ygl yst ybl yhw yrn ywk : Int32} {yA yDk yDw yK yW yPl yRl yRc yHd yLf yRg ySz yLi ySk ySt yAr yGv yF yEn yPc yBd yWk yWw yOw yCt yOz yOp yKn : Nat → Int32}
variable {xp xe xo : Nat → Int32}
/-- a call of the reference -/
theorem y_cl {post : Int32 → SY → Prop} {ar rc pl : Nat → Nat} {pat : Nat → Nat → Nat} {pre pos : Nat → List Nat} {c f N q z s root : Nat} {dn : Nat → List Nat}
    (hc : c ≤ 6) (ha : ∀ i, ar i ≤ 2) (hf : f < 4) (hrc : ∀ f, rc f ≤ 5) (hR : fx_rows ar c rc pl pat pre pos xp xe xo yRl yK yW)
    (H : fy_H ar c N yHd yLf yRg ySz dn) (hN : N ≤ 1300) (W : fy_W c N (q + 2 + z) yWk yWw yOw) (hb : q + 2 + z ≤ 1270) (hs : s ≤ 100)
    (hw : yWw q = nI f) (hroot : root < N) (hw2 : yWw (q + 1) = nI root)
    (hL : s = 100 → post 2 (ycc, ydr, ynd, yln, yal, ygl, nI s, nI f, yhw, yrn, nI (q + 2 + z), fo_n ar, yDk, yDw, yK, yW, fo_n pl, yRl, fo_n rc, yHd, yLf, yRg, ySz, yLi, ySk, ySt, yAr, yGv, yF, yEn, yPc, yBd, yWk, yWw, yOw, yCt, yOz, yOp, yKn))
    (hS : s ≠ 100 → fg_row ar pat pl rc f (dn root) = 0 → ∀ ln LI SK ST D Ft, post 1 (ycc, ydr, ynd, ln, yal, ygl, nI (s + 1), nI f, yhw, yrn, nI (q + 2 + z), fo_n ar, yDk, yDw, yK, yW, fo_n pl, yRl, fo_n rc, yHd, yLf, yRg, ySz, LI, SK, ST, yAr, yGv, Ft, D, yPc, yBd, yWk, yWw, yOw, yCt, yOz, yOp, yKn))
    (hK : s ≠ 100 → fg_row ar pat pl rc f (dn root) ≠ 0 → ∀ w' ln LI SK ST D Ft PC BD K WW O, w' ≤ q + 12 + z → fy_W c N w' K WW O →
      fe_sl (fy_tok dn K WW O) 0 w' = fe_sl (fy_tok dn yWk yWw yOw) 0 q ++ (fg_res ar pat pl rc pre f (dn root) ++ fe_sl (fy_tok dn yWk yWw yOw) (q + 2) z) →
      post 0 (ycc, ydr, ynd, ln, yal, ygl, nI (s + 1), nI f, yhw, yrn, nI w', fo_n ar, yDk, yDw, yK, yW, fo_n pl, yRl, fo_n rc, yHd, yLf, yRg, ySz, LI, SK, ST, yAr, yGv, Ft, D, PC, BD, K, WW, O, yCt, yOz, yOp, yKn)) :
    wpY_call post (ycc, ydr, ynd, yln, yal, ygl, nI s, ybl, yhw, yrn, nI (q + 2 + z), fo_n ar, yDk, yDw, yK, yW, fo_n pl, yRl, fo_n rc, yHd, yLf, yRg, ySz, yLi, ySk, ySt, yAr, yGv, yF, yEn, yPc, yBd, yWk, yWw, yOw, yCt, yOz, yOp, yKn) (nI q) := by
  have HH := fy_HH H
  refine ⟨vp_in_nI (by omega) (by decide), nm_r (e' := nI f) (by rw [nI_clamp (by omega), hw]) (pk_eq s 100 (fun z => hL z) (fun z100 => nm_r (nI_1 s) ⟨by rw [nI_1]; exact vp_in_nI (by omega) (by decide), ?_⟩))⟩
  rw [nI_1 q, nI_clamp (by omega), hw2]
  have hlen := fv_Hpos HH hroot
  refine y_sp hc ha H hN hroot (fun LI SK ST b1 b2 => ?_)
  have hfull := fv_full HH hroot
  generalize hLL : dn root = L at *
  refine y_tk (pat := pat) (S := fv_g L) hc ha hf (hrc f) hlen.2 hfull b1 (fun i hi => fy_pat_of (hR f i hf hi)) (fun w D Ft _ => br_f (by decide) (hS z100 w _ LI SK ST D Ft)) (fun w D Ft fS => br_t ?_ ?_)
  · exact nI_pos' (by have := fm_row_le ar pat pl rc f (fv_g L) L.length; have := hrc f; omega)
  have hwle := fm_row_le ar pat pl rc f (fv_g L) L.length
  have hrf := hrc f
  have hit := fm_row_hit w
  have hK' := hK z100 w
  have eres : fg_res ar pat pl rc pre f L = (pre (5 * f + (fm_row ar pat pl rc f (fv_g L) L.length - 1))).map (fg_sb ar (pat (5 * f + (fm_row ar pat pl rc f (fv_g L) L.length - 1))) (pl (5 * f + (fm_row ar pat pl rc f (fv_g L) L.length - 1))) f L) := rfl
  rw [eres] at hK'
  have hrow := hR f (fm_row ar pat pl rc f (fv_g L) L.length - 1) hf (by omega)
  have hrl : fm_row ar pat pl rc f (fv_g L) L.length - 1 < rc f := by omega
  generalize hww : fm_row ar pat pl rc f (fv_g L) L.length - 1 = w' at *
  refine nm_r (e' := nI (5 * f + w')) (by rw [fo_5m, nI_add]) (y_bi (T := pat (5 * f + w')) (S := fv_g L) (n := pl (5 * f + w')) hc ha (by omega) rfl fS (fy_pat_of hrow) hit (fun PC BD hBD => ⟨vp_in_nI (by omega) (by decide), ?_⟩))
  have hlp := (ff_len hrow.2.2.2.2.1).1
  have h12 := hrow.2.2.2.2.2.1
  have e_rl : yRl (nI (5 * f + w')).toNatClampNeg = nI (pre (5 * f + w')).length := by rw [nI_clamp (by omega), hrow.2.2.2.2.2.2.1, ← hlp]
  rw [e_rl]
  have chain : fb_CH (fm_F ar (pat (5 * f + w')) (pl (5 * f + w')) (fv_g L) L.length) (fe_pe (fm_o ar (pat (5 * f + w'))) (pl (5 * f + w'))) (fe_pe (fm_v ar (fv_g L)) L.length) (pl (5 * f + w')) L.length 1 0 0 :=
    ⟨hrow.2.1.1, fS.2.1.1, hit, hrow.2.1.2.2⟩
  have toks : ∀ x, x ∈ pre (5 * f + w') → (x / 8 = 1 ∧ x % 8 < 4 ∧ ∃ j, j < pl (5 * f + w') ∧ pat (5 * f + w') j = x) ∨ (x / 8 = 2 ∧ x % 8 < c) ∨ (x / 8 = 5 ∧ x % 8 < 4) := by
    intro x hx
    obtain ⟨k, y, e, _, g⟩ := (ff_mem hrow.2.2.2.2.1).1 x hx
    exact g
  have var : ∀ x, x ∈ pre (5 * f + w') → x / 8 = 1 → x % 8 < 4 ∧ ∃ p n', fg_bd ar (pat (5 * f + w')) (pl (5 * f + w')) L (x % 8) = some p ∧ BD (x % 8) = nI n' ∧ n' < N ∧ dn n' = fv_sub ar (fv_g L) L.length p := by
    intro x hx h1
    rcases toks x hx with ⟨_, v4, j, hj, e⟩ | g | g
    · obtain ⟨p, hp⟩ := fb_w_all hrow.2.1 (fe_pe (fm_v ar (fv_g L)) L.length) hrow.2.2.2.1 (fun i hi => (hrow.2.2.1 i hi).2.1) 12 0 0 (fun _ => none) j (by have := hrow.1; omega) (Nat.zero_le _) hj (by rw [e]; exact h1)
      rw [e] at hp
      have hpm := fb_w_lt hrow.2.1 fS.2.1 ha 12 1 0 0 (fun _ => none) chain (fun v q h => by cases h) _ _ hp
      obtain ⟨n', g1, g2, g3⟩ := b2 p hpm
      exact ⟨v4, p, n', hp, by rw [hBD (x % 8) p v4 hp]; exact g1, g2, g3⟩
    · omega
    · omega
  generalize hPR : pre (5 * f + w') = PR at *
  refine y_rp (gone := 2) (come := PR.length) (z := z) (by omega) (by omega) (fun K0 W0 O0 c1 c2 => ?_)
  -- the new tokens
  have loop : ∀ d i K WW O, i + d = PR.length → (∀ j, (j < q ∨ q + PR.length ≤ j) → K j = K0 j ∧ WW j = W0 j ∧ O j = O0 j) →
      (∀ j, j < i → (K (q + j) = if fv_g PR j / 8 = 1 then 6 else nI (fv_g PR j / 8)) ∧ (WW (q + j) = if fv_g PR j / 8 = 1 then BD (fv_g PR j % 8) else nI (fv_g PR j % 8)) ∧ O (q + j) = nI f) →
      wY_call_86 post (nI q) (nI f) (nI (5 * f + w')) (d + 1) (nI i) ycc ydr ynd (nI L.length) yal ygl (nI (s + 1)) (nI f) yhw yrn (nI (q + PR.length + z)) (fo_n ar) yDk yDw yK yW (fo_n pl) yRl (fo_n rc) yHd yLf yRg ySz LI SK ST yAr yGv Ft D PC BD K WW O yCt yOz yOp yKn := by
    intro d
    induction d with
    | zero =>
      intro i K WW O hi d1 d2
      have e : i = PR.length := by omega
      subst e
      refine ⟨vp_in_nI (by omega) (by decide), br_t (by rw [e_rl]; exact nI_le (Nat.le_refl _) (by omega)) (hK' _ _ LI SK ST D Ft PC BD K WW O (by omega) ?_ ?_)⟩
      · intro j hj
        by_cases j1 : j < q
        · obtain ⟨u1, u2, u3⟩ := d1 j (Or.inl j1)
          obtain ⟨v1, v2, v3⟩ := c1 j j1
          rw [u1, u2, u3, v1, v2, v3]
          exact W j (by omega)
        · by_cases j2 : j < q + PR.length
          · obtain ⟨t, rfl⟩ : ∃ t, j = q + t := ⟨j - q, by omega⟩
            obtain ⟨u1, u2, u3⟩ := d2 t (by omega)
            have hm := fv_gmem (W := PR) (j := t) (by omega)
            by_cases k1 : fv_g PR t / 8 = 1
            · obtain ⟨v4, p, n', g1, g2, g3, g4⟩ := var _ hm k1
              rw [if_pos k1] at u1 u2
              exact Or.inl ⟨u1, n', g3, by rw [u2, g2]⟩
            · rw [if_neg k1] at u1 u2
              refine Or.inr ⟨_, _, f, u1, u2, u3, ?_, hf⟩
              rcases toks _ hm with g | g | g
              · exact absurd g.1 k1
              · exact Or.inl g
              · exact Or.inr g
          · obtain ⟨t, rfl⟩ : ∃ t, j = q + PR.length + t := ⟨j - (q + PR.length), by omega⟩
            obtain ⟨u1, u2, u3⟩ := d1 (q + PR.length + t) (Or.inr (by omega))
            obtain ⟨v1, v2, v3⟩ := c2 t (by omega)
            rw [u1, u2, u3, v1, v2, v3]
            exact W (q + 2 + t) (by omega)
      · rw [fy_repl (tok := fy_tok dn yWk yWw yOw) (nw := fun i => fg_sb ar (pat (5 * f + w')) (pl (5 * f + w')) f L (fv_g PR i)) (gone := 2) ?_ ?_ ?_]
        · refine congrArg (fe_sl (fy_tok dn yWk yWw yOw) 0 q ++ ·) (congrArg (· ++ _) ?_)
          rw [← fe_sl_map]
          refine congrArg (List.map _) ?_
          exact fv_gsl PR 0 [] (by rw [List.drop_zero, List.append_nil])
        · intro j hj
          obtain ⟨u1, u2, u3⟩ := d1 j (Or.inl hj)
          obtain ⟨v1, v2, v3⟩ := c1 j hj
          unfold fy_tok
          rw [u1, u2, u3, v1, v2, v3]
        · intro t ht
          obtain ⟨u1, u2, u3⟩ := d2 t ht
          have hm := fv_gmem (W := PR) (j := t) ht
          show _ = fg_sb ar (pat (5 * f + w')) (pl (5 * f + w')) f L (fv_g PR t)
          unfold fg_sb
          by_cases k1 : fv_g PR t / 8 = 1
          · obtain ⟨v4, p, n', g1, g2, g3, g4⟩ := var _ hm k1
            rw [if_pos k1] at u1 u2
            rw [if_pos k1, g1, fy_tok_v u1 (u2.trans g2) (by omega), g4]
            rfl
          · rw [if_neg k1] at u1 u2
            have := toks _ hm
            rw [if_neg k1, fy_tok_t u1 u2 u3 (by omega) (by omega) (by omega)]
        · intro t ht
          obtain ⟨u1, u2, u3⟩ := d1 (q + PR.length + t) (Or.inr (by omega))
          obtain ⟨v1, v2, v3⟩ := c2 t ht
          unfold fy_tok
          rw [u1, u2, u3, v1, v2, v3]
    | succ d ih =>
      intro i K WW O hi d1 d2
      have hm := fv_gmem (W := PR) (j := i) (by omega)
      have hk := toks _ hm
      obtain ⟨r1, r2⟩ := hrow.2.2.2.2.2.2.2.2 i (by omega)
      have ein : 24 * nI (5 * f + w') + 12 + nI i = nI (24 * (5 * f + w') + 12 + i) := by rw [fo_24m, show nI (24 * (5 * f + w')) + 12 = nI (24 * (5 * f + w') + 12) from nI_add _ 12, nI_add]
      refine ⟨vp_in_nI (by omega) (by decide), br_f (by rw [e_rl]; exact nI_ge (by omega) (by omega)) ?_⟩
      rw [ein]
      have vin : vp_in (nI (24 * (5 * f + w') + 12 + i)) 480 := vp_in_nI (by omega) (by decide)
      refine ⟨vin, nm_r (e' := nI (fv_g PR i / 8)) (by rw [nI_clamp (by omega), r1]) ⟨vin, nm_r (e' := nI (fv_g PR i % 8)) (by rw [nI_clamp (by omega), r2]) ?_⟩⟩
      have put : ∀ (v k : Int32), (k = if fv_g PR i / 8 = 1 then 6 else nI (fv_g PR i / 8)) → (v = if fv_g PR i / 8 = 1 then BD (fv_g PR i % 8) else nI (fv_g PR i % 8)) →
          wY_call_170 post (wY_call_86 post (nI q) (nI f) (nI (5 * f + w')) (d + 1)) (nI q) (nI f) (nI (5 * f + w')) (nI i) v k (nI q + nI i) ycc ydr ynd (nI L.length) yal ygl (nI (s + 1)) (nI f) yhw yrn (nI (q + PR.length + z)) (fo_n ar) yDk yDw yK yW (fo_n pl) yRl (fo_n rc) yHd yLf yRg ySz LI SK ST yAr yGv Ft D PC BD K WW O yCt yOz yOp yKn := by
        intro v k hk1 hv1
        unfold wY_call_170
        rw [nI_add]
        refine y_pt (by omega) (nm_r (nI_1 i) (ih (i + 1) _ _ _ (by omega) ?_ ?_))
        · intro j hj
          rw [pk_un (by omega), pk_un (by omega), pk_un (by omega)]; exact d1 j hj
        · intro j hj
          by_cases e : j = i
          · subst e; rw [pk_us, pk_us, pk_us]; exact ⟨hk1, hv1, rfl⟩
          · rw [pk_un (by omega), pk_un (by omega), pk_un (by omega)]; exact d2 j (by omega)
      refine pk_eq (fv_g PR i / 8) 1 (fun k1 => br_t (congrArg nI k1) ⟨vp_in_nI (by omega) (by decide), put _ 6 (by rw [if_pos k1]) ?_⟩) (fun k1 => br_f (fun g => k1 ((nI_eq (b := 1) (by omega) (by decide)).mp g)) (put _ _ (by rw [if_neg k1]) (by rw [if_neg k1])))
      rw [if_pos k1, nI_clamp (by omega)]
  exact ⟨PR.length + 1, loop PR.length 0 K0 W0 O0 (by omega) (fun j _ => ⟨rfl, rfl, rfl⟩) (fun j hj => by omega)⟩
/-- a value is made by the reference -/
theorem y_mk {post : Int32 → SY → Prop} {ar : Nat → Nat} {c N q z v o : Nat} {dn : Nat → List Nat} {A : List (List Nat)}
    (hc : c ≤ 6) (ha : ∀ i, ar i ≤ 2) (hv : v < c) (ho : o < 4) (H : fy_H ar c N yHd yLf yRg ySz dn) (hN : N < 1299) (W : fy_W c N (q + 1 + ar v + z) yWk yWw yOw) (hb : q + 1 + ar v + z ≤ 1270)
    (hw : yWw q = nI v) (how : yOw q = nI o) (hA : fe_sl (fy_tok dn yWk yWw yOw) (q + 1) (ar v) = A.map Sum.inl)
    (hB : 40 < (v :: A.flatten).length → ∀ nd HD LF RG SZ, post 3 (ycc, ydr, nd, yln, yal, ygl, yst, nI o, yhw, yrn, nI (q + 1 + ar v + z), fo_n ar, yDk, yDw, yK, yW, yPl, yRl, yRc, HD, LF, RG, SZ, yLi, ySk, ySt, yAr, yGv, yF, yEn, yPc, yBd, yWk, yWw, yOw, yCt, yOz, yOp, yKn))
    (hK : ¬ 40 < (v :: A.flatten).length → ∀ HD LF RG SZ K WW O, fy_H ar c (N + 1) HD LF RG SZ (fx_up dn N (v :: A.flatten)) → fy_W c (N + 1) (q + 1 + z) K WW O →
      fe_sl (fy_tok (fx_up dn N (v :: A.flatten)) K WW O) 0 (q + 1 + z) = fe_sl (fy_tok dn yWk yWw yOw) 0 q ++ ([Sum.inl (v :: A.flatten)] ++ fe_sl (fy_tok dn yWk yWw yOw) (q + 1 + ar v) z) →
      post 0 (ycc, ydr, nI (N + 1), yln, yal, ygl, yst, nI o, yhw, yrn, nI (q + 1 + z), fo_n ar, yDk, yDw, yK, yW, yPl, yRl, yRc, HD, LF, RG, SZ, yLi, ySk, ySt, yAr, yGv, yF, yEn, yPc, yBd, K, WW, O, yCt, yOz, yOp, yKn)) :
    wpY_make post (ycc, ydr, nI N, yln, yal, ygl, yst, ybl, yhw, yrn, nI (q + 1 + ar v + z), fo_n ar, yDk, yDw, yK, yW, yPl, yRl, yRc, yHd, yLf, yRg, ySz, yLi, ySk, ySt, yAr, yGv, yF, yEn, yPc, yBd, yWk, yWw, yOw, yCt, yOz, yOp, yKn) (nI q) := by
  have HH := fy_HH H
  have h2 := ha v
  have eq0 : (nI q).toNatClampNeg = q := nI_clamp (by omega)
  have vq : vp_in (nI q) 1300 := vp_in_nI (by omega) (by decide)
  -- the end, once the operands are known
  have fin : ∀ (l r : Nat) (xf xs : Int32), (xf = if 1 ≤ ar v then nI l else -1) → (xs = if ar v = 2 then nI r else -1) → (1 ≤ ar v → l < N) → (ar v = 2 → r < N) →
      ((ar v = 0 ∧ (v :: A.flatten) = [v]) ∨ (ar v = 1 ∧ l < N ∧ (v :: A.flatten) = v :: dn l) ∨ (ar v = 2 ∧ l < N ∧ r < N ∧ (v :: A.flatten) = v :: (dn l ++ dn r))) →
      wY_make_52 post (nI q) (nI (ar v)) xs xf (nI v) ycc ydr (nI N) yln yal ygl yst ybl yhw yrn (nI (q + 1 + ar v + z)) (fo_n ar) yDk yDw yK yW yPl yRl yRc yHd yLf yRg ySz yLi ySk ySt yAr yGv yF yEn yPc yBd yWk yWw yOw yCt yOz yOp yKn := by
    intro l r xf xs e1 e2 hl hr hsh
    have esz : 1 + (if 1 ≤ ar v then (dn l).length else 0) + (if ar v = 2 then (dn r).length else 0) = (v :: A.flatten).length := by
      rcases hsh with ⟨a, b⟩ | ⟨a, _, b⟩ | ⟨a, _, _, b⟩
      · rw [if_neg (by omega), if_neg (by omega), b]; rfl
      · rw [if_pos (by omega), if_neg (by omega), b, List.length_cons]; omega
      · rw [if_pos (by omega), if_pos a, b, List.length_cons, List.length_append]; omega
    have hsmall : (v :: A.flatten).length ≤ 81 := by
      rcases hsh with ⟨a, b⟩ | ⟨a, b0, b⟩ | ⟨a, b0, b1, b⟩
      · rw [b]; exact (by decide : 1 ≤ 81)
      · have := (fv_Hpos HH b0).2
        rw [b, List.length_cons]; omega
      · have := (fv_Hpos HH b0).2
        have := (fv_Hpos HH b1).2
        rw [b, List.length_cons, List.length_append]; omega
    unfold wY_make_52
    refine y_nd (ar := ar) (c := c) (dn := dn) (by omega) H h2 e1 e2 hl hr ?_
    rw [esz]
    refine ⟨vq, nm_r (e' := nI o) (by rw [eq0, how]) ⟨vp_in_nI (by omega) (by decide), ?_⟩⟩
    rw [nI_clamp (by omega), pk_us]
    refine pk_le (v :: A.flatten).length 40 (fun g => ?_) (fun g => hB (by omega) _ _ _ _ _)
    have H' := fy_H_new H e1 e2 ⟨hv, g, hsh⟩
    rw [show (1 : Int32) + nI (ar v) = nI (1 + ar v) from nI_add 1 _]
    have ew : q + 1 + ar v + z = q + (1 + ar v) + z := by omega
    rw [ew]
    refine y_rp (gone := 1 + ar v) (come := 1) (z := z) (by omega) (by omega) (fun K WW O c1 c2 => y_pt (by omega) ?_)
    refine hK (by omega) _ _ _ _ _ _ _ H' ?_ ?_
    · intro j hj
      by_cases j1 : j = q
      · subst j1; rw [pk_us, pk_us, pk_us]; exact Or.inl ⟨rfl, N, by omega, rfl⟩
      · rw [pk_un j1, pk_un j1, pk_un j1]
        by_cases j2 : j < q
        · obtain ⟨u1, u2, u3⟩ := c1 j j2
          rw [u1, u2, u3]
          exact fy_W_up W (by omega) j (by omega)
        · obtain ⟨t, rfl⟩ : ∃ t, j = q + 1 + t := ⟨j - (q + 1), by omega⟩
          obtain ⟨u1, u2, u3⟩ := c2 t (by omega)
          rw [u1, u2, u3]
          exact fy_W_up W (by omega) (q + (1 + ar v) + t) (by omega)
    · have hc0 := fy_tok_c W (dn' := fx_up dn N (v :: A.flatten)) (by omega) (fun q' hq' => fx_up_n hq')
      rw [fy_repl (tok := fy_tok dn yWk yWw yOw) (nw := fun _ => Sum.inl (v :: A.flatten)) (gone := 1 + ar v) ?_ ?_ ?_]
      · rw [← Nat.add_assoc]; rfl
      · intro j hj
        obtain ⟨u1, u2, u3⟩ := c1 j hj
        rw [← hc0 j (by omega)]
        unfold fy_tok
        rw [pk_un (by omega), pk_un (by omega), pk_un (by omega), u1, u2, u3]
      · intro t ht
        have : t = 0 := by omega
        subst this
        rw [Nat.add_zero, fy_tok_v pk_us pk_us (by omega), fx_up_s]
      · intro t ht
        obtain ⟨u1, u2, u3⟩ := c2 t ht
        rw [← hc0 (q + (1 + ar v) + t) (by omega)]
        unfold fy_tok
        rw [pk_un (by omega), pk_un (by omega), pk_un (by omega), u1, u2, u3]
  -- an operand
  have arg : ∀ j L, j < ar v → fy_tok dn yWk yWw yOw (q + 1 + j) = Sum.inl L → ∃ n, n < N ∧ yWw (q + 1 + j) = nI n ∧ dn n = L := by
    intro j L hj e
    rcases W (q + 1 + j) (by omega) with ⟨a, n, b, d⟩ | ⟨k', v', o', a, b, d, g, _⟩
    · rw [fy_tok_v a d (by omega)] at e
      exact ⟨n, b, d, Sum.inl.inj e⟩
    · rw [fy_tok_t a b d (by omega) (by omega) (by omega)] at e
      cases e
  refine ⟨vq, ?_⟩
  rw [eq0, hw]
  refine ⟨vp_in_nI (by omega) (by decide), nm_r (e' := nI (ar v)) (by rw [nI_clamp (by omega)]; rfl) ⟨vq, ?_⟩⟩
  by_cases z0 : ar v = 0
  · refine pk_le (ar v) 0 (fun _ => pk_le (ar v) 1 (fun _ => fin 0 0 (-1) (-1) (by rw [if_neg (by omega)]) (by rw [if_neg (by omega)]) (fun g => by omega) (fun g => by omega) (Or.inl ⟨z0, ?_⟩)) (fun g => by omega)) (fun g => by omega)
    rw [z0] at hA
    have : A = [] := by
      cases A with
      | nil => rfl
      | cons a A => exact absurd (congrArg List.length hA) (by rw [fe_sl_len, List.length_map, List.length_cons]; omega)
    rw [this]; rfl
  · by_cases z1 : ar v = 1
    · rw [z1] at hA
      cases A with
      | nil => exact absurd (congrArg List.length hA) (by rw [fe_sl_len]; decide)
      | cons a A =>
        have hA' : [fy_tok dn yWk yWw yOw (q + 1)] = Sum.inl a :: A.map Sum.inl := hA
        obtain ⟨i1, i2⟩ := List.cons.inj hA'
        have hAn : A = [] := by
          cases A with
          | nil => rfl
          | cons _ _ => cases i2
        subst hAn
        obtain ⟨n, n1, n2, n3⟩ := arg 0 a (by omega) i1
        rw [Nat.add_zero] at n2
        refine pk_le (ar v) 0 (fun g => by omega) (fun _ => ⟨by rw [nI_1]; exact vp_in_nI (by omega) (by decide), ?_⟩)
        rw [nI_1, nI_clamp (by omega), n2]
        refine pk_le (ar v) 1 (fun _ => fin n 0 _ (-1) (by rw [if_pos (by omega)]) (by rw [if_neg (by omega)]) (fun _ => n1) (fun g => by omega) (Or.inr (Or.inl ⟨z1, n1, ?_⟩))) (fun g => by omega)
        rw [n3]; simp
    · have z2 : ar v = 2 := by omega
      rw [z2] at hA
      cases A with
      | nil => exact absurd (congrArg List.length hA) (by rw [fe_sl_len]; decide)
      | cons a A =>
        cases A with
        | nil =>
          have h := congrArg List.length hA
          rw [fe_sl_len] at h
          exact absurd (show 2 = 1 from h) (by decide)
        | cons b A =>
          have hA' : fy_tok dn yWk yWw yOw (q + 1) :: [fy_tok dn yWk yWw yOw (q + 1 + 1)] = Sum.inl a :: (Sum.inl b :: A.map Sum.inl) := hA
          obtain ⟨i1, i2⟩ := List.cons.inj hA'
          obtain ⟨i3, i4⟩ := List.cons.inj i2
          have hAn : A = [] := by
            cases A with
            | nil => rfl
            | cons _ _ => cases i4
          subst hAn
          obtain ⟨n, n1, n2, n3⟩ := arg 0 a (by omega) i1
          obtain ⟨n', m1, m2, m3⟩ := arg 1 b (by omega) i3
          rw [Nat.add_zero] at n2
          refine pk_le (ar v) 0 (fun g => by omega) (fun _ => ⟨by rw [nI_1]; exact vp_in_nI (by omega) (by decide), ?_⟩)
          rw [nI_1, nI_clamp (by omega), n2]
          have e2 : nI q + 2 = nI (q + 1 + 1) := nI_add q 2
          refine pk_le (ar v) 1 (fun g => by omega) (fun _ => ⟨by rw [e2]; exact vp_in_nI (by omega) (by decide), ?_⟩)
          rw [e2, nI_clamp (by omega), m2]
          refine fin n n' _ _ (by rw [if_pos (by omega)]) (by rw [if_pos z2]) (fun _ => n1) (fun _ => m1) (Or.inr (Or.inr ⟨z2, n1, m1, ?_⟩))
          rw [n3, m3]; simp
end
end
section
theorem fy_uni {ar : Nat → Nat} {tok : Nat → fg_T} {w q q' : Nat} (h : fy_rdy ar tok w q) (h' : fy_rdy ar tok w q') : q = q' := by
  have key : ∀ a b, fy_rdy ar tok w a → fy_rdy ar tok w b → ¬ a < b := by
    intro a b ha hb hlt
    rcases hb.2.2.2.2 a hlt with g | ⟨j, g1, g2⟩
    · exact ha.2.1 g
    · exact g2 (ha.2.2.2.1 j g1)
  have := key q q' h h'
  have := key q' q h' h
  omega
theorem fy_ex {ar : Nat → Nat} {c : Nat} {tok : Nat → fg_T} {w : Nat} : ∀ (rest : List fg_T) (st : List (List Nat)), ff_PF (fg_rt ar c) 1 (fe_sl tok 0 w) (st.reverse.map Sum.inl ++ rest) →
    (∃ q, fy_rdy ar tok w q) ∨ ∀ i, i < w → fg_V (tok i) := by
  intro rest
  induction rest with
  | nil =>
    intro st h
    rw [List.append_nil] at h
    obtain ⟨h1, L, h2, _⟩ := fy_done h
    right
    intro i hi
    have : i = 0 := by omega
    subst this
    exact ⟨L, h2⟩
  | cons t rest ih =>
    intro st h
    cases t with
    | inl L =>
      refine ih (L :: st) ?_
      rw [List.reverse_cons, List.map_append, List.append_assoc]
      exact h
    | inr t =>
      obtain ⟨q, _, hq, _⟩ := fy_ctx h (fun ⟨L, e⟩ => by cases e)
      exact Or.inl ⟨q, hq⟩
section
variable {ycc ydr ynd yln yal ygl yst ybl yhw yrn ywk : Int32} {yA yDk yDw yK yW yPl yRl yRc yHd yLf yRg ySz yLi ySk ySt yAr yGv yF yEn yPc yBd yWk yWw yOw yCt yOz yOp yKn : Nat → Int32}
variable {xp xe xo : Nat → Int32}
theorem y_rl {post : Int32 → SY → Prop} {ar rc pl : Nat → Nat} {pat : Nat → Nat → Nat} {pre pos : Nat → List Nat} {c : Nat}
    (hc : c ≤ 6) (ha : ∀ i, ar i ≤ 2) (hrc : ∀ f, rc f ≤ 5) (hR : fx_rows ar c rc pl pat pre pos xp xe xo yRl yK yW) {R : Nat × Nat × Nat × List Nat}
    (hO : R.1 = 0 → R.2.2.2.length ≤ 40 → fe_full (fm_v ar (fv_g R.2.2.2)) R.2.2.2.length → (∀ i, i < R.2.2.2.length → fv_g R.2.2.2 i < c) →
      (∀ (nd ln hw wk : Int32) (HD LF RG SZ LI SK ST Ft D PC BD K WW O : Nat → Int32), post 0 (ycc, ydr, nd, ln, yal, nI R.2.2.2.length, nI R.2.1, -1, hw, yrn, wk, fo_n ar, yDk, yDw, yK, yW, fo_n pl, yRl, fo_n rc, HD, LF, RG, SZ, LI, SK, ST, yAr, fo_cp yGv (fo_n (fv_g R.2.2.2)) R.2.2.2.length, Ft, D, PC, BD, K, WW, O, yCt, yOz, yOp, yKn)))
    (hB : (1 ≤ R.1 ∧ R.1 ≤ 3) → (∀ (nd ln hw wk : Int32) (HD LF RG SZ LI SK ST Ft D PC BD K WW O : Nat → Int32), post (nI R.1) (ycc, ydr, nd, ln, yal, 0, nI R.2.1, nI (R.2.2.1 - 1), hw, yrn, wk, fo_n ar, yDk, yDw, yK, yW, fo_n pl, yRl, fo_n rc, HD, LF, RG, SZ, LI, SK, ST, yAr, yGv, Ft, D, PC, BD, K, WW, O, yCt, yOz, yOp, yKn))) :
    ∀ n s st rest w N g x3 (dn : Nat → List Nat) (ln bl : Int32) (HD LF RG SZ LI SK ST Ft D PC BD K WW O : Nat → Int32), 12 * (100 - s) + rest.length < n → n ≤ g → s ≤ 100 → w + 12 * (100 - s) ≤ 1202 →
      N + (12 * (100 - s) + rest.length) ≤ 1241 → ff_PF (fg_rt ar c) 1 (fe_sl (fy_tok dn K WW O) 0 w) (st.reverse.map Sum.inl ++ rest) → fy_H ar c N HD LF RG SZ dn → fy_W c N w K WW O →
      ((∃ q, fy_rdy ar (fy_tok dn K WW O) w q ∧ x3 = nI q) ∨ ((∀ i, i < w → fg_V (fy_tok dn K WW O i)) ∧ x3 = -1)) →
      fg_go ar (fg_row ar pat pl rc) (fg_res ar pat pl rc pos) n s st rest = R →
      wY_run_91 post (g + 1) x3 ycc ydr (nI N) ln yal 0 (nI s) bl 0 yrn (nI w) (fo_n ar) yDk yDw yK yW (fo_n pl) yRl (fo_n rc) HD LF RG SZ LI SK ST yAr yGv Ft D PC BD K WW O yCt yOz yOp yKn := by
  intro n
  induction n with
  | zero => intro s st rest w N g x3 dn ln bl HD LF RG SZ LI SK ST Ft D PC BD K WW O h; omega
  | succ n ih =>
    intro s st rest w N g x3 dn ln bl HD LF RG SZ LI SK ST Ft D PC BD K WW O hn hg hs hw hN PF H W hx3 hgo
    cases rest with
    | nil =>
      rw [List.append_nil] at PF
      obtain ⟨w1, L, t0, est⟩ := fy_done PF
      subst w1
      subst est
      rw [fg_go_nil] at hgo
      have hv : fg_V (fy_tok dn K WW O 0) := ⟨L, t0⟩
      have e3 : x3 = -1 := by
        rcases hx3 with ⟨q, hq, _⟩ | ⟨_, e⟩
        · have := hq.1
          have q0 : q = 0 := by omega
          subst q0
          exact absurd hv hq.2.1
        · exact e
      subst e3
      obtain ⟨root, r1, r2⟩ : ∃ root, root < N ∧ WW 0 = nI root := by
        rcases W 0 (by omega) with ⟨_, m, a, b⟩ | ⟨k', v', o', a, b, d, e, _⟩
        · exact ⟨m, a, b⟩
        · rw [fy_tok_t a b d (by omega) (by omega) (by omega)] at t0; cases t0
      have ek : K 0 = 6 := fy_tok_V.mp hv
      have eL : dn root = L := by
        rw [fy_tok_v ek r2 (by omega)] at t0
        exact Sum.inl.inj t0
      refine br_t (by decide) (br_t rfl ?_)
      have HH := fy_HH H
      have h40 := fv_Hpos HH r1
      have hfl := fv_full HH r1
      have hcn := fv_con HH _ root (Nat.le_refl _) r1
      refine fo_ih (P := fun z => wpY_spell _ _ z) r2 ?_
      refine y_sp hc ha H (by omega) r1 (fun LI' SK' ST' b1 b2 => ⟨(dn root).length + 1, ?_⟩)
      have loop : ∀ d i B, i + d = (dn root).length → B = fo_cp yGv (fo_n (fv_g (dn root))) i →
          wY_run_186 post ycc ydr (nI N) (nI (dn root).length) yal (nI (dn root).length) (nI s) (-1) 0 yrn (nI 1) (d + 1) (nI i) (fo_n ar) yDk yDw yK yW (fo_n pl) yRl (fo_n rc) HD LF RG SZ LI' SK' ST' yAr B Ft D PC BD K WW O yCt yOz yOp yKn := by
        intro d
        induction d with
        | zero =>
          intro i B hi hB'
          subst hB'
          have e : i = (dn root).length := by omega
          rw [e]
          refine br_t (nI_le (Nat.le_refl _) (by omega)) ?_
          have eR : R = (0, s, 0, dn root) := by rw [← hgo, eL]; rfl
          subst eR
          exact hO rfl h40.2 hfl (fun i hi => hcn _ (fv_gmem hi)) _ _ _ _ _ _ _ _ _ _ _ _ _ _ _ _ _ _
        | succ d ih' =>
          intro i B hi hB'
          subst hB'
          refine br_f (nI_ge (by omega) (by omega)) ⟨vp_in_nI (by omega) (by decide), vp_in_nI (by omega) (by decide), nm_e (nm_r (nI_1 i) (ih' (i + 1) _ (by omega) ?_))⟩
          rw [nI_clamp (by omega), (b1 i (by omega)).2, ← fo_cpS]
          rfl
      exact loop (dn root).length 0 yGv (by omega) (fo_cp0 _ _).symm
    | cons t rest =>
      rw [List.length_cons] at hn hN
      cases t with
      | inl L =>
        rw [fg_go_val] at hgo
        refine ih s (L :: st) rest w N g x3 dn ln bl HD LF RG SZ LI SK ST Ft D PC BD K WW O (by omega) (by omega) hs hw (by omega) ?_ H W hx3 hgo
        rw [List.reverse_cons, List.map_append, List.append_assoc]
        exact PF
      | inr t =>
        obtain ⟨k, v, o⟩ := t
        obtain ⟨q, z, hq, tq, ok, ew, hk, hA, hcx⟩ := fy_ctx PF (fun ⟨L, e⟩ => by cases e)
        have e3 : x3 = nI q := by
          rcases hx3 with ⟨q', hq', e⟩ | ⟨hall, _⟩
          · rw [fy_uni hq hq']; exact e
          · exact absurd (hall q hq.1) hq.2.1
        subst e3
        have hqw := hq.1
        obtain ⟨w1, w2, w3⟩ : K q = nI k ∧ WW q = nI v ∧ O q = nI o := by
          rcases W q hqw with ⟨a, m, _, b⟩ | ⟨k', v', o', a, b, d, e, f⟩
          · exact absurd (fy_tok_V.mpr a) hq.2.1
          · rw [fy_tok_t a b d (by omega) (by omega) (by omega)] at tq
            have e' := Sum.inr.inj tq
            cases e'
            exact ⟨a, b, d⟩
        obtain ⟨g, rfl⟩ : ∃ g', g = g' + 1 := ⟨g - 1, by omega⟩
        -- an end that is no value
        have stop : ∀ code, (1 ≤ code ∧ code ≤ 3) → R.1 = code → ∀ (st' bl' : Int32), st' = nI R.2.1 → bl' = nI (R.2.2.1 - 1) → ∀ (nd ln wk : Int32) (HD LF RG SZ LI SK ST Ft D PC BD K WW O : Nat → Int32),
            wY_run_126 post (wY_run_91 post (g + 1)) (nI code) ycc ydr nd ln yal 0 st' bl' 0 yrn wk (fo_n ar) yDk yDw yK yW (fo_n pl) yRl (fo_n rc) HD LF RG SZ LI SK ST yAr yGv Ft D PC BD K WW O yCt yOz yOp yKn := by
          intro code hcode hRc st' bl' e1 e2 nd ln wk HD LF RG SZ LI SK ST Ft D PC BD K WW O
          have hne : ¬ nI code = 0 := nI_ne0 (by omega) (by omega)
          refine br_f hne (br_t (by decide) (br_f hne ?_))
          rw [e1, e2, ← hRc]
          exact hB (by omega) nd ln _ wk HD LF RG SZ LI SK ST Ft D PC BD K WW O
        -- on
        have cont : ∀ s' st' rest' w' N' (dn' : Nat → List Nat) (ln' bl' : Int32) (HD' LF' RG' SZ' LI' SK' ST' Ft' D' PC' BD' K' WW' O' : Nat → Int32), 12 * (100 - s') + rest'.length < n → s' ≤ 100 → w' + 12 * (100 - s') ≤ 1202 →
            N' + (12 * (100 - s') + rest'.length) ≤ 1241 → ff_PF (fg_rt ar c) 1 (fe_sl (fy_tok dn' K' WW' O') 0 w') (st'.reverse.map Sum.inl ++ rest') → fy_H ar c N' HD' LF' RG' SZ' dn' → fy_W c N' w' K' WW' O' →
            fg_go ar (fg_row ar pat pl rc) (fg_res ar pat pl rc pos) n s' st' rest' = R →
            wY_run_126 post (wY_run_91 post (g + 1)) 0 ycc ydr (nI N') ln' yal 0 (nI s') bl' 0 yrn (nI w') (fo_n ar) yDk yDw yK yW (fo_n pl) yRl (fo_n rc) HD' LF' RG' SZ' LI' SK' ST' yAr yGv Ft' D' PC' BD' K' WW' O' yCt yOz yOp yKn := by
          intro s' st' rest' w' N' dn' ln' bl' HD' LF' RG' SZ' LI' SK' ST' Ft' D' PC' BD' K' WW' O' a1 a2 a3 a4 a5 a6 a7 a8
          refine br_t rfl (y_rd (dn := dn') hc ha (by omega) (by omega) a7 (fun q' hq' => ?_) (fun hno hall => ?_) (fy_ex rest' st' a5))
          · exact ih s' st' rest' w' N' g _ dn' ln' bl' HD' LF' RG' SZ' LI' SK' ST' Ft' D' PC' BD' K' WW' O' a1 (by omega) a2 a3 a4 a5 a6 a7 (Or.inl ⟨q', hq', rfl⟩) a8
          · exact ih s' st' rest' w' N' g _ dn' ln' bl' HD' LF' RG' SZ' LI' SK' ST' Ft' D' PC' BD' K' WW' O' a1 (by omega) a2 a3 a4 a5 a6 a7 (Or.inr ⟨hall, rfl⟩) a8
        refine br_f (nI_pos (by omega)) (br_t rfl ⟨vp_in_nI (by omega) (by decide), ?_⟩)
        rw [nI_clamp (by omega), w1]
        obtain ⟨okk, oko⟩ := id ok
        rcases okk with ⟨k2, vc⟩ | ⟨k5, vf⟩
        · -- a constructor
          subst k2
          have hkk : fg_k ar (Sum.inr (2, v, o)) = ar v := rfl
          rw [hkk] at ew hk hA hcx
          refine br_f (by decide) ?_
          subst ew
          refine y_mk (A := (st.take (ar v)).reverse) hc ha vc oko H (by omega) W (by omega) w2 w3 hA (fun big nd HD' LF' RG' SZ' => ?_) (fun big HD' LF' RG' SZ' K' WW' O' H' W' e' => ?_)
          · rw [fg_go_big (show 40 < (fg_mk ar v st).length from big)] at hgo
            exact stop 3 (by omega) (by rw [← hgo]) _ _ (by rw [← hgo]) (by rw [← hgo]; rfl) _ _ _ _ _ _ _ _ _ _ _ _ _ _ _ _ _
          · rw [fg_go_con (show ¬ 40 < (fg_mk ar v st).length from big)] at hgo
            refine cont s (fg_mk ar v st :: st.drop (ar v)) rest (q + 1 + z) (N + 1) _ _ _ _ _ _ _ _ _ _ _ _ _ _ _ _ _ (by omega) hs (by omega) (by omega) ?_ H' W' hgo
            rw [e']
            have := hcx [Sum.inl (fg_mk ar v st)] [Sum.inl (fg_mk ar v st)] (ff_leaf ⟨rfl, rfl, trivial⟩)
            rw [List.reverse_cons, List.map_append, List.append_assoc]
            exact this
        · -- a call
          subst k5
          have hkk : fg_k ar (Sum.inr (5, v, o)) = 1 := rfl
          rw [hkk] at ew hk hA hcx
          refine br_t rfl ?_
          cases st with
          | nil => exact absurd hk (by decide)
          | cons L st =>
            have t1 : fy_tok dn K WW O (q + 1) = Sum.inl L := (List.cons.inj (show [fy_tok dn K WW O (q + 1)] = [Sum.inl L] from hA)).1
            have ew' : w = q + 2 + z := by omega
            subst ew'
            obtain ⟨root, r1, r2, r3⟩ : ∃ root, root < N ∧ WW (q + 1) = nI root ∧ dn root = L := by
              rcases W (q + 1) (by omega) with ⟨a, m, b, d⟩ | ⟨k', v', o', a, b, d, e, _⟩
              · rw [fy_tok_v a d (by omega)] at t1
                exact ⟨m, b, d, Sum.inl.inj t1⟩
              · rw [fy_tok_t a b d (by omega) (by omega) (by omega)] at t1; cases t1
            refine y_cl hc ha vf hrc hR H (by omega) W (by omega) hs w2 r1 r2 (fun z100 => ?_) (fun z100 hrow ln' LI' SK' ST' D' Ft' => ?_) (fun z100 hrow w' ln' LI' SK' ST' D' Ft' PC' BD' K' WW' O' hw' W' e' => ?_)
            · rw [fg_go_long z100] at hgo
              exact stop 2 (by omega) (by rw [← hgo]) _ _ (by rw [← hgo]) (by rw [← hgo]; rfl) _ _ _ _ _ _ _ _ _ _ _ _ _ _ _ _ _
            · rw [r3] at hrow
              rw [fg_go_stuck z100 (show fg_row ar pat pl rc v L = 0 from hrow)] at hgo
              exact stop 1 (by omega) (by rw [← hgo]) _ _ (by rw [← hgo]) (by rw [← hgo]; rfl) _ _ _ _ _ _ _ _ _ _ _ _ _ _ _ _ _
            · rw [r3] at hrow e'
              rw [fg_go_call z100 (show fg_row ar pat pl rc v L ≠ 0 from hrow)] at hgo
              have hwle := fm_row_le ar pat pl rc v (fv_g L) L.length
              have hrv := hrc v
              have hwn : fm_row ar pat pl rc v (fv_g L) L.length ≠ 0 := hrow
              have hrow2 := hR v (fm_row ar pat pl rc v (fv_g L) L.length - 1) vf (by omega)
              have hll : (fg_res ar pat pl rc pos v L).length ≤ 12 := by
                have e1 := (ff_len hrow2.2.2.2.2.1).1
                have e2 := hrow2.2.2.2.2.2.1
                unfold fg_res
                rw [List.length_map]
                show (pos (5 * v + (fm_row ar pat pl rc v (fv_g L) L.length - 1))).length ≤ 12
                omega
              refine cont (s + 1) st (fg_res ar pat pl rc pos v L ++ rest) w' N dn ln' _ _ _ _ _ LI' SK' ST' Ft' D' PC' BD' K' WW' O' ?_ (by omega) (by omega) ?_ ?_ H W' hgo
              · rw [List.length_append]; omega
              · rw [List.length_append]; omega
              · rw [e']
                exact hcx _ _ (fg_PF L vf hrow2.2.2.2.2.1)
end
end
section
section
variable {xcc xdr xas xss xnc xdp xoc xrs xrt xrf xrz : Int32} {xA xD xDe xUw xRc xP xPe xPl xO xOl xAr xS xSe xSn xF xNc xNf xNs xNz xCr xCn xCv xOp xRl xTa xUt : Nat → Int32}
variable {yk yw : Nat → Int32}
/-- the component's run -/
theorem x_run {post : Int32 → SX → Prop} {ar rc pl W : Nat → Nat} {pat : Nat → Nat → Nat} {pre pos : Nat → List Nat} {c f m : Nat}
    (hc : c ≤ 6) (ha : ∀ i, ar i ≤ 2) (hf : f < 4) (hrc : ∀ f, rc f ≤ 5) (hR : fx_rows ar c rc pl pat pre pos xP xPe xO xOl yk yw) (hW : fR_val ar c m W xAr) {R : Nat × Nat × Nat × List Nat}
    (hgo : fg_go ar (fg_row ar pat pl rc) (fg_res ar pat pl rc pos) 1400 0 [fe_sl W 0 m] [Sum.inr (5, f, f)] = R)
    (hO : R.1 = 0 → (∀ (ss nc dp oc : Int32) (S E SN Ft NC NF NS NZ CR CN CV OP : Nat → Int32), post 0 (xcc, xdr, nI m, ss, nc, dp, oc, 0, nI R.2.1, -1, nI R.2.2.2.length, fo_n ar, xD, xDe, xUw, fo_n rc, xP, xPe, fo_n pl, xO, xOl, xAr, S, E, SN, Ft, NC, NF, NS, NZ, CR, CN, CV, OP, fo_cp xRl (fo_n (fv_g R.2.2.2)) R.2.2.2.length, xTa, xUt)))
    (hB : (1 ≤ R.1 ∧ R.1 ≤ 3) → (∀ (ss nc dp oc : Int32) (S E SN Ft NC NF NS NZ CR CN CV OP : Nat → Int32), post (nI R.1) (xcc, xdr, nI m, ss, nc, dp, oc, nI R.1, nI R.2.1, nI (R.2.2.1 - 1), 0, fo_n ar, xD, xDe, xUw, fo_n rc, xP, xPe, fo_n pl, xO, xOl, xAr, S, E, SN, Ft, NC, NF, NS, NZ, CR, CN, CV, OP, xRl, xTa, xUt))) :
    wpX_run post (xcc, xdr, nI m, xss, xnc, xdp, xoc, xrs, xrt, xrf, xrz, fo_n ar, xD, xDe, xUw, fo_n rc, xP, xPe, fo_n pl, xO, xOl, xAr, xS, xSe, xSn, xF, xNc, xNf, xNs, xNz, xCr, xCn, xCv, xOp, xRl, xTa, xUt) (nI f) := by
  have hm40 := hW.1
  have hm0 := hW.2.1.1
  unfold wpX_run
  refine x_isF1 hf (br_f fo_z1 (br_f (nI_ne0 hm0 (by omega)) (x_st hc ha hW (fun S E NC NF NS NZ H => ?_))))
  have eL : fv_sub ar W m 0 = fe_sl W 0 m := fv_sub_0 hW.2.1
  have F0 : fx_FR pos rc m 0 (fun _ => 0) (fun _ => 0) (fun _ => 0) xCr xCn xCv := fun i hi => by omega
  have O0 : ∀ k, k < 1 → (fun _ : Nat => 0) k < m ∧ upd xOp 0 0 k = nI ((fun _ : Nat => 0) k) := fun k hk => by
    have : k = 0 := by omega
    subst this
    exact ⟨hm0, pk_us⟩
  refine x_en (oc := 1) (s := 0) (d := 0) (oo := fun _ => 0) (cr := fun _ => 0) (cn := fun _ => 0) (cv := fun _ => 0) (dn := fun i => fv_sub ar W m i) hc ha hf hrc hR H F0 O0 (by omega) (by omega) (by omega) (by omega) (by omega) (fun z => absurd z (by decide)) (fun _ w ss' S' E' SN' Ft' => ?_) (fun _ w ss' S' E' SN' Ft' CR CN CV cr' cn' cv' F' e' => ?_)
  · rw [eL] at w
    rw [fg_go_stuck (by decide) w] at hgo
    refine ⟨1, br_f (by decide) (br_f (by decide) (br_f (by decide) ?_))⟩
    subst hgo
    exact hB ⟨Nat.le_refl _, show 1 ≤ 3 by decide⟩ _ _ _ _ _ _ _ _ _ _ _ _ _ _ _ _
  · rw [eL] at w e'
    rw [fg_go_call (by decide) w] at hgo
    have hwle := fm_row_le ar pat pl rc f (fv_g (fe_sl W 0 m)) (fe_sl W 0 m).length
    have hrv := hrc f
    have hwn : fm_row ar pat pl rc f (fv_g (fe_sl W 0 m)) (fe_sl W 0 m).length ≠ 0 := w
    have hrow2 := hR f (fm_row ar pat pl rc f (fv_g (fe_sl W 0 m)) (fe_sl W 0 m).length - 1) hf (by omega)
    have hll : (fg_res ar pat pl rc pos f (fe_sl W 0 m)).length ≤ 12 := by
      have e1 := (ff_len hrow2.2.2.2.2.1).1
      have e2 := hrow2.2.2.2.2.2.1
      unfold fg_res
      rw [List.length_map]
      show (pos (5 * f + (fm_row ar pat pl rc f (fv_g (fe_sl W 0 m)) (fe_sl W 0 m).length - 1))).length ≤ 12
      omega
    have elen : (fx_frs pos (fun i => fv_sub ar W m i) cr' cn' cv' 1).length ≤ 12 := by
      show (fx_frs pos (fun i => fv_sub ar W m i) cr' cn' cv' (0 + 1)).length ≤ 12
      rw [e', List.length_append]
      have : (fx_frs pos (fun i => fv_sub ar W m i) (fun _ => 0) (fun _ => 0) (fun _ => 0) 0).length = 0 := rfl
      omega
    refine ⟨3001, x_rl hc ha hrc hR hO hB 3000 1399 1 1 0 m 0 3000 (fun i => fv_sub ar W m i) cr' cn' cv' (fun _ => 0) ss' S' E' SN' Ft' NC NF NS NZ CR CN CV (upd xOp 0 0) (by omega) (Nat.le_refl _) (by omega) (by omega) (Nat.le_refl _) (Nat.le_refl _) (by omega) (by omega) (by omega) H F' (fun k hk => by omega) ?_ ?_⟩
    · show fx_bal ar 0 (fx_frs pos (fun i => fv_sub ar W m i) cr' cn' cv' (0 + 1))
      rw [e']
      exact fx_bal_app (fg_PF (fe_sl W 0 m) hf hrow2.2.2.2.2.1) 0 _ rfl
    · show fg_go ar _ _ 1399 1 [] (fx_frs pos (fun i => fv_sub ar W m i) cr' cn' cv' (0 + 1)) = R
      rw [e']
      exact hgo
end
section
variable {ycc ydr ynd yln yal ygl yst ybl yhw yrn ywk : Int32} {yA yDk yDw yK yW yPl yRl yRc yHd yLf yRg ySz yLi ySk ySt yAr yGv yF yEn yPc yBd yWk yWw yOw yCt yOz yOp yKn : Nat → Int32}
variable {xp xe xo : Nat → Int32}
/-- the reference's run -/
theorem y_run {post : Int32 → SY → Prop} {ar rc pl W : Nat → Nat} {pat : Nat → Nat → Nat} {pre pos : Nat → List Nat} {c f m : Nat}
    (hc : c ≤ 6) (ha : ∀ i, ar i ≤ 2) (hf : f < 4) (hrc : ∀ f, rc f ≤ 5) (hR : fx_rows ar c rc pl pat pre pos xp xe xo yRl yK yW) (hW : fR_val ar c m W yAr) {R : Nat × Nat × Nat × List Nat}
    (hgo : fg_go ar (fg_row ar pat pl rc) (fg_res ar pat pl rc pos) 1400 0 [fe_sl W 0 m] [Sum.inr (5, f, f)] = R)
    (hO : R.1 = 0 → R.2.2.2.length ≤ 40 → fe_full (fm_v ar (fv_g R.2.2.2)) R.2.2.2.length → (∀ i, i < R.2.2.2.length → fv_g R.2.2.2 i < c) →
      (∀ (nd ln hw wk : Int32) (HD LF RG SZ LI SK ST Ft D PC BD K WW O : Nat → Int32), post 0 (ycc, ydr, nd, ln, nI m, nI R.2.2.2.length, nI R.2.1, -1, hw, 1, wk, fo_n ar, yDk, yDw, yK, yW, fo_n pl, yRl, fo_n rc, HD, LF, RG, SZ, LI, SK, ST, yAr, fo_cp yGv (fo_n (fv_g R.2.2.2)) R.2.2.2.length, Ft, D, PC, BD, K, WW, O, yCt, yOz, yOp, yKn)))
    (hB : (1 ≤ R.1 ∧ R.1 ≤ 3) → (∀ (nd ln hw wk : Int32) (HD LF RG SZ LI SK ST Ft D PC BD K WW O : Nat → Int32), post (nI R.1) (ycc, ydr, nd, ln, nI m, 0, nI R.2.1, nI (R.2.2.1 - 1), hw, 1, wk, fo_n ar, yDk, yDw, yK, yW, fo_n pl, yRl, fo_n rc, HD, LF, RG, SZ, LI, SK, ST, yAr, yGv, Ft, D, PC, BD, K, WW, O, yCt, yOz, yOp, yKn))) :
    wpY_run post (ycc, ydr, ynd, yln, nI m, ygl, yst, ybl, yhw, yrn, ywk, fo_n ar, yDk, yDw, yK, yW, fo_n pl, yRl, fo_n rc, yHd, yLf, yRg, ySz, yLi, ySk, ySt, yAr, yGv, yF, yEn, yPc, yBd, yWk, yWw, yOw, yCt, yOz, yOp, yKn) (nI f) := by
  have hm40 := hW.1
  have hm0 := hW.2.1.1
  unfold wpY_run
  refine y_in1 hf (br_f fo_z1 (br_f (nI_ne0 hm0 (by omega)) ?_))
  refine y_ta (W := W) hm40 (fun i hi => (hW.2.2 i hi).2) (fun LI hLI => ?_)
  refine y_ms (S := W) hc hm40 ha hW.2.1 (fun i hi => ⟨(hW.2.2 i hi).1, hLI i hi⟩) (fun D hD => ?_)
  refine y_pt (a := 0) (by decide) ?_
  refine y_bu hc ha hD (fun HD LF RG SZ ST dn H hdn => ?_)
  refine y_pt (a := 1) (by decide) ?_
  have k0 : upd (upd yWk 0 5) 1 6 0 = nI 5 := rfl
  have k1 : upd (upd yWk 0 5) 1 6 1 = 6 := rfl
  have w0 : upd (upd yWw 0 (nI f)) 1 (nI (m - 1)) 0 = nI f := rfl
  have w1 : upd (upd yWw 0 (nI f)) 1 (nI (m - 1)) 1 = nI (m - 1) := rfl
  have o0 : upd (upd yOw 0 (nI f)) 1 (nI f) 0 = nI f := rfl
  have t0 : fy_tok dn (upd (upd yWk 0 5) 1 6) (upd (upd yWw 0 (nI f)) 1 (nI (m - 1))) (upd (upd yOw 0 (nI f)) 1 (nI f)) 0 = Sum.inr (5, f, f) := fy_tok_t k0 w0 o0 (by decide) (by omega) (by omega)
  have t1 : fy_tok dn (upd (upd yWk 0 5) 1 6) (upd (upd yWw 0 (nI f)) 1 (nI (m - 1))) (upd (upd yOw 0 (nI f)) 1 (nI f)) 1 = Sum.inl (fe_sl W 0 m) := by
    rw [fy_tok_v k1 w1 (by omega), hdn]
  have W2 : fy_W c m 2 (upd (upd yWk 0 5) 1 6) (upd (upd yWw 0 (nI f)) 1 (nI (m - 1))) (upd (upd yOw 0 (nI f)) 1 (nI f)) := by
    intro i hi
    by_cases e : i = 0
    · subst e; exact Or.inr ⟨5, f, f, k0, w0, o0, Or.inr ⟨rfl, hf⟩, hf⟩
    · have : i = 1 := by omega
      subst this
      exact Or.inl ⟨k1, m - 1, by omega, w1⟩
  have PF : ff_PF (fg_rt ar c) 1 (fe_sl (fy_tok dn (upd (upd yWk 0 5) 1 6) (upd (upd yWw 0 (nI f)) 1 (nI (m - 1))) (upd (upd yOw 0 (nI f)) 1 (nI f))) 0 2) ([fe_sl W 0 m].reverse.map Sum.inl ++ [Sum.inr (5, f, f)]) := by
    show ff_PF (fg_rt ar c) 1 [fy_tok dn _ _ _ 0, fy_tok dn _ _ _ 1] ([Sum.inl (fe_sl W 0 m)] ++ [Sum.inr (5, f, f)])
    rw [t0, t1]
    exact ff_one (k := 1) ⟨rfl, rfl, Or.inr ⟨rfl, hf⟩, hf⟩ (ff_leaf ⟨rfl, rfl, trivial⟩)
  refine y_rd (dn := dn) hc ha (w := 2) (by omega) (by omega) W2 (fun q hq => ⟨1401, ?_⟩) (fun hno hall => ⟨1401, ?_⟩) (fy_ex [Sum.inr (5, f, f)] [fe_sl W 0 m] PF)
  · exact y_rl hc ha hrc hR hO hB 1400 0 [fe_sl W 0 m] [Sum.inr (5, f, f)] 2 m 1400 (nI q) dn _ _ HD LF RG SZ _ _ ST _ D _ _ _ _ _ (show 12 * (100 - 0) + 1 < 1400 by decide) (Nat.le_refl _) (by omega) (by omega) (by show m + 1201 ≤ 1241; omega) PF H W2 (Or.inl ⟨q, hq, rfl⟩) hgo
  · exact y_rl hc ha hrc hR hO hB 1400 0 [fe_sl W 0 m] [Sum.inr (5, f, f)] 2 m 1400 (-1) dn _ _ HD LF RG SZ _ _ ST _ D _ _ _ _ _ (show 12 * (100 - 0) + 1 < 1400 by decide) (Nat.le_refl _) (by omega) (by omega) (by show m + 1201 ≤ 1241; omega) PF H W2 (Or.inr ⟨hall, rfl⟩) hgo
end
end
section
theorem i_vc_run {k : Nat} {u : SX} {v : SY} (I : i_Rel k u v) (hk : k + 4 ≤ 2048) (v1 : Int32) : wpX_run (fun r u' => wpY_run (fun r' v' => r' = r ∧ i_Rel (k + 4) u' v') v v1) u v1 := by
  refine i_el (P := fun u v => wpX_run (fun r u' => wpY_run (fun r' v' => r' = r ∧ i_Rel (k + 4) u' v') v v1) u v1) I ?_
  intro c n m g ar rc pl T pat pre pos arg giv xss xnc xdp xoc xrs xrt xrf ynd yln yhw yrn ywk xD xDe xUw xP xPe xO xOl xAr xS xSe xSn xF xNc xNf xNs xNz xCr xCn xCv xOp xRl xTa xUt yDk yDw yK yW yHd yLf yRg ySz yLi ySk ySt yF yEn yPc yBd yWk yWw yOw yCt yOz yOp yKn G
  rcases fo_f4 v1 with h | ⟨f, hf, rfl⟩
  · unfold wpX_run
    refine x_isF0 h (br_t rfl ?_)
    unfold wpY_run
    exact y_in0 h (br_t rfl ⟨rfl, i_mk G⟩)
  by_cases m0 : m = 0
  · subst m0
    unfold wpX_run
    refine x_isF1 hf (br_f fo_z1 (br_t rfl ?_))
    unfold wpY_run
    exact y_in1 hf (br_f fo_z1 (br_t rfl ⟨rfl, i_mk G⟩))
  obtain ⟨g1, g2, g3, g4, g5, g6, g7, g8, g9⟩ := id G
  have hv := g7.resolve_left m0
  generalize hgo : fg_go ar (fg_row ar pat pl rc) (fg_res ar pat pl rc pos) 1400 0 [fe_sl arg 0 m] [Sum.inr (5, f, f)] = R
  refine x_run (W := arg) g1 g3 hf g4 g6 hv hgo (fun z ss nc dp oc S E SN Ft NC NF NS NZ CR CN CV OP => ?_) (fun z ss nc dp oc S E SN Ft NC NF NS NZ CR CN CV OP => ?_)
  · refine y_run (W := arg) g1 g3 hf g4 g6 hv hgo (fun _ q1 q2 q3 nd ln hw wk HD LF RG SZ LI SK ST Ft' D PC BD K WW O => ⟨rfl, ?_⟩) (fun q => by omega)
    exact i_mk (c := c) (n := n) (m := m) (g := R.2.2.2.length) (ar := ar) (rc := rc) (pl := pl) (T := T) (pat := pat) (pre := pre) (pos := pos) (arg := arg) (giv := fv_g R.2.2.2) ⟨g1, g2, g3, g4, g5, g6, g7, Or.inr (Or.inl ⟨rfl, rfl, q1, q2, fun i hi => ⟨q3 i hi, by rw [fo_cpl hi]; rfl⟩⟩), g9⟩
  · refine y_run (W := arg) g1 g3 hf g4 g6 hv hgo (fun q => by omega) (fun _ nd ln hw wk HD LF RG SZ LI SK ST Ft' D PC BD K WW O => ⟨rfl, ?_⟩)
    refine i_mk (c := c) (n := n) (m := m) (g := 0) (ar := ar) (rc := rc) (pl := pl) (T := T) (pat := pat) (pre := pre) (pos := pos) (arg := arg) (giv := giv) ⟨g1, g2, g3, g4, g5, g6, g7, Or.inr (Or.inr ⟨rfl, ?_, ?_, rfl⟩), g9⟩
    · exact nI_ne0 (by omega) (by omega)
    · exact fun q => absurd (q ▸ nI_pos' (n := R.1) (by omega)) (by decide)
end
