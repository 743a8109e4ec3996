theorem pk_us {f : Nat → Int32} {k : Nat} {x : Int32} : upd f k x k = x := if_pos rfl
theorem pk_un {f : Nat → Int32} {k j : Nat} {x : Int32} (h : j ≠ k) : upd f k x j = f j := if_neg h
theorem pk_sub {a b : Nat} (h : b ≤ a) : nI a - nI b = nI (a - b) := by
  obtain ⟨c, rfl⟩ : ∃ c, a = c + b := ⟨a - b, by omega⟩
  rw [← nI_add, Int32.add_sub_cancel, Nat.add_sub_cancel]
theorem pk_m1 (n : Nat) : nI (n + 1) + (-1) = nI n := by
  rw [← nI_1, Int32.add_assoc, show (1 : Int32) + (-1) = 0 from rfl, Int32.add_zero]
theorem pk_mul (a b : Nat) : nI a * nI b = nI (a * b) := (Int32.ofNat_mul a b).symm
theorem pk_div {a d : Nat} (ha : a < 2 ^ 31) (h0 : 0 < d) (hd : d < 2 ^ 31) : nI a / nI d = nI (a / d) := by
  apply Int32.toInt_inj.mp
  rw [lg_idiv_nonneg (by rw [nI_toInt ha]; omega) (by rw [nI_toInt hd]; omega), nI_toInt ha, nI_toInt hd, nI_toInt (Nat.lt_of_le_of_lt (Nat.div_le_self a d) ha)]
  first | rfl | exact (Int.natCast_ediv _ _).symm
theorem pk_rem {a d : Nat} (ha : a < 2 ^ 31) (h0 : 0 < d) (hd : d < 2 ^ 31) : nI a - nI a / nI d * nI d = nI (a % d) := by
  rw [pk_div ha h0 hd, pk_mul, pk_sub (Nat.div_mul_le_self a d)]
  exact congrArg nI (by have := Nat.div_add_mod' a d; omega)
theorem pk_sub_toInt {a b : Nat} (ha : a < 2 ^ 30) (hb : b < 2 ^ 30) : (nI a - nI b).toInt = (a : Int) - b := by
  rw [Int32.toInt_sub, nI_toInt (by omega), nI_toInt (by omega)]
  exact Int.bmod_eq_of_le (by omega) (by omega)
theorem pk_sneg {a b : Nat} (hb : b < 2 ^ 30) (h : a < b) : nI a - nI b < 0 := by
  rw [Int32.lt_iff_toInt_lt, pk_sub_toInt (by omega) hb, show (0 : Int32).toInt = 0 from by decide]
  omega
theorem pk_ix (x : Int32) {n : Nat} (hn : n < 2 ^ 31) : x < 0 ∨ nI n ≤ x ∨ ∃ j : Nat, j < n ∧ x = nI j := by
  by_cases h : x < 0
  · exact Or.inl h
  · obtain ⟨j, hj, rfl⟩ := nI_of h
    by_cases h2 : j < n
    · exact Or.inr (Or.inr ⟨j, h2, rfl⟩)
    · exact Or.inr (Or.inl (nI_le (by omega) hj))
theorem pk_le {x y : Int32} {A B : Prop} (a b : Nat) (f : a ≤ b → A) (g : b < a → B) (hx : x = nI a := by rfl) (hy : y = nI b := by rfl) (ha : a < 2 ^ 31 := by omega) (hb : b < 2 ^ 31 := by omega) : (x ≤ y → A) ∧ (¬ x ≤ y → B) := by
  subst hx hy
  rw [nI_leI ha hb]
  exact ⟨f, fun z => g (by omega)⟩
theorem pk_lt {x y : Int32} {A B : Prop} (a b : Nat) (f : a < b → A) (g : b ≤ a → B) (hx : x = nI a := by rfl) (hy : y = nI b := by rfl) (ha : a < 2 ^ 31 := by omega) (hb : b < 2 ^ 31 := by omega) : (x < y → A) ∧ (¬ x < y → B) := by
  subst hx hy
  rw [nI_ltI ha hb]
  exact ⟨f, fun z => g (by omega)⟩
theorem pk_eq {x y : Int32} {A B : Prop} (a b : Nat) (f : a = b → A) (g : a ≠ b → B) (hx : x = nI a := by rfl) (hy : y = nI b := by rfl) (ha : a < 2 ^ 31 := by omega) (hb : b < 2 ^ 31 := by omega) : (x = y → A) ∧ (¬ x = y → B) := by
  subst hx hy
  rw [nI_eq ha hb]
  exact ⟨f, g⟩
theorem pk_in {x : Int32} (n N : Nat) (h : n < N) (hx : x = nI n := by rfl) (hN : N < 2 ^ 31 := by omega) : vp_in x N := by
  subst hx
  exact vp_in_nI h hN
theorem pk_cl {x : Int32} (n : Nat) (hx : x = nI n := by rfl) (h : n < 2 ^ 31 := by omega) : x.toNatClampNeg = n := by
  subst hx
  exact nI_clamp h
theorem pk_tn {n : Nat} (h : n < 2 ^ 32) : (nI n).toBitVec.toNat = n := Nat.mod_eq_of_lt h
theorem pk_loop {σ : Type} (W : Nat → Nat → σ → Prop) (I : Nat → σ → Prop) (e i0 : Nat) (s : σ) (hi : i0 ≤ e) (h0 : I i0 s) (hx : ∀ n s, I e s → W (n + 1) e s)
    (hs : ∀ n i s, i < e → I i s → (∀ s', I (i + 1) s' → W n (i + 1) s') → W (n + 1) i s) : ∃ n, W n i0 s :=
  ⟨e + 1, loop_i W I e hx hs (e + 1) i0 s hi (by omega) h0⟩
theorem pk_loopD {σ : Type} (W : Nat → Nat → σ → Prop) (I : Nat → σ → Prop) (hx : ∀ n s, I 0 s → W (n + 1) 0 s)
    (hs : ∀ n i s, I (i + 1) s → (∀ s', I i s' → W n i s') → W (n + 1) (i + 1) s) : ∀ (e : Nat) (s : σ), I e s → W (e + 1) e s := by
  intro e
  induction e with
  | zero => exact fun s h => hx 0 s h
  | succ e ih => exact fun s h => hs (e + 1) e s h (fun s' h' => ih s' h')
theorem lp1 {A1 : Type} (W : Nat → A1 → Prop) (I : A1 → Prop) (μ : A1 → Nat) (hs : ∀ (n : Nat) (a1 : A1), I a1 → (∀ (b1 : A1), I b1 → μ b1 < μ a1 → W n b1) → W (n + 1) a1) (a1 : A1) (h : I a1) : ∃ n, W n a1 :=
  loop_m (σ := A1) (fun n s => W n s) (fun s => I s) (fun s => μ s) (fun n s hI hk => hs n s hI (fun b1 h9 hm => hk b1 h9 hm)) a1 h
theorem lp2 {A1 A2 : Type} (W : Nat → A1 → A2 → Prop) (I : A1 → A2 → Prop) (μ : A1 → A2 → Nat) (hs : ∀ (n : Nat) (a1 : A1) (a2 : A2), I a1 a2 → (∀ (b1 : A1) (b2 : A2), I b1 b2 → μ b1 b2 < μ a1 a2 → W n b1 b2) → W (n + 1) a1 a2) (a1 : A1) (a2 : A2) (h : I a1 a2) : ∃ n, W n a1 a2 :=
  loop_m (σ := A1 × A2) (fun n s => W n s.1 s.2) (fun s => I s.1 s.2) (fun s => μ s.1 s.2) (fun n s hI hk => hs n s.1 s.2 hI (fun b1 b2 h9 hm => hk (b1, b2) h9 hm)) (a1, a2) h
theorem lp3 {A1 A2 A3 : Type} (W : Nat → A1 → A2 → A3 → Prop) (I : A1 → A2 → A3 → Prop) (μ : A1 → A2 → A3 → Nat) (hs : ∀ (n : Nat) (a1 : A1) (a2 : A2) (a3 : A3), I a1 a2 a3 → (∀ (b1 : A1) (b2 : A2) (b3 : A3), I b1 b2 b3 → μ b1 b2 b3 < μ a1 a2 a3 → W n b1 b2 b3) → W (n + 1) a1 a2 a3) (a1 : A1) (a2 : A2) (a3 : A3) (h : I a1 a2 a3) : ∃ n, W n a1 a2 a3 :=
  loop_m (σ := A1 × A2 × A3) (fun n s => W n s.1 s.2.1 s.2.2) (fun s => I s.1 s.2.1 s.2.2) (fun s => μ s.1 s.2.1 s.2.2) (fun n s hI hk => hs n s.1 s.2.1 s.2.2 hI (fun b1 b2 b3 h9 hm => hk (b1, b2, b3) h9 hm)) (a1, a2, a3) h
theorem lp4 {A1 A2 A3 A4 : Type} (W : Nat → A1 → A2 → A3 → A4 → Prop) (I : A1 → A2 → A3 → A4 → Prop) (μ : A1 → A2 → A3 → A4 → Nat) (hs : ∀ (n : Nat) (a1 : A1) (a2 : A2) (a3 : A3) (a4 : A4), I a1 a2 a3 a4 → (∀ (b1 : A1) (b2 : A2) (b3 : A3) (b4 : A4), I b1 b2 b3 b4 → μ b1 b2 b3 b4 < μ a1 a2 a3 a4 → W n b1 b2 b3 b4) → W (n + 1) a1 a2 a3 a4) (a1 : A1) (a2 : A2) (a3 : A3) (a4 : A4) (h : I a1 a2 a3 a4) : ∃ n, W n a1 a2 a3 a4 :=
  loop_m (σ := A1 × A2 × A3 × A4) (fun n s => W n s.1 s.2.1 s.2.2.1 s.2.2.2) (fun s => I s.1 s.2.1 s.2.2.1 s.2.2.2) (fun s => μ s.1 s.2.1 s.2.2.1 s.2.2.2) (fun n s hI hk => hs n s.1 s.2.1 s.2.2.1 s.2.2.2 hI (fun b1 b2 b3 b4 h9 hm => hk (b1, b2, b3, b4) h9 hm)) (a1, a2, a3, a4) h
/-- an array of naturals -/
def fo_n (g : Nat → Nat) : Nat → Int32 := fun i => nI (g i)
def fo_u (g : Nat → Nat) (k x : Nat) : Nat → Nat := fun j => if j = k then x else g j
theorem fo_us {g : Nat → Nat} {k x : Nat} : fo_u g k x k = x := if_pos rfl
theorem fo_un {g : Nat → Nat} {k x j : Nat} (h : j ≠ k) : fo_u g k x j = g j := if_neg h
theorem fo_nu (g : Nat → Nat) (k x : Nat) : upd (fo_n g) k (nI x) = fo_n (fo_u g k x) := by
  funext j
  unfold upd fo_n fo_u
  split <;> rfl
/-- a truth value as the machine has it -/
def fo_b (b : Bool) : Int32 := if b = true then 1 else 0
theorem fo_b1 : fo_b true = 1 := rfl
theorem fo_b0 : fo_b false = 0 := rfl
theorem fo_bz (b : Bool) : fo_b b = 0 ↔ b = false := by cases b <;> decide
theorem fo_bo (b : Bool) : fo_b b = 1 ↔ b = true := by cases b <;> decide
theorem fo_bn (b : Bool) : narrow .boolean (.int (fo_b b)) = .int (fo_b b) := by cases b <;> rfl
theorem fo_bv (b : Bool) : vp_nar .boolean (fo_b b) = fo_b b := by cases b <;> rfl
theorem fo_bf (b : Bool) : fits .boolean (.int (fo_b b)) = true := by cases b <;> rfl
/-- operands of the token 8 * kind + v -/
def fo_op (ar : Nat → Nat) (t : Nat) : Nat := if t / 8 = 2 then ar (t % 8) else if t / 8 = 3 then 2 else if t / 8 = 4 ∨ t / 8 = 5 then 1 else 0
/-- a token as it may stand in the draft, with c constructors -/
def fo_tk (c t : Nat) : Prop := t / 8 = 0 ∨ (t / 8 = 1 ∧ t % 8 < 4) ∨ (t / 8 = 2 ∧ t % 8 < c) ∨ t / 8 = 3 ∨ t / 8 = 4 ∨ (t / 8 = 5 ∧ t % 8 < 4)
theorem fo_tk_le {c t : Nat} (h : fo_tk c t) : t < 48 := by
  unfold fo_tk at h
  omega
theorem fo_tk_up {c c' t : Nat} (h : fo_tk c t) (hc : c ≤ c') : fo_tk c' t := by
  unfold fo_tk at h ⊢
  omega
theorem fo_op_up {ar : Nat → Nat} {c t x : Nat} (h : fo_tk c t) : fo_op (fo_u ar c x) t = fo_op ar t := by
  unfold fo_tk at h
  unfold fo_op
  by_cases k2 : t / 8 = 2
  · rw [if_pos k2, if_pos k2, fo_un (by omega)]
  · rw [if_neg k2, if_neg k2]
theorem fo_op_le {ar : Nat → Nat} (ha : ∀ i, ar i ≤ 2) (t : Nat) : fo_op ar t ≤ 2 := by
  unfold fo_op
  have := ha (t % 8)
  split
  · exact this
  · split
    · omega
    · split <;> omega
theorem fo_op2 {ar : Nat → Nat} {t : Nat} (h : t / 8 = 2) : fo_op ar t = ar (t % 8) := if_pos h
theorem fo_op3 {ar : Nat → Nat} {t : Nat} (h : t / 8 = 3) : fo_op ar t = 2 := by
  unfold fo_op; rw [if_neg (by omega), if_pos h]
theorem fo_op45 {ar : Nat → Nat} {t : Nat} (h : t / 8 = 4 ∨ t / 8 = 5) : fo_op ar t = 1 := by
  unfold fo_op; rw [if_neg (by omega), if_neg (by omega), if_pos h]
theorem fo_op01 {ar : Nat → Nat} {t : Nat} (h : t / 8 = 0 ∨ t / 8 = 1) : fo_op ar t = 0 := by
  unfold fo_op; rw [if_neg (by omega), if_neg (by omega), if_neg (by omega)]
/-- a known number, before a predicate is met -/
theorem fo_ih {α : Type} {P : α → Prop} {a b : α} (e : a = b) (h : P b) : P a := e ▸ h
theorem fo_br {b : Bool} {A B : Prop} (h1 : b = false → A) (h2 : b = true → B) : (fo_b b = 0 → A) ∧ (¬ fo_b b = 0 → B) :=
  ⟨fun h => h1 ((fo_bz b).mp h), fun h => h2 (by cases b with | true => rfl | false => exact absurd rfl h)⟩
theorem fo_d8 {t : Nat} (h : t < 2 ^ 31) : nI t / 8 = nI (t / 8) := pk_div h (by decide) (by decide)
theorem fo_r8 {t : Nat} (h : t < 2 ^ 31) : nI t - nI t / 8 * 8 = nI (t % 8) := pk_rem h (by decide) (by decide)
theorem fo_d5 {t : Nat} (h : t < 2 ^ 31) : nI t / 5 = nI (t / 5) := pk_div h (by decide) (by decide)
theorem fo_m5 (t : Nat) : nI t * 5 = nI (t * 5) := pk_mul t 5
theorem fo_m12 (t : Nat) : nI t * 12 = nI (t * 12) := pk_mul t 12
theorem fo_m40 (t : Nat) : nI t * 40 = nI (t * 40) := pk_mul t 40
theorem fo_m4 (t : Nat) : nI t * 4 = nI (t * 4) := pk_mul t 4
theorem fo_5m (t : Nat) : 5 * nI t = nI (5 * t) := pk_mul 5 t
theorem fo_24m (t : Nat) : 24 * nI t = nI (24 * t) := pk_mul 24 t
theorem fo_30m (t : Nat) : 30 * nI t = nI (30 * t) := pk_mul 30 t
theorem fo_40m (t : Nat) : 40 * nI t = nI (40 * t) := pk_mul 40 t
theorem fo_s1 {t : Nat} (h : 1 ≤ t) : nI t - 1 = nI (t - 1) := pk_sub (b := 1) h
theorem fo_p1 {t : Nat} (h : 1 ≤ t) : nI t + (-1) = nI (t - 1) := by
  obtain ⟨u, rfl⟩ : ∃ u, t = u + 1 := ⟨t - 1, by omega⟩
  exact pk_m1 u
