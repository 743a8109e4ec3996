/-- skip k terms from i with d tokens at hand; 1000: tokens are wanting -/
def fe_en (op : Nat → Nat) : Nat → Nat → Nat → Nat
  | _, 0, i => i
  | 0, _ + 1, _ => 1000
  | d + 1, k + 1, i => fe_en op d (op i + k) (i + 1)
theorem fe_en0 (op : Nat → Nat) (d i : Nat) : fe_en op d 0 i = i := by cases d <;> rfl
theorem fe_enz (op : Nat → Nat) (k i : Nat) : fe_en op 0 (k + 1) i = 1000 := rfl
theorem fe_ens (op : Nat → Nat) (d k i : Nat) : fe_en op (d + 1) (k + 1) i = fe_en op d (op i + k) (i + 1) := rfl
/-- where it ends -/
theorem fe_rng (op : Nat → Nat) : ∀ d k i, fe_en op d k i = 1000 ∨ (i + k ≤ fe_en op d k i ∧ fe_en op d k i ≤ i + d) := by
  intro d
  induction d with
  | zero =>
    intro k i
    cases k with
    | zero => right; rw [fe_en0]; omega
    | succ k => left; rfl
  | succ d ih =>
    intro k i
    cases k with
    | zero => right; rw [fe_en0]; omega
    | succ k =>
      rw [fe_ens]
      rcases ih (op i + k) (i + 1) with h | ⟨h1, h2⟩
      · left; exact h
      · right; omega
/-- k + m terms: k, then m -/
theorem fe_add (op : Nat → Nat) (m : Nat) : ∀ d k i e, fe_en op d k i = e → e ≤ i + d → i + d < 1000 →
    fe_en op d (k + m) i = fe_en op (i + d - e) m e := by
  intro d
  induction d with
  | zero =>
    intro k i e h he hb
    cases k with
    | zero => rw [fe_en0] at h; subst h; rw [Nat.zero_add]; congr 1; omega
    | succ k => rw [fe_enz] at h; omega
  | succ d ih =>
    intro k i e h he hb
    cases k with
    | zero => rw [fe_en0] at h; subst h; rw [Nat.zero_add]; congr 1; omega
    | succ k =>
      rw [fe_ens] at h
      have h2 := ih (op i + k) (i + 1) e h (by omega) (by omega)
      rw [show k + 1 + m = (k + m) + 1 by omega, fe_ens, ← Nat.add_assoc, h2]
      congr 1; omega
/-- one term more, as a table walks -/
theorem fe_snoc (op : Nat → Nat) : ∀ d k i, i + d < 1000 →
    fe_en op d (k + 1) i = if fe_en op d k i < i + d then fe_en op (i + d - fe_en op d k i) 1 (fe_en op d k i) else 1000 := by
  intro d k i hb
  rcases fe_rng op d k i with h | ⟨h1, h2⟩
  · rw [if_neg (by omega)]
    -- wanting k terms, k + 1 are wanting too
    have : ∀ d k i, fe_en op d k i = 1000 → i + d < 1000 → fe_en op d (k + 1) i = 1000 := by
      intro d
      induction d with
      | zero => intro k i h _; rfl
      | succ d ih =>
        intro k i h hb
        cases k with
        | zero => rw [fe_en0] at h; omega
        | succ k =>
          rw [fe_ens] at h
          rw [fe_ens, ← Nat.add_assoc]
          exact ih _ _ h (by omega)
    exact this d k i h hb
  · rw [fe_add op 1 d k i _ rfl h2 hb]
    by_cases hlt : fe_en op d k i < i + d
    · rw [if_pos hlt]
    · rw [if_neg hlt, show i + d - fe_en op d k i = 0 by omega]
      rfl
/-- the same tokens, the same end -/
theorem fe_congr (op op' : Nat → Nat) : ∀ d k i, (∀ j, i ≤ j → j < i + d → op j = op' j) → fe_en op d k i = fe_en op' d k i := by
  intro d
  induction d with
  | zero => intro k i _; cases k <;> rfl
  | succ d ih =>
    intro k i h
    cases k with
    | zero => rw [fe_en0, fe_en0]
    | succ k =>
      rw [fe_ens, fe_ens, h i (by omega) (by omega)]
      exact ih _ _ (fun j a b => h j (by omega) (by omega))
/-- more tokens at hand change nothing -/
theorem fe_more (op : Nat → Nat) : ∀ d k i e, fe_en op d k i = e → e ≤ i + d → i + d < 1000 → ∀ d', e ≤ i + d' → fe_en op d' k i = e := by
  intro d
  induction d with
  | zero =>
    intro k i e h he hb d' hd
    cases k with
    | zero => rw [fe_en0] at h ⊢; exact h
    | succ k => rw [fe_enz] at h; omega
  | succ d ih =>
    intro k i e h he hb d' hd
    cases k with
    | zero => rw [fe_en0] at h ⊢; exact h
    | succ k =>
      rw [fe_ens] at h
      have hr := fe_rng op d (op i + k) (i + 1)
      cases d' with
      | zero => omega
      | succ d' =>
        rw [fe_ens]
        exact ih _ _ e h (by omega) (by omega) d' (by omega)
/-- a shift of the list -/
theorem fe_shift (op : Nat → Nat) (b : Nat) : ∀ d k i, i + d + b < 1000 → fe_en (fun j => op (b + j)) d k i = 1000 ∧ fe_en op d k (b + i) = 1000 ∨ fe_en op d k (b + i) = b + fe_en (fun j => op (b + j)) d k i := by
  intro d
  induction d with
  | zero =>
    intro k i _
    cases k with
    | zero => right; rw [fe_en0, fe_en0]
    | succ k => left; exact ⟨rfl, rfl⟩
  | succ d ih =>
    intro k i hb
    cases k with
    | zero => right; rw [fe_en0, fe_en0]
    | succ k =>
      rw [fe_ens, fe_ens, show b + i + 1 = b + (i + 1) by omega]
      exact ih _ _ (by omega)
/-- a piece of an array as a list -/
def fe_sl {α : Type} (f : Nat → α) : Nat → Nat → List α
  | _, 0 => []
  | i, n + 1 => f i :: fe_sl f (i + 1) n
theorem fe_sl_len {α : Type} (f : Nat → α) : ∀ n i, (fe_sl f i n).length = n := by
  intro n
  induction n with
  | zero => intro i; rfl
  | succ n ih => intro i; show (fe_sl f (i + 1) n).length + 1 = n + 1; rw [ih]
theorem fe_sl_add {α : Type} (f : Nat → α) (m : Nat) : ∀ n i, fe_sl f i (n + m) = fe_sl f i n ++ fe_sl f (i + n) m := by
  intro n
  induction n with
  | zero => intro i; rw [Nat.zero_add, Nat.add_zero]; rfl
  | succ n ih =>
    intro i
    rw [show n + 1 + m = (n + m) + 1 by omega]
    show f i :: fe_sl f (i + 1) (n + m) = f i :: (fe_sl f (i + 1) n ++ fe_sl f (i + (n + 1)) m)
    rw [ih, show i + 1 + n = i + (n + 1) by omega]
theorem fe_sl_snoc {α : Type} (f : Nat → α) (i n : Nat) : fe_sl f i (n + 1) = fe_sl f i n ++ [f (i + n)] := fe_sl_add f 1 n i
theorem fe_sl_congr {α : Type} (f g : Nat → α) : ∀ n i j, (∀ t, t < n → f (i + t) = g (j + t)) → fe_sl f i n = fe_sl g j n := by
  intro n
  induction n with
  | zero => intro i j _; rfl
  | succ n ih =>
    intro i j h
    show f i :: fe_sl f (i + 1) n = g j :: fe_sl g (j + 1) n
    rw [ih (i + 1) (j + 1) (fun t ht => by have := h (t + 1) (by omega); rwa [show i + (t + 1) = i + 1 + t by omega, show j + (t + 1) = j + 1 + t by omega] at this)]
    have h0 := h 0 (by omega)
    rw [Nat.add_zero, Nat.add_zero] at h0
    rw [h0]
theorem fe_sl_map {α β : Type} (g : α → β) (f : Nat → α) : ∀ n i, (fe_sl f i n).map g = fe_sl (fun j => g (f j)) i n := by
  intro n
  induction n with
  | zero => intro i; rfl
  | succ n ih => intro i; show g (f i) :: (fe_sl f (i + 1) n).map g = g (f i) :: fe_sl (fun j => g (f j)) (i + 1) n; rw [ih]
theorem fe_sl_get {α : Type} (f : Nat → α) : ∀ n i t, t < n → (fe_sl f i n)[t]? = some (f (i + t)) := by
  intro n
  induction n with
  | zero => intro i t h; omega
  | succ n ih =>
    intro i t h
    cases t with
    | zero => rfl
    | succ t =>
      show (fe_sl f (i + 1) n)[t]? = some (f (i + (t + 1)))
      rw [ih (i + 1) t (by omega), show i + 1 + t = i + (t + 1) by omega]
/-- a part fails: the whole fails -/
theorem fe_fail (op : Nat → Nat) (m : Nat) : ∀ d k i, fe_en op d k i = 1000 → i + d < 1000 → fe_en op d (k + m) i = 1000 := by
  intro d
  induction d with
  | zero =>
    intro k i h hb
    cases k with
    | zero => rw [fe_en0] at h; omega
    | succ k => rw [show k + 1 + m = (k + m) + 1 by omega]; rfl
  | succ d ih =>
    intro k i h hb
    cases k with
    | zero => rw [fe_en0] at h; omega
    | succ k =>
      rw [fe_ens] at h
      rw [show k + 1 + m = (k + m) + 1 by omega, fe_ens, ← Nat.add_assoc]
      exact ih _ _ h (by omega)
theorem fe_pre (op : Nat → Nat) {d k m i e : Nat} (h : fe_en op d (k + m) i = e) (he : e ≤ i + d) (hb : i + d < 1000) :
    ∃ e1, fe_en op d k i = e1 ∧ i + k ≤ e1 ∧ e1 + m ≤ e ∧ fe_en op (i + d - e1) m e1 = e := by
  rcases fe_rng op d k i with f | ⟨f1, f2⟩
  · have := fe_fail op m d k i f hb
    omega
  · refine ⟨_, rfl, f1, ?_, ?_⟩
    · have g := fe_add op m d k i _ rfl f2 hb
      rw [g] at h
      rcases fe_rng op (i + d - fe_en op d k i) m (fe_en op d k i) with w | ⟨w1, w2⟩ <;> omega
    · rw [← fe_add op m d k i _ rfl f2 hb]; exact h
/-- a term that fills a list from fr on: each place begins a term within it -/
theorem fe_sub (op : Nat → Nat) {fr n : Nat} (h : fe_en op (n - fr) 1 fr = n) (hn : n < 1000) : ∀ i, fr ≤ i → i < n →
    i < fe_en op (n - i) 1 i ∧ fe_en op (n - i) 1 i ≤ n := by
  have walk : ∀ t, fr + t ≤ n → ∃ k, fe_en op (n - (fr + t)) k (fr + t) = n := by
    intro t
    induction t with
    | zero => intro _; exact ⟨1, h⟩
    | succ t ih =>
      intro hi
      obtain ⟨k, hk⟩ := ih (by omega)
      cases k with
      | zero => rw [fe_en0] at hk; omega
      | succ k =>
        rw [show n - (fr + t) = (n - (fr + (t + 1))) + 1 by omega, fe_ens] at hk
        exact ⟨_, hk⟩
  intro i h0 hi
  obtain ⟨k, hk⟩ := walk (i - fr) (by omega)
  rw [show fr + (i - fr) = i by omega] at hk
  cases k with
  | zero => rw [fe_en0] at hk; omega
  | succ k =>
    rw [show k + 1 = 1 + k by omega] at hk
    obtain ⟨e1, h1, h2, h3, _⟩ := fe_pre op hk (by omega) (by omega)
    rw [h1]
    omega
/-- the end of the term at i, of n tokens -/
def fe_pe (op : Nat → Nat) (n i : Nat) : Nat := fe_en op (n - i) 1 i
theorem fe_pe_def (op : Nat → Nat) {n i : Nat} (h : i < n) : fe_pe op n i = fe_en op (n - (i + 1)) (op i) (i + 1) := by
  unfold fe_pe
  rw [show n - i = (n - (i + 1)) + 1 by omega, fe_ens]
  rfl
/-- a table's inner step -/
theorem fe_pe_snoc (op : Nat → Nat) {n i : Nat} (hi : i < n) (hn : n < 1000) (k : Nat) :
    fe_en op (n - (i + 1)) (k + 1) (i + 1) = if fe_en op (n - (i + 1)) k (i + 1) < n then fe_pe op n (fe_en op (n - (i + 1)) k (i + 1)) else 1000 := by
  have h := fe_snoc op (n - (i + 1)) k (i + 1) (by omega)
  rw [show i + 1 + (n - (i + 1)) = n by omega] at h
  exact h
theorem fe_pe_rng (op : Nat → Nat) {n i : Nat} (hi : i ≤ n) : fe_pe op n i = 1000 ∨ (i < fe_pe op n i ∧ fe_pe op n i ≤ n) := by
  unfold fe_pe
  rcases fe_rng op (n - i) 1 i with h | ⟨h1, h2⟩
  · exact Or.inl h
  · right; omega
theorem fe_pe_sub (op : Nat → Nat) {fr n : Nat} (h : fe_pe op n fr = n) (hn : n < 1000) {i : Nat} (h0 : fr ≤ i) (hi : i < n) :
    i < fe_pe op n i ∧ fe_pe op n i ≤ n := fe_sub op h hn i h0 hi
/-- the first tokens alone say where a term ends -/
theorem fe_pe_cut (op : Nat → Nat) {fr n s : Nat} (h : fe_pe op n fr = s) (hs : s ≤ n) (hn : n < 1000) {i : Nat} (h0 : fr ≤ i) (hi : i < s) :
    fe_pe op n i = fe_pe op s i ∧ i < fe_pe op s i ∧ fe_pe op s i ≤ s := by
  have hfr : fr < s := by omega
  have a : fe_pe op s fr = s := by
    unfold fe_pe at h ⊢
    exact fe_more op (n - fr) 1 fr s h (by omega) (by omega) (s - fr) (by omega)
  have b := fe_pe_sub op a (by omega) h0 hi
  refine ⟨?_, b⟩
  unfold fe_pe at b ⊢
  exact fe_more op (s - i) 1 i _ rfl (by omega) (by omega) (n - i) (by omega)
theorem fe_pe_self (op : Nat → Nat) {fr n s : Nat} (h : fe_pe op n fr = s) (hs : s ≤ n) (hf : fr < s) (hn : n < 1000) : fe_pe op s fr = s := by
  unfold fe_pe at h ⊢
  exact fe_more op (n - fr) 1 fr s h (by omega) (by omega) (s - fr) (by omega)
/-- terms lie one within the other -/
theorem fe_pe_nest (op : Nat → Nat) {n i j : Nat} (hs : fe_pe op n i ≤ n) (hn : n < 1000) (hij : i ≤ j) (hj : j < fe_pe op n i) :
    fe_pe op n j ≤ fe_pe op n i := by
  obtain ⟨a, _, b⟩ := fe_pe_cut op (n := n) (fr := i) rfl hs hn hij hj
  rw [a]; exact b
theorem fe_pe_c0 (op : Nat → Nat) {n i : Nat} (hi : i < n) (h : op i = 0) : fe_pe op n i = i + 1 := by
  rw [fe_pe_def op hi, h, fe_en0]
theorem fe_pe_c1 (op : Nat → Nat) {n i : Nat} (hi : i < n) (hs : fe_pe op n i ≤ n) (hn : n < 1000) (h : op i = 1) :
    i + 1 < n ∧ fe_pe op n i = fe_pe op n (i + 1) := by
  have e := fe_pe_def op hi
  rw [h] at e
  rcases fe_pe_rng op (n := n) (i := i + 1) (by omega) with g | g
  · unfold fe_pe at g hs e
    rw [← e] at g; omega
  · exact ⟨by omega, e⟩
theorem fe_pe_c2 (op : Nat → Nat) {n i : Nat} (hi : i < n) (hs : fe_pe op n i ≤ n) (hn : n < 1000) (h : op i = 2) :
    i + 1 < n ∧ i + 1 < fe_pe op n (i + 1) ∧ fe_pe op n (i + 1) < n ∧ fe_pe op n i = fe_pe op n (fe_pe op n (i + 1)) ∧ fe_pe op n (i + 1) < fe_pe op n i := by
  have e := fe_pe_def op hi
  rw [h] at e
  have g : fe_en op (n - (i + 1)) (1 + 1) (i + 1) = fe_pe op n i := e.symm
  obtain ⟨e1, g1, g2, g3, g4⟩ := fe_pre op g (by omega) (by omega)
  have e2 : fe_pe op n (i + 1) = e1 := g1
  rw [e2]
  rw [show i + 1 + (n - (i + 1)) - e1 = n - e1 by omega] at g4
  exact ⟨by omega, by omega, by omega, g4.symm, by omega⟩
/-- fewer operands end before the list does -/
theorem fe_pe_in (op : Nat → Nat) {n i k : Nat} (hi : i < n) (hs : fe_pe op n i ≤ n) (hn : n < 1000) (hk : k < op i) :
    i + 1 ≤ fe_en op (n - (i + 1)) k (i + 1) ∧ fe_en op (n - (i + 1)) k (i + 1) < n := by
  have e := fe_pe_def op hi
  rw [show op i = k + (op i - k) by omega] at e
  obtain ⟨e1, g1, g2, g3, _⟩ := fe_pre op e.symm (by omega) (by omega)
  rw [g1]; omega
/-- one term that fills n tokens -/
def fe_full (op : Nat → Nat) (n : Nat) : Prop := 0 < n ∧ n < 1000 ∧ fe_pe op n 0 = n
theorem fe_full_e {op : Nat → Nat} {n : Nat} (h : fe_full op n) {i : Nat} (hi : i < n) : i < fe_pe op n i ∧ fe_pe op n i ≤ n :=
  fe_pe_sub op h.2.2 h.2.1 (Nat.zero_le _) hi
theorem fe_pe_congr (op op' : Nat → Nat) {n : Nat} (h : ∀ j, j < n → op j = op' j) (i : Nat) : fe_pe op n i = fe_pe op' n i := by
  unfold fe_pe
  exact fe_congr op op' _ _ _ (fun j a b => h j (by omega))
theorem fe_full_congr {op op' : Nat → Nat} {n : Nat} (h : ∀ j, j < n → op j = op' j) (f : fe_full op n) : fe_full op' n :=
  ⟨f.1, f.2.1, by rw [← fe_pe_congr op op' h]; exact f.2.2⟩
