/-- the part of the value S (m constructors) that begins at p -/
def fv_sub (ar S : Nat → Nat) (m p : Nat) : List Nat := fe_sl S p (fe_pe (fm_v ar S) m p - p)
theorem fv_sub_len (ar S : Nat → Nat) (m p : Nat) : (fv_sub ar S m p).length = fe_pe (fm_v ar S) m p - p := fe_sl_len _ _ _
theorem fv_sub_s0 {ar S : Nat → Nat} {m p : Nat} (hp : p < m) (h : ar (S p) = 0) : fv_sub ar S m p = [S p] := by
  unfold fv_sub
  rw [fe_pe_c0 (fm_v ar S) hp h, show p + 1 - p = 1 by omega]
  rfl
theorem fv_sub_s1 {ar S : Nat → Nat} {m p : Nat} (f : fe_full (fm_v ar S) m) (hp : p < m) (h : ar (S p) = 1) :
    p + 1 < m ∧ fv_sub ar S m p = S p :: fv_sub ar S m (p + 1) := by
  have e := fe_full_e f hp
  obtain ⟨a, b⟩ := fe_pe_c1 (fm_v ar S) hp e.2 f.2.1 h
  have e2 := fe_full_e f a
  refine ⟨a, ?_⟩
  unfold fv_sub
  rw [b, show fe_pe (fm_v ar S) m (p + 1) - p = (fe_pe (fm_v ar S) m (p + 1) - (p + 1)) + 1 by omega]
  rfl
theorem fv_sub_s2 {ar S : Nat → Nat} {m p : Nat} (f : fe_full (fm_v ar S) m) (hp : p < m) (h : ar (S p) = 2) :
    p + 1 < m ∧ p + 1 < fe_pe (fm_v ar S) m (p + 1) ∧ fe_pe (fm_v ar S) m (p + 1) < m ∧
      fv_sub ar S m p = S p :: (fv_sub ar S m (p + 1) ++ fv_sub ar S m (fe_pe (fm_v ar S) m (p + 1))) := by
  have e := fe_full_e f hp
  obtain ⟨a, b, c, d, g⟩ := fe_pe_c2 (fm_v ar S) hp e.2 f.2.1 h
  refine ⟨a, b, c, ?_⟩
  have e2 := fe_full_e f c
  unfold fv_sub
  rw [← d]
  rw [show fe_pe (fm_v ar S) m p - p = ((fe_pe (fm_v ar S) m (p + 1) - (p + 1)) + (fe_pe (fm_v ar S) m p - fe_pe (fm_v ar S) m (p + 1))) + 1 by omega]
  show S p :: fe_sl S (p + 1) _ = _
  rw [fe_sl_add, show p + 1 + (fe_pe (fm_v ar S) m (p + 1) - (p + 1)) = fe_pe (fm_v ar S) m (p + 1) by omega]
/-- the whole value -/
theorem fv_sub_0 {ar S : Nat → Nat} {m : Nat} (f : fe_full (fm_v ar S) m) : fv_sub ar S m 0 = fe_sl S 0 m := by
  unfold fv_sub
  rw [f.2.2, Nat.sub_zero]
/-- node n of arity-many nodes stands for the list dn n -/
def fv_Nd (ar : Nat → Nat) (c N : Nat) (dn : Nat → List Nat) (n h l r : Nat) : Prop :=
  h < c ∧ (dn n).length ≤ 40 ∧ ((ar h = 0 ∧ dn n = [h]) ∨ (ar h = 1 ∧ l < N ∧ dn n = h :: dn l) ∨ (ar h = 2 ∧ l < N ∧ r < N ∧ dn n = h :: (dn l ++ dn r)))
theorem fv_Nd_up {ar : Nat → Nat} {c N N' : Nat} {dn dn' : Nat → List Nat} {n h l r : Nat} (g : fv_Nd ar c N dn n h l r) (hN : N ≤ N')
    (hn : n < N) (e : ∀ q, q < N → dn' q = dn q) : fv_Nd ar c N' dn' n h l r := by
  obtain ⟨hc, hl, g⟩ := g
  refine ⟨hc, by rw [e n hn]; exact hl, ?_⟩
  rcases g with ⟨a, b⟩ | ⟨a, b, d⟩ | ⟨a, b, b2, d⟩
  · exact Or.inl ⟨a, by rw [e n hn]; exact b⟩
  · exact Or.inr (Or.inl ⟨a, by omega, by rw [e n hn, e l b]; exact d⟩)
  · exact Or.inr (Or.inr ⟨a, by omega, by omega, by rw [e n hn, e l b, e r b2]; exact d⟩)
def fv_H (ar : Nat → Nat) (c N : Nat) (dn : Nat → List Nat) : Prop := ∀ n, n < N → ∃ h l r, fv_Nd ar c N dn n h l r
def fv_cc (dn : Nat → List Nat) : List Nat → List Nat
  | [] => []
  | n :: ns => dn n ++ fv_cc dn ns
theorem fv_pos {ar : Nat → Nat} {c N : Nat} {dn : Nat → List Nat} {n h l r : Nat} (g : fv_Nd ar c N dn n h l r) : 0 < (dn n).length := by
  rcases g.2.2 with ⟨_, b⟩ | ⟨_, _, d⟩ | ⟨_, _, _, d⟩
  · rw [b]; exact Nat.one_pos
  · rw [d, List.length_cons]; omega
  · rw [d, List.length_cons]; omega
theorem fv_Hpos {ar : Nat → Nat} {c N : Nat} {dn : Nat → List Nat} (H : fv_H ar c N dn) {n : Nat} (hn : n < N) : 0 < (dn n).length ∧ (dn n).length ≤ 40 := by
  obtain ⟨h, l, r, g⟩ := H n hn
  exact ⟨fv_pos g, g.2.1⟩
/-- a list as an array -/
def fv_g (W : List Nat) : Nat → Nat := fun j => W.getD j 0
theorem fv_head {W : List Nat} {p c : Nat} {ts : List Nat} (e : W.drop p = c :: ts) : fv_g W p = c ∧ W.drop (p + 1) = ts ∧ p < W.length := by
  refine ⟨?_, ?_, ?_⟩
  · have : (W.drop p)[0]? = some c := by rw [e]; rfl
    rw [List.getElem?_drop, Nat.add_zero] at this
    unfold fv_g
    rw [List.getD_eq_getElem?_getD, this]; rfl
  · rw [← List.drop_drop, e]; rfl
  · have := congrArg List.length e
    rw [List.length_drop, List.length_cons] at this
    omega
theorem fv_gsl {W : List Nat} : ∀ (a : List Nat) (p : Nat) (tl : List Nat), W.drop p = a ++ tl → fe_sl (fv_g W) p a.length = a := by
  intro a
  induction a with
  | nil => intro p tl _; rfl
  | cons x a ih =>
    intro p tl e
    obtain ⟨e1, e2, _⟩ := fv_head (show W.drop p = x :: (a ++ tl) from e)
    show fv_g W p :: fe_sl (fv_g W) (p + 1) a.length = x :: a
    rw [e1, ih (p + 1) tl e2]
/-- a pending counter over the list of a value passes it as one term -/
theorem fv_en {ar : Nat → Nat} {c N : Nat} {dn : Nat → List Nat} (H : fv_H ar c N dn) (W : List Nat) :
    ∀ s n p tl d k, (dn n).length ≤ s → n < N → W.drop p = dn n ++ tl → (dn n).length ≤ d →
      fe_en (fm_v ar (fv_g W)) d (k + 1) p = fe_en (fm_v ar (fv_g W)) (d - (dn n).length) k (p + (dn n).length) := by
  intro s
  induction s with
  | zero => intro n p tl d k hs hn _ _; have := (fv_Hpos H hn).1; omega
  | succ s ih =>
    intro n p tl d k hs hn hW hd'
    have hp := (fv_Hpos H hn).1
    obtain ⟨d, rfl⟩ : ∃ d', d = d' + 1 := ⟨d - 1, by omega⟩
    rw [fe_ens]
    obtain ⟨h, l, r, hc, h40, ⟨a, b⟩ | ⟨a, b, e⟩ | ⟨a, b, b2, e⟩⟩ := H n hn
    · rw [b] at hW hd' ⊢
      obtain ⟨e1, e2, _⟩ := fv_head (show W.drop p = h :: tl from hW)
      show fe_en _ d (ar (fv_g W p) + k) (p + 1) = _
      rw [e1, a, Nat.zero_add]
      rfl
    · rw [e] at hW hd' hs ⊢
      obtain ⟨e1, e2, _⟩ := fv_head (show W.drop p = h :: (dn l ++ tl) from hW)
      simp only [List.length_cons] at hd' hs ⊢
      show fe_en _ d (ar (fv_g W p) + k) (p + 1) = _
      rw [e1, a, Nat.add_comm 1 k, ih l (p + 1) tl d k (by omega) b e2 (by omega)]
      congr 1 <;> omega
    · rw [e] at hW hd' hs ⊢
      obtain ⟨e1, e2, _⟩ := fv_head (show W.drop p = h :: (dn l ++ (dn r ++ tl)) by rw [hW]; simp)
      simp only [List.length_cons, List.length_append] at hd' hs ⊢
      show fe_en _ d (ar (fv_g W p) + k) (p + 1) = _
      rw [e1, a, show 2 + k = (k + 1) + 1 by omega, ih l (p + 1) _ d (k + 1) (by omega) b e2 (by omega)]
      have e3 : W.drop (p + 1 + (dn l).length) = dn r ++ tl := by
        rw [← List.drop_drop, e2, List.drop_left]
      rw [ih r (p + 1 + (dn l).length) tl (d - (dn l).length) k (by omega) b2 e3 (by omega)]
      congr 1 <;> omega
/-- the part of a value's list that a node stands for -/
theorem fv_at {ar : Nat → Nat} {c N : Nat} {dn : Nat → List Nat} (H : fv_H ar c N dn) {W : List Nat} {n p : Nat} {tl : List Nat} (hn : n < N)
    (hW : W.drop p = dn n ++ tl) : fe_pe (fm_v ar (fv_g W)) W.length p = p + (dn n).length ∧ fv_sub ar (fv_g W) W.length p = dn n ∧ p + (dn n).length ≤ W.length := by
  have hl := congrArg List.length hW
  rw [List.length_drop, List.length_append] at hl
  have h0 := (fv_Hpos H hn).1
  have e : fe_pe (fm_v ar (fv_g W)) W.length p = p + (dn n).length := by
    have := fv_en H W _ n p tl (W.length - p) 0 (Nat.le_refl _) hn hW (by omega)
    rw [fe_en0] at this
    exact this
  refine ⟨e, ?_, by omega⟩
  unfold fv_sub
  rw [e, show p + (dn n).length - p = (dn n).length by omega]
  exact fv_gsl (dn n) p tl hW
theorem fv_full {ar : Nat → Nat} {c N : Nat} {dn : Nat → List Nat} (H : fv_H ar c N dn) {n : Nat} (hn : n < N) :
    fe_full (fm_v ar (fv_g (dn n))) (dn n).length := by
  have h := fv_Hpos H hn
  obtain ⟨a, _, _⟩ := fv_at H (W := dn n) (p := 0) (tl := []) hn (by simp)
  exact ⟨h.1, by omega, by rw [a]; omega⟩
/-- its constructors are constructors -/
theorem fv_con {ar : Nat → Nat} {c N : Nat} {dn : Nat → List Nat} (H : fv_H ar c N dn) : ∀ s n, (dn n).length ≤ s → n < N → ∀ x, x ∈ dn n → x < c := by
  intro s
  induction s with
  | zero => intro n hs hn; have := (fv_Hpos H hn).1; omega
  | succ s ih =>
    intro n hs hn x hx
    obtain ⟨h, l, r, hc, h40, ⟨a, b⟩ | ⟨a, b, e⟩ | ⟨a, b, b2, e⟩⟩ := H n hn
    · rw [b] at hx
      rcases List.mem_cons.mp hx with g | g
      · omega
      · cases g
    · rw [e] at hx hs
      rw [List.length_cons] at hs
      rcases List.mem_cons.mp hx with g | g
      · omega
      · exact ih l (by omega) b x g
    · rw [e] at hx hs
      rw [List.length_cons, List.length_append] at hs
      rcases List.mem_cons.mp hx with g | g
      · omega
      · rcases List.mem_append.mp g with g | g
        · exact ih l (by omega) b x g
        · exact ih r (by omega) b2 x g
theorem fv_gmem {W : List Nat} {j : Nat} (h : j < W.length) : fv_g W j ∈ W := by
  unfold fv_g
  rw [List.getD_eq_getElem?_getD, List.getElem?_eq_getElem h]
  exact List.getElem_mem h
/-- nodes that wait at their own places -/
def fv_PO (dn : Nat → List Nat) (sn : Nat → Nat) : List Nat → Nat → Prop
  | [], _ => True
  | n :: ns, p => sn p = n ∧ fv_PO dn sn ns (p + (dn n).length)
theorem fv_PO_c {dn : Nat → List Nat} {sn sn' : Nat → Nat} : ∀ ns p, (∀ q, p ≤ q → sn' q = sn q) → fv_PO dn sn ns p → fv_PO dn sn' ns p := by
  intro ns
  induction ns with
  | nil => intro p _ _; trivial
  | cons n ns ih =>
    intro p h hp
    exact ⟨by rw [h p (Nat.le_refl _)]; exact hp.1, ih _ (fun q hq => h q (by omega)) hp.2⟩
