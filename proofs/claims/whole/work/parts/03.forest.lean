/-- a is the list of n trees with heads first, b the list of the same with heads last; rt k x y: token x of a and token y of b are one token with k operands -/
def ff_PF {α β : Type} (rt : Nat → α → β → Prop) (n : Nat) (a : List α) (b : List β) : Prop :=
  ∀ R : Nat → List α → List β → Prop, R 0 [] [] →
    (∀ k x y m a1 b1 a2 b2, rt k x y → R k a1 b1 → R m a2 b2 → R (m + 1) (x :: (a1 ++ a2)) (b1 ++ y :: b2)) → R n a b
theorem ff_nil {α β : Type} {rt : Nat → α → β → Prop} : ff_PF rt 0 [] [] := fun _ h0 _ => h0
theorem ff_node {α β : Type} {rt : Nat → α → β → Prop} {k m : Nat} {x : α} {y : β} {a1 a2 : List α} {b1 b2 : List β}
    (h : rt k x y) (h1 : ff_PF rt k a1 b1) (h2 : ff_PF rt m a2 b2) : ff_PF rt (m + 1) (x :: (a1 ++ a2)) (b1 ++ y :: b2) :=
  fun R h0 hs => hs k x y m a1 b1 a2 b2 h (h1 R h0 hs) (h2 R h0 hs)
theorem ff_ind {α β : Type} {rt : Nat → α → β → Prop} (Q : Nat → List α → List β → Prop) (h0 : Q 0 [] [])
    (hs : ∀ k x y m a1 b1 a2 b2, rt k x y → ff_PF rt k a1 b1 → Q k a1 b1 → ff_PF rt m a2 b2 → Q m a2 b2 → Q (m + 1) (x :: (a1 ++ a2)) (b1 ++ y :: b2))
    {n : Nat} {a : List α} {b : List β} (h : ff_PF rt n a b) : Q n a b :=
  (h (fun n a b => ff_PF rt n a b ∧ Q n a b) ⟨ff_nil, h0⟩
    (fun k x y m a1 b1 a2 b2 hr p q => ⟨ff_node hr p.1 q.1, hs k x y m a1 b1 a2 b2 hr p.1 p.2 q.1 q.2⟩)).2
theorem ff_one {α β : Type} {rt : Nat → α → β → Prop} {k : Nat} {x : α} {y : β} {a1 : List α} {b1 : List β}
    (h : rt k x y) (h1 : ff_PF rt k a1 b1) : ff_PF rt 1 (x :: a1) (b1 ++ [y]) := by
  have := ff_node h h1 ff_nil
  rwa [List.append_nil] at this
theorem ff_leaf {α β : Type} {rt : Nat → α → β → Prop} {x : α} {y : β} (h : rt 0 x y) : ff_PF rt 1 [x] [y] := ff_one h ff_nil
theorem ff_app {α β : Type} {rt : Nat → α → β → Prop} {m : Nat} {c : List α} {d : List β} (h2 : ff_PF rt m c d)
    {n : Nat} {a : List α} {b : List β} (h : ff_PF rt n a b) : ff_PF rt (n + m) (a ++ c) (b ++ d) := by
  refine ff_ind (fun n a b => ff_PF rt (n + m) (a ++ c) (b ++ d)) ?_ ?_ h
  · rw [Nat.zero_add]; exact h2
  · intro k x y l a1 b1 a2 b2 hr p1 _ _ q
    have := ff_node hr p1 q
    rw [show l + m + 1 = l + 1 + m by omega] at this
    simpa [List.append_assoc] using this
theorem ff_map {α β γ δ : Type} {rt : Nat → α → β → Prop} {ru : Nat → γ → δ → Prop} (g : α → γ) (h : β → δ)
    (hr : ∀ k x y, rt k x y → ru k (g x) (h y)) {n : Nat} {a : List α} {b : List β} (p : ff_PF rt n a b) :
    ff_PF ru n (a.map g) (b.map h) := by
  refine ff_ind (fun n a b => ff_PF ru n (a.map g) (b.map h)) ff_nil ?_ p
  intro k x y m a1 b1 a2 b2 h1 _ q1 _ q2
  have := ff_node (hr k x y h1) q1 q2
  simpa [List.map_append] using this
theorem ff_zero {α β : Type} {rt : Nat → α → β → Prop} {a : List α} {b : List β} (h : ff_PF rt 0 a b) : a = [] ∧ b = [] := by
  have := ff_ind (rt := rt) (fun n a b => n = 0 → a = [] ∧ b = []) (fun _ => ⟨rfl, rfl⟩) (fun _ _ _ _ _ _ _ _ _ _ _ _ _ h => by omega) h
  exact this rfl
theorem ff_len {α β : Type} {rt : Nat → α → β → Prop} {n : Nat} {a : List α} {b : List β} (h : ff_PF rt n a b) :
    a.length = b.length ∧ n ≤ a.length := by
  refine ff_ind (rt := rt) (fun n (a : List α) (b : List β) => a.length = b.length ∧ n ≤ a.length) ⟨rfl, Nat.le_refl _⟩ ?_ h
  intro k x y m a1 b1 a2 b2 _ _ q1 _ q2
  simp only [List.length_cons, List.length_append]
  omega
/-- if the first n of a are values, there are no others -/
theorem ff_vals {α β : Type} {rt : Nat → α → β → Prop} {V : α → Prop} {U : β → Prop} (hv : ∀ k x y, rt k x y → (V x ↔ U y))
    (h0 : ∀ k x y, rt k x y → V x → k = 0) {n : Nat} {a : List α} {b : List β} (h : ff_PF rt n a b)
    (hf : ∀ i, i < n → ∃ x, a[i]? = some x ∧ V x) : a.length = n ∧ ∀ y, y ∈ b → U y := by
  have := ff_ind (rt := rt) (fun n a b => (∀ i, i < n → ∃ x, a[i]? = some x ∧ V x) → a.length = n ∧ ∀ y, y ∈ b → U y)
    (fun _ => ⟨rfl, fun y hy => by cases hy⟩) ?_ h
  · exact this hf
  · intro k x y m a1 b1 a2 b2 hr p1 _ _ q2 hf
    obtain ⟨x', hx, hV⟩ := hf 0 (by omega)
    have hx' : x = x' := by simpa using hx
    subst hx'
    have hk := h0 k x y hr hV
    subst hk
    obtain ⟨e1, e2⟩ := ff_zero p1
    subst e1; subst e2
    obtain ⟨l, hu⟩ := q2 (fun i hi => by
      obtain ⟨z, hz, hz2⟩ := hf (i + 1) (by omega)
      exact ⟨z, by simpa using hz, hz2⟩)
    refine ⟨by simp [l], fun z hz => ?_⟩
    rcases List.mem_cons.mp (by simpa using hz) with e | e
    · rw [e]; exact (hv 0 x y hr).mp hV
    · exact hu z e
/-- all of b values: so is a, and a holds n -/
theorem ff_done {α β : Type} {rt : Nat → α → β → Prop} {V : α → Prop} {U : β → Prop} (hv : ∀ k x y, rt k x y → (V x ↔ U y))
    (h0 : ∀ k x y, rt k x y → V x → k = 0) {n : Nat} {a : List α} {b : List β} (h : ff_PF rt n a b) (hb : ∀ y, y ∈ b → U y) :
    a.length = n ∧ (∀ x, x ∈ a → V x) ∧ b.length = n ∧ ∀ i, i < n → ∃ x y, a[i]? = some x ∧ b[i]? = some y ∧ rt 0 x y := by
  have := ff_ind (rt := rt) (fun n a b => (∀ y, y ∈ b → U y) → a.length = n ∧ (∀ x, x ∈ a → V x) ∧ b.length = n ∧ ∀ i, i < n → ∃ x y, a[i]? = some x ∧ b[i]? = some y ∧ rt 0 x y)
    (fun _ => ⟨rfl, fun y hy => (by cases hy), rfl, fun i hi => by omega⟩) ?_ h
  · exact this hb
  · intro k x y m a1 b1 a2 b2 hr p1 _ _ q2 hb
    have hy : U y := hb y (by simp)
    have hV := (hv k x y hr).mpr hy
    have hk := h0 k x y hr hV
    subst hk
    obtain ⟨e1, e2⟩ := ff_zero p1
    subst e1; subst e2
    obtain ⟨l, hu, l2, hi⟩ := q2 (fun z hz => hb z (by simp [hz]))
    refine ⟨by simp [l], fun z hz => ?_, by simp [l2], fun i hlt => ?_⟩
    · rcases List.mem_cons.mp (by simpa using hz) with e | e
      · rw [e]; exact hV
      · exact hu z e
    · cases i with
      | zero => exact ⟨x, y, by simp, by simp, hr⟩
      | succ i =>
        obtain ⟨z, w, hz, hw, hzw⟩ := hi i (by omega)
        exact ⟨z, w, by simpa using hz, by simpa using hw, hzw⟩
/-- the first token of b that is no value stands in a behind tokens none of which is ready; one tree put in its place goes in at both -/
def ff_CX {α β : Type} (rt : Nat → α → β → Prop) (V : α → Prop) (n : Nat) (a : List α) (vals : List β) (t : β) (rest : List β) : Prop :=
  ∃ k x pre vs suf v0 ws, rt k x t ∧ a = pre ++ x :: (vs ++ suf) ∧ vals = v0 ++ ws ∧ ff_PF rt k vs ws ∧ vs.length = k ∧ (∀ z, z ∈ vs → V z) ∧
    (∀ i z, pre[i]? = some z → V z ∨ ∃ kz yz j w, rt kz z yz ∧ j < kz ∧ a[i + 1 + j]? = some w ∧ ¬ V w) ∧
    (∀ c d, ff_PF rt 1 c d → ff_PF rt n (pre ++ (c ++ suf)) (v0 ++ (d ++ rest)))
theorem ff_ctx {α β : Type} {rt : Nat → α → β → Prop} {V : α → Prop} {U : β → Prop} (hv : ∀ k x y, rt k x y → (V x ↔ U y))
    (h0 : ∀ k x y, rt k x y → V x → k = 0) {n : Nat} {a : List α} {b : List β} (h : ff_PF rt n a b) :
    ∀ vals t rest, b = vals ++ t :: rest → (∀ y, y ∈ vals → U y) → ¬ U t → ff_CX rt V n a vals t rest := by
  refine ff_ind (fun n a b => ∀ vals t rest, b = vals ++ t :: rest → (∀ y, y ∈ vals → U y) → ¬ U t → ff_CX rt V n a vals t rest) ?_ ?_ h
  · intro vals t rest e; simp at e
  · intro k x y m a1 b1 a2 b2 hr p1 q1 p2 q2 vals t rest e hU hT
    have key : (vals = b1 ∧ t = y ∧ rest = b2) ∨ (∃ s, vals = b1 ++ y :: s ∧ b2 = s ++ t :: rest) ∨ (∃ s, b1 = vals ++ t :: s ∧ rest = s ++ y :: b2) := by
      rcases List.append_eq_append_iff.mp e with ⟨s, e1, e2⟩ | ⟨s, e1, e2⟩
      · cases s with
        | nil =>
          simp only [List.append_nil, List.nil_append, List.cons.injEq] at e1 e2
          exact Or.inl ⟨e1, e2.1.symm, e2.2.symm⟩
        | cons z s =>
          simp only [List.cons_append, List.cons.injEq] at e2
          exact Or.inr (Or.inl ⟨s, by rw [e1, e2.1], e2.2⟩)
      · cases s with
        | nil =>
          simp only [List.append_nil, List.nil_append, List.cons.injEq] at e1 e2
          exact Or.inl ⟨e1.symm, e2.1, e2.2⟩
        | cons z s =>
          simp only [List.cons_append, List.cons.injEq] at e2
          exact Or.inr (Or.inr ⟨s, by rw [e1, ← e2.1], e2.2⟩)
    rcases key with ⟨rfl, rfl, rfl⟩ | ⟨s, rfl, rfl⟩ | ⟨s, rfl, rfl⟩
    · have hd := ff_done hv h0 p1 hU
      refine ⟨k, x, [], a1, a2, [], vals, hr, rfl, rfl, p1, hd.1, hd.2.1, fun i z h => by simp at h, fun c d h => ?_⟩
      have := ff_app p2 h
      rwa [Nat.add_comm] at this
    · have hy : U y := hU y (by simp)
      have hV := (hv k x y hr).mpr hy
      have hk := h0 k x y hr hV
      subst hk
      obtain ⟨e1, e2⟩ := ff_zero p1
      subst e1; subst e2
      obtain ⟨k', x', pre, vs, suf, v0, ws, r1, r2, r3, r4, r5, r6, r7, r8⟩ := q2 s t rest rfl (fun z hz => hU z (by simp [hz])) hT
      refine ⟨k', x', x :: pre, vs, suf, y :: v0, ws, r1, by simp [r2], by simp [r3], r4, r5, r6, ?_, ?_⟩
      · intro i z hz
        cases i with
        | zero =>
          have hz' : x = z := by simpa using hz
          exact Or.inl (hz' ▸ hV)
        | succ i =>
          rcases r7 i z (by simpa using hz) with g | ⟨kz, yz, j, w, g1, g2, g3, g4⟩
          · exact Or.inl g
          · refine Or.inr ⟨kz, yz, j, w, g1, g2, ?_, g4⟩
            rw [show i + 1 + 1 + j = (i + 1 + j) + 1 by omega]
            simpa using g3
      · intro c d h
        have := ff_node hr ff_nil (r8 c d h)
        simpa using this
    · obtain ⟨k', x', pre, vs, suf, v0, ws, r1, r2, r3, r4, r5, r6, r7, r8⟩ := q1 vals t s rfl hU hT
      refine ⟨k', x', x :: pre, vs, suf ++ a2, v0, ws, r1, by simp [r2], r3, r4, r5, r6, ?_, ?_⟩
      · intro i z hz
        cases i with
        | zero =>
          have hz' : x = z := by simpa using hz
          subst hz'
          right
          have hex : ∃ j, j < k ∧ ¬ ∃ x, a1[j]? = some x ∧ V x := by
            refine Classical.byContradiction fun hno => ?_
            have hall : ∀ i, i < k → ∃ x, a1[i]? = some x ∧ V x := fun i hi =>
              Classical.byContradiction fun hn => hno ⟨i, hi, hn⟩
            exact hT ((ff_vals hv h0 p1 hall).2 t (by simp))
          obtain ⟨j, hj, hn⟩ := hex
          have hl := (ff_len p1).2
          have hjl : j < a1.length := by omega
          refine ⟨k, y, j, a1[j], hr, hj, ?_, fun hVw => hn ⟨a1[j], List.getElem?_eq_getElem hjl, hVw⟩⟩
          rw [show 0 + 1 + j = j + 1 by omega, List.getElem?_cons_succ, List.getElem?_append_left hjl]
          exact List.getElem?_eq_getElem hjl
        | succ i =>
          rcases r7 i z (by simpa using hz) with g | ⟨kz, yz, j, w, g1, g2, g3, g4⟩
          · exact Or.inl g
          · refine Or.inr ⟨kz, yz, j, w, g1, g2, ?_, g4⟩
            have hlt := (List.getElem?_eq_some_iff.mp g3).1
            rw [show i + 1 + 1 + j = (i + 1 + j) + 1 by omega, List.getElem?_cons_succ, List.getElem?_append_left hlt]
            exact g3
      · intro c d h
        have := ff_node hr (r8 c d h) p2
        simpa [List.append_assoc] using this
/-- the ends that a pending counter finds, of a forest whose list with heads first lies in an array -/
theorem ff_en {α β : Type} {rt : Nat → α → β → Prop} (op : Nat → Nat) (tok : Nat → α) {n : Nat} {a : List α} {b : List β} (h : ff_PF rt n a b) :
    ∀ i d k, a = fe_sl tok i a.length → (∀ j k y, i ≤ j → j < i + a.length → rt k (tok j) y → op j = k) → a.length ≤ d →
      fe_en op d (n + k) i = fe_en op (d - a.length) k (i + a.length) := by
  refine ff_ind (fun n a b => ∀ i d k, a = fe_sl tok i a.length → (∀ j k y, i ≤ j → j < i + a.length → rt k (tok j) y → op j = k) → a.length ≤ d →
      fe_en op d (n + k) i = fe_en op (d - a.length) k (i + a.length)) ?_ ?_ h
  · intro i d k _ _ _
    simp
  · intro q x y m a1 b1 a2 b2 hr p1 q1 p2 q2 i d k e ho hd
    simp only [List.length_cons, List.length_append] at e ho hd ⊢
    obtain ⟨d, rfl⟩ : ∃ d', d = d' + 1 := ⟨d - 1, by omega⟩
    rw [show a1.length + a2.length + 1 = (a1.length + a2.length) + 1 from rfl] at e
    have e0 : x = tok i ∧ a1 ++ a2 = fe_sl tok (i + 1) (a1.length + a2.length) := by
      have e' : x :: (a1 ++ a2) = tok i :: fe_sl tok (i + 1) (a1.length + a2.length) := e
      exact ⟨(List.cons.inj e').1, (List.cons.inj e').2⟩
    obtain ⟨ex, e1⟩ := e0
    rw [fe_sl_add] at e1
    obtain ⟨f1, f2⟩ := List.append_inj e1 (by rw [fe_sl_len])
    have hop : op i = q := ho i q y (by omega) (by omega) (ex ▸ hr)
    rw [show m + 1 + k = (m + k) + 1 by omega, fe_ens, hop]
    rw [q1 (i + 1) d (m + k) f1 (fun j k' y' a b => ho j k' y' (by omega) (by omega)) (by omega)]
    rw [q2 (i + 1 + a1.length) (d - a1.length) k f2 (fun j k' y' a b => ho j k' y' (by omega) (by omega)) (by omega)]
    congr 1 <;> omega
