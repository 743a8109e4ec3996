def fs_SO {α β : Type} (rt : Nat → α → β → Prop) (yt : Nat → α) (op : Nat → Nat) (fr : Nat) : List Nat → Nat → List β → Prop
  | [], p, out => fr ≤ p ∧ ∃ m, ff_PF rt m (fe_sl yt fr (p - fr)) out
  | u :: st, p, out => ∃ m o0 o1, u < p ∧ m < op u ∧ ff_PF rt m (fe_sl yt (u + 1) (p - (u + 1))) o1 ∧ out = o0 ++ o1 ∧ fs_SO rt yt op fr st u o0
def fs_FU {α β : Type} (rt : Nat → α → β → Prop) (yt : Nat → α) (op : Nat → Nat) (fr : Nat) (u : Nat) (st : List Nat) (p : Nat) (out : List β) : Prop :=
  ∃ o0 o1, u < p ∧ ff_PF rt (op u) (fe_sl yt (u + 1) (p - (u + 1))) o1 ∧ out = o0 ++ o1 ∧ fs_SO rt yt op fr st u o0
theorem fs_start {α β : Type} {rt : Nat → α → β → Prop} {yt : Nat → α} {op : Nat → Nat} {fr : Nat} : fs_SO rt yt op fr [] fr [] :=
  ⟨Nat.le_refl _, 0, by rw [Nat.sub_self]; exact ff_nil⟩
theorem fs_push {α β : Type} {rt : Nat → α → β → Prop} {yt : Nat → α} {op : Nat → Nat} {fr p : Nat} {st : List Nat} {out : List β}
    (h : fs_SO rt yt op fr st p out) : (0 < op p → fs_SO rt yt op fr (p :: st) (p + 1) out) ∧ (op p = 0 → fs_FU rt yt op fr p st (p + 1) out) := by
  constructor
  · intro ho
    exact ⟨0, out, [], by omega, ho, by rw [Nat.sub_self]; exact ff_nil, by rw [List.append_nil], h⟩
  · intro ho
    exact ⟨out, [], by omega, by rw [Nat.sub_self, ho]; exact ff_nil, by rw [List.append_nil], h⟩
theorem fs_join {α : Type} (yt : Nat → α) {i u p : Nat} (h1 : i ≤ u) (h2 : u < p) :
    fe_sl yt i (u - i) ++ yt u :: fe_sl yt (u + 1) (p - (u + 1)) = fe_sl yt i (p - i) := by
  rw [show p - i = (u - i) + ((p - (u + 1)) + 1) by omega, fe_sl_add]
  rw [show i + (u - i) = u by omega]
  rfl
theorem fs_pop {α β : Type} {rt : Nat → α → β → Prop} {yt : Nat → α} {xt : Nat → β} {op : Nat → Nat} {fr u p : Nat} {st : List Nat} {out : List β}
    (hr : rt (op u) (yt u) (xt u)) (h : fs_FU rt yt op fr u st p out) :
    fs_SO rt yt op fr st p (out ++ [xt u]) ∨ ∃ u' st', st = u' :: st' ∧ fs_FU rt yt op fr u' st' p (out ++ [xt u]) := by
  obtain ⟨o0, o1, hu, h1, rfl, hS⟩ := h
  have tree := ff_one hr h1
  cases st with
  | nil =>
    obtain ⟨hf, m, hm⟩ := hS
    left
    refine ⟨by omega, m + 1, ?_⟩
    have := ff_app tree hm
    rw [fs_join yt hf hu] at this
    rwa [List.append_assoc]
  | cons u' st' =>
    obtain ⟨m, q0, q1, hu', hm, hp, rfl, hS'⟩ := hS
    have := ff_app tree hp
    rw [fs_join yt hu' hu] at this
    by_cases hlt : m + 1 < op u'
    · left
      exact ⟨m + 1, q0, q1 ++ (o1 ++ [xt u]), by omega, hlt, this, by simp [List.append_assoc], hS'⟩
    · right
      refine ⟨u', st', rfl, q0, q1 ++ (o1 ++ [xt u]), by omega, ?_, by simp [List.append_assoc], hS'⟩
      rwa [show op u' = m + 1 by omega]
/-- a token that is full ends here -/
theorem fs_endF {α β : Type} {rt : Nat → α → β → Prop} {yt : Nat → α} {op : Nat → Nat} {fr u p N : Nat} {st : List Nat} {out : List β}
    (hop : ∀ j k y, rt k (yt j) y → op j = k) (h : fs_FU rt yt op fr u st p out) (hp : p ≤ N) : fe_en op (N - u) 1 u = p := by
  obtain ⟨o0, o1, hu, h1, _, _⟩ := h
  have hl := fe_sl_len yt (p - (u + 1)) (u + 1)
  have e := ff_en op yt h1 (u + 1) (N - (u + 1)) 0 (by rw [hl]) (fun j k y _ _ => hop j k y) (by rw [hl]; omega)
  rw [hl, fe_en0] at e
  rw [show N - u = (N - (u + 1)) + 1 by omega, fe_ens]
  refine Eq.trans e ?_
  omega
/-- one that waits ends later -/
theorem fs_endS {α β : Type} {rt : Nat → α → β → Prop} {yt : Nat → α} {op : Nat → Nat} {fr u p N : Nat} {st : List Nat} {out : List β}
    (hop : ∀ j k y, rt k (yt j) y → op j = k) (h : fs_SO rt yt op fr (u :: st) p out) (hp : p ≤ N) (hN : N < 1000) : p < fe_en op (N - u) 1 u := by
  obtain ⟨m, o0, o1, hu, hm, h1, _, _⟩ := h
  have hl := fe_sl_len yt (p - (u + 1)) (u + 1)
  have e := ff_en op yt h1 (u + 1) (N - (u + 1)) (op u - m) (by rw [hl]) (fun j k y _ _ => hop j k y) (by rw [hl]; omega)
  rw [hl, show m + (op u - m) = op u by omega] at e
  rw [show N - u = (N - (u + 1)) + 1 by omega, fe_ens, show op u + 0 = op u from rfl, e]
  rcases fe_rng op (N - (u + 1) - (p - (u + 1))) (op u - m) (u + 1 + (p - (u + 1))) with w | ⟨w, _⟩ <;> omega
theorem fs_len {α β : Type} {rt : Nat → α → β → Prop} {yt : Nat → α} {op : Nat → Nat} {fr : Nat} : ∀ (st : List Nat) (p : Nat) (out : List β),
    fs_SO rt yt op fr st p out → fr ≤ p ∧ out.length + st.length = p - fr := by
  intro st
  induction st with
  | nil =>
    intro p out h
    obtain ⟨hf, m, hm⟩ := h
    have := (ff_len hm).1
    rw [fe_sl_len] at this
    exact ⟨hf, by simp only [List.length_nil]; omega⟩
  | cons u st ih =>
    intro p out h
    obtain ⟨m, o0, o1, hu, _, hm, rfl, hS⟩ := h
    have := (ff_len hm).1
    rw [fe_sl_len] at this
    obtain ⟨a, b⟩ := ih u o0 hS
    simp only [List.length_append, List.length_cons]
    omega
/-- a whole term: one tree -/
theorem fs_final {α β : Type} {rt : Nat → α → β → Prop} {yt : Nat → α} {op : Nat → Nat} {fr N : Nat} {out : List β}
    (hop : ∀ j k y, rt k (yt j) y → op j = k) (h : fs_SO rt yt op fr [] N out) (he : fe_en op (N - fr) 1 fr = N) (hN : N < 1000) :
    ff_PF rt 1 (fe_sl yt fr (N - fr)) out := by
  obtain ⟨hf, m, hm⟩ := h
  have hl := fe_sl_len yt (N - fr) fr
  have e := ff_en op yt hm fr (N - fr) 0 (by rw [hl]) (fun j k y _ _ => hop j k y) (by rw [hl]; exact Nat.le_refl _)
  rw [hl, fe_en0, Nat.add_zero, show fr + (N - fr) = N by omega] at e
  have h1 := fe_rng op (N - fr) 1 fr
  have hm1 : m = 1 := by
    cases m with
    | zero => rw [fe_en0] at e; omega
    | succ m =>
      rw [show m + 1 = 1 + m by omega] at e
      obtain ⟨e1, g1, g2, g3, _⟩ := fe_pre op e (by omega) (by omega)
      omega
  rwa [hm1] at hm
