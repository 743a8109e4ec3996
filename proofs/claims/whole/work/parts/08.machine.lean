/-- a token of a result that is worked out: a value, or (kind, v, the function whose result it is of) -/
abbrev fg_T : Type := Sum (List Nat) (Nat × Nat × Nat)
def fg_V (x : fg_T) : Prop := ∃ L, x = Sum.inl L
def fg_k (ar : Nat → Nat) : fg_T → Nat
  | Sum.inl _ => 0
  | Sum.inr (k, v, _) => if k = 2 then ar v else 1
def fg_ok (c : Nat) : fg_T → Prop
  | Sum.inl _ => True
  | Sum.inr (k, v, o) => ((k = 2 ∧ v < c) ∨ (k = 5 ∧ v < 4)) ∧ o < 4
def fg_rt (ar : Nat → Nat) (c k : Nat) (x y : fg_T) : Prop := x = y ∧ k = fg_k ar x ∧ fg_ok c x
theorem fg_hv {ar : Nat → Nat} {c : Nat} : ∀ k x y, fg_rt ar c k x y → (fg_V x ↔ fg_V y) := fun _ _ _ h => by rw [h.1]
theorem fg_h0 {ar : Nat → Nat} {c : Nat} : ∀ k x y, fg_rt ar c k x y → fg_V x → k = 0 := fun k x y h hv => by
  obtain ⟨L, rfl⟩ := hv
  exact h.2.1
/-- a new value of the latest operands -/
def fg_mk (ar : Nat → Nat) (v : Nat) (st : List (List Nat)) : List Nat := v :: (st.take (ar v)).reverse.flatten
/-- what comes of it: status, steps, the function blamed plus 1, the value -/
def fg_go (ar : Nat → Nat) (row : Nat → List Nat → Nat) (res : Nat → List Nat → List fg_T) : Nat → Nat → List (List Nat) → List fg_T → Nat × Nat × Nat × List Nat
  | 0, s, _, _ => (9, s, 0, [])
  | _ + 1, s, st, [] => (0, s, 0, st.headD [])
  | n + 1, s, st, Sum.inl L :: rest => fg_go ar row res n s (L :: st) rest
  | n + 1, s, st, Sum.inr (k, v, o) :: rest =>
    if k = 5 then
      if s = 100 then (2, s, v + 1, [])
      else if row v (st.headD []) = 0 then (1, s + 1, v + 1, [])
      else fg_go ar row res n (s + 1) st.tail (res v (st.headD []) ++ rest)
    else if 40 < (fg_mk ar v st).length then (3, s, o + 1, [])
    else fg_go ar row res n s (fg_mk ar v st :: st.drop (ar v)) rest
section
variable {ar : Nat → Nat} {row : Nat → List Nat → Nat} {res : Nat → List Nat → List fg_T} {n s : Nat} {st : List (List Nat)} {rest : List fg_T}
theorem fg_go_nil : fg_go ar row res (n + 1) s st [] = (0, s, 0, st.headD []) := rfl
theorem fg_go_val {L : List Nat} : fg_go ar row res (n + 1) s st (Sum.inl L :: rest) = fg_go ar row res n s (L :: st) rest := rfl
theorem fg_go_long {v o : Nat} (h : s = 100) : fg_go ar row res (n + 1) s st (Sum.inr (5, v, o) :: rest) = (2, s, v + 1, []) := by
  simp only [fg_go]; rw [if_pos trivial, if_pos h]
theorem fg_go_stuck {v o : Nat} (h : s ≠ 100) (h2 : row v (st.headD []) = 0) : fg_go ar row res (n + 1) s st (Sum.inr (5, v, o) :: rest) = (1, s + 1, v + 1, []) := by
  simp only [fg_go]; rw [if_pos trivial, if_neg h, if_pos h2]
theorem fg_go_call {v o : Nat} (h : s ≠ 100) (h2 : row v (st.headD []) ≠ 0) : fg_go ar row res (n + 1) s st (Sum.inr (5, v, o) :: rest) =
    fg_go ar row res n (s + 1) st.tail (res v (st.headD []) ++ rest) := by
  simp only [fg_go]; rw [if_pos trivial, if_neg h, if_neg h2]
theorem fg_go_big {v o : Nat} (h : 40 < (fg_mk ar v st).length) : fg_go ar row res (n + 1) s st (Sum.inr (2, v, o) :: rest) = (3, s, o + 1, []) := by
  simp only [fg_go]; rw [if_neg (by decide), if_pos h]
theorem fg_go_con {v o : Nat} (h : ¬ 40 < (fg_mk ar v st).length) : fg_go ar row res (n + 1) s st (Sum.inr (2, v, o) :: rest) =
    fg_go ar row res n s (fg_mk ar v st :: st.drop (ar v)) rest := by
  simp only [fg_go]; rw [if_neg (by decide), if_neg h]
end
/-- two forests of values alone are one -/
theorem fg_same {ar : Nat → Nat} {c n : Nat} {a b : List fg_T} (h : ff_PF (fg_rt ar c) n a b) (hb : ∀ y, y ∈ b → fg_V y) : a = b := by
  obtain ⟨h1, h2, h3, h4⟩ := ff_done (V := fg_V) (U := fg_V) fg_hv fg_h0 h hb
  apply List.ext_getElem?
  intro i
  by_cases hi : i < n
  · obtain ⟨x, y, e1, e2, e3⟩ := h4 i hi
    rw [e1, e2, e3.1]
  · rw [List.getElem?_eq_none (by omega), List.getElem?_eq_none (by omega)]
/-- tokens of a forest are tokens -/
theorem ff_mem {α β : Type} {rt : Nat → α → β → Prop} {n : Nat} {a : List α} {b : List β} (h : ff_PF rt n a b) :
    (∀ x, x ∈ a → ∃ k y, rt k x y) ∧ (∀ y, y ∈ b → ∃ k x, rt k x y) := by
  refine ff_ind (fun _ a b => (∀ x, x ∈ a → ∃ k y, rt k x y) ∧ (∀ y, y ∈ b → ∃ k x, rt k x y)) ⟨fun x hx => (by cases hx), fun x hx => (by cases hx)⟩ ?_ h
  intro k x y m a1 b1 a2 b2 hr _ q1 _ q2
  refine ⟨fun z hz => ?_, fun z hz => ?_⟩
  · rcases List.mem_cons.mp hz with e | e
    · exact ⟨k, y, e ▸ hr⟩
    · rcases List.mem_append.mp e with e | e
      · exact q1.1 z e
      · exact q2.1 z e
  · rcases List.mem_append.mp hz with e | e
    · exact q1.2 z e
    · rcases List.mem_cons.mp e with e | e
      · exact ⟨k, x, e ▸ hr⟩
      · exact q2.2 z e
/-- a row's result, heads first and heads last: tokens of results, whose variables are in the pattern -/
def fg_rs (ar : Nat → Nat) (c : Nat) (T : Nat → Nat) (n : Nat) (k x y : Nat) : Prop :=
  x = y ∧ k = fo_op ar x ∧ ((x / 8 = 1 ∧ x % 8 < 4 ∧ ∃ j, j < n ∧ T j = x) ∨ (x / 8 = 2 ∧ x % 8 < c) ∨ (x / 8 = 5 ∧ x % 8 < 4))
/-- which row takes L, plus 1 -/
def fg_row (ar : Nat → Nat) (pat : Nat → Nat → Nat) (pl rc : Nat → Nat) (f : Nat) (L : List Nat) : Nat :=
  fm_row ar pat pl rc f (fv_g L) L.length
/-- what the variables of a pattern stand for -/
def fg_bd (ar T : Nat → Nat) (n : Nat) (L : List Nat) : Nat → Option Nat :=
  fb_w T (fe_pe (fm_o ar T) n) (fe_pe (fm_v ar (fv_g L)) L.length) n 12 0 0 (fun _ => none)
def fg_sb (ar T : Nat → Nat) (n f : Nat) (L : List Nat) (x : Nat) : fg_T :=
  if x / 8 = 1 then Sum.inl (fv_sub ar (fv_g L) L.length ((fg_bd ar T n L (x % 8)).getD 0)) else Sum.inr (x / 8, x % 8, f)
def fg_res (ar : Nat → Nat) (pat : Nat → Nat → Nat) (pl rc : Nat → Nat) (out : Nat → List Nat) (f : Nat) (L : List Nat) : List fg_T :=
  (out (5 * f + (fg_row ar pat pl rc f L - 1))).map (fg_sb ar (pat (5 * f + (fg_row ar pat pl rc f L - 1))) (pl (5 * f + (fg_row ar pat pl rc f L - 1))) f L)
theorem fg_sb_rt {ar : Nat → Nat} {c : Nat} {T : Nat → Nat} {n f : Nat} (L : List Nat) (hf : f < 4) : ∀ k x y, fg_rs ar c T n k x y →
    fg_rt ar c k (fg_sb ar T n f L x) (fg_sb ar T n f L y) := by
  intro k x y ⟨e, hk, h⟩
  subst e
  refine ⟨rfl, ?_, ?_⟩
  · unfold fg_sb
    by_cases h1 : x / 8 = 1
    · rw [if_pos h1, hk, fo_op01 (Or.inr h1)]; rfl
    · rw [if_neg h1, hk]
      show _ = if x / 8 = 2 then ar (x % 8) else 1
      by_cases h2 : x / 8 = 2
      · rw [if_pos h2, fo_op2 h2]
      · rw [if_neg h2, fo_op45 (by omega)]
  · unfold fg_sb
    by_cases h1 : x / 8 = 1
    · rw [if_pos h1]; trivial
    · rw [if_neg h1]
      exact ⟨by omega, hf⟩
theorem fg_PF {ar : Nat → Nat} {c : Nat} {T : Nat → Nat} {n f : Nat} {a b : List Nat} (L : List Nat) (hf : f < 4) (h : ff_PF (fg_rs ar c T n) 1 a b) :
    ff_PF (fg_rt ar c) 1 (a.map (fg_sb ar T n f L)) (b.map (fg_sb ar T n f L)) := ff_map _ _ (fg_sb_rt L hf) h
theorem fg_rs_up {ar : Nat → Nat} {c : Nat} {T : Nat → Nat} {n x : Nat} {a b : List Nat} {k : Nat} (h : ff_PF (fg_rs ar c T n) k a b) :
    ff_PF (fg_rs (fo_u ar c x) (c + 1) T n) k a b := by
  have := ff_map (rt := fg_rs ar c T n) (ru := fg_rs (fo_u ar c x) (c + 1) T n) id id (fun k x' y' ⟨e, hk, h⟩ => ⟨e, by
    show k = fo_op _ x'
    rw [fo_op_up (by unfold fo_tk; omega)]; exact hk, by
    show (x' / 8 = 1 ∧ x' % 8 < 4 ∧ ∃ j, j < n ∧ T j = x') ∨ (x' / 8 = 2 ∧ x' % 8 < c + 1) ∨ (x' / 8 = 5 ∧ x' % 8 < 4)
    rcases h with h | h | h
    · exact Or.inl h
    · exact Or.inr (Or.inl ⟨h.1, by omega⟩)
    · exact Or.inr (Or.inr h)⟩) h
  rwa [List.map_id, List.map_id] at this
