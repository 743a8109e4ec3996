/-- a list that lies in an array, cut -/
theorem fy_split {α : Type} {tok : Nat → α} {w : Nat} {pre vs suf : List α} {x : α} (h : fe_sl tok 0 w = pre ++ x :: (vs ++ suf)) :
    w = pre.length + 1 + vs.length + suf.length ∧ pre = fe_sl tok 0 pre.length ∧ tok pre.length = x ∧ vs = fe_sl tok (pre.length + 1) vs.length ∧
      suf = fe_sl tok (pre.length + 1 + vs.length) suf.length := by
  have hl := congrArg List.length h
  rw [fe_sl_len, List.length_append, List.length_cons, List.length_append] at hl
  have e : w = pre.length + ((vs.length + suf.length) + 1) := by omega
  rw [e, fe_sl_add] at h
  obtain ⟨h1, h2⟩ := List.append_inj h (by rw [fe_sl_len])
  rw [Nat.zero_add] at h2
  have h3 : tok pre.length :: fe_sl tok (pre.length + 1) (vs.length + suf.length) = x :: (vs ++ suf) := h2
  obtain ⟨h4, h5⟩ := List.cons.inj h3
  rw [fe_sl_add] at h5
  obtain ⟨h6, h7⟩ := List.append_inj h5 (by rw [fe_sl_len])
  exact ⟨by omega, h1.symm, h4, h6.symm, h7.symm⟩
/-- a piece replaced -/
theorem fy_repl {α : Type} {tok tok' nw : Nat → α} {q gone come z : Nat} (h1 : ∀ j, j < q → tok' j = tok j) (h2 : ∀ i, i < come → tok' (q + i) = nw i)
    (h3 : ∀ j, j < z → tok' (q + come + j) = tok (q + gone + j)) :
    fe_sl tok' 0 (q + come + z) = fe_sl tok 0 q ++ (fe_sl nw 0 come ++ fe_sl tok (q + gone) z) := by
  rw [fe_sl_add, fe_sl_add, List.append_assoc, Nat.zero_add, Nat.zero_add]
  rw [fe_sl_congr tok' tok q 0 0 (fun t ht => by rw [Nat.zero_add]; exact h1 t ht)]
  rw [fe_sl_congr tok' nw come q 0 (fun t ht => by rw [Nat.zero_add]; exact h2 t ht)]
  rw [fe_sl_congr tok' tok z (q + come) (q + gone) (fun t ht => h3 t ht)]
/-- where the next token to be worked on stands -/
def fy_rdy (ar : Nat → Nat) (tok : Nat → fg_T) (w q : Nat) : Prop :=
  q < w ∧ ¬ fg_V (tok q) ∧ q + fg_k ar (tok q) < w ∧ (∀ j, j < fg_k ar (tok q) → fg_V (tok (q + 1 + j))) ∧
    ∀ i, i < q → fg_V (tok i) ∨ ∃ j, j < fg_k ar (tok i) ∧ ¬ fg_V (tok (i + 1 + j))
/-- one step of the reference's work list, by the machine's -/
theorem fy_ctx {ar : Nat → Nat} {c : Nat} {tok : Nat → fg_T} {w : Nat} {st : List (List Nat)} {t : fg_T} {rest : List fg_T}
    (h : ff_PF (fg_rt ar c) 1 (fe_sl tok 0 w) (st.reverse.map Sum.inl ++ t :: rest)) (ht : ¬ fg_V t) :
    ∃ q z, fy_rdy ar tok w q ∧ tok q = t ∧ fg_ok c t ∧ w = q + 1 + fg_k ar t + z ∧ fg_k ar t ≤ st.length ∧
      fe_sl tok (q + 1) (fg_k ar t) = (st.take (fg_k ar t)).reverse.map Sum.inl ∧
      ∀ cc dd, ff_PF (fg_rt ar c) 1 cc dd → ff_PF (fg_rt ar c) 1 (fe_sl tok 0 q ++ (cc ++ fe_sl tok (q + 1 + fg_k ar t) z)) ((st.drop (fg_k ar t)).reverse.map Sum.inl ++ (dd ++ rest)) := by
  have hvals : ∀ y, y ∈ (st.reverse.map Sum.inl : List fg_T) → fg_V y := by
    intro y hy
    obtain ⟨L, _, e⟩ := List.mem_map.mp hy
    exact ⟨L, e.symm⟩
  obtain ⟨k, x, pre, vs, suf, v0, ws, r1, r2, r3, r4, r5, r6, r7, r8⟩ := ff_ctx (V := fg_V) (U := fg_V) fg_hv fg_h0 h _ t rest rfl hvals ht
  obtain ⟨ex, ek, eo⟩ := r1
  subst ex
  subst ek
  obtain ⟨a1, a2, a3, a4, a5⟩ := fy_split r2
  have hws : ∀ y, y ∈ ws → fg_V y := fun y hy => hvals y (by rw [r3]; exact List.mem_append_right _ hy)
  have evw : vs = ws := fg_same r4 hws
  have lw : ws.length = fg_k ar x := by rw [← evw]; exact r5
  have ll := congrArg List.length r3
  rw [List.length_map, List.length_reverse, List.length_append, lw] at ll
  have hk : fg_k ar x ≤ st.length := by omega
  have split : (st.reverse.map Sum.inl : List fg_T) = (st.drop (fg_k ar x)).reverse.map Sum.inl ++ (st.take (fg_k ar x)).reverse.map Sum.inl := by
    rw [← List.map_append, ← List.reverse_append, List.take_append_drop]
  have l0 : v0.length = ((st.drop (fg_k ar x)).reverse.map Sum.inl : List fg_T).length := by
    rw [List.length_map, List.length_reverse, List.length_drop]; omega
  obtain ⟨e0, e1⟩ := List.append_inj (r3.symm.trans split) l0
  rw [r5] at a1 a4 a5
  refine ⟨pre.length, suf.length, ⟨by omega, by rw [a3]; exact ht, by rw [a3]; omega, ?_, ?_⟩, a3, eo, a1, hk, ?_, ?_⟩
  · rw [a3]
    intro j hj
    have hm := fe_sl_get tok (fg_k ar x) (pre.length + 1) j hj
    rw [← a4] at hm
    exact r6 _ (List.mem_of_getElem? hm)
  · intro i hi
    have hpi : pre[i]? = some (tok i) := by
      have := fe_sl_get tok pre.length 0 i hi
      rw [← a2, Nat.zero_add] at this
      exact this
    rcases r7 i (tok i) hpi with g | ⟨kz, yz, j, w', g1, g2, g3, g4⟩
    · exact Or.inl g
    · right
      refine ⟨j, by rw [← g1.2.1]; exact g2, ?_⟩
      have hlt := (List.getElem?_eq_some_iff.mp g3).1
      rw [fe_sl_len] at hlt
      have := fe_sl_get tok w 0 (i + 1 + j) hlt
      rw [g3, Nat.zero_add] at this
      rw [← Option.some.inj this]
      exact g4
  · rw [← a4, evw, e1]
  · intro cc dd hcd
    have := r8 cc dd hcd
    rw [a2] at this
    rw [e0] at this
    rw [a5] at this
    exact this
/-- all are values: one is left -/
theorem fy_done {ar : Nat → Nat} {c : Nat} {tok : Nat → fg_T} {w : Nat} {st : List (List Nat)}
    (h : ff_PF (fg_rt ar c) 1 (fe_sl tok 0 w) (st.reverse.map Sum.inl)) : w = 1 ∧ ∃ L, tok 0 = Sum.inl L ∧ st = [L] := by
  have hvals : ∀ y, y ∈ (st.reverse.map Sum.inl : List fg_T) → fg_V y := by
    intro y hy
    obtain ⟨L, _, e⟩ := List.mem_map.mp hy
    exact ⟨L, e.symm⟩
  obtain ⟨h1, h2, h3, h4⟩ := ff_done (V := fg_V) (U := fg_V) fg_hv fg_h0 h hvals
  have e := fg_same h hvals
  rw [fe_sl_len] at h1
  subst h1
  refine ⟨rfl, ?_⟩
  rw [List.length_map, List.length_reverse] at h3
  obtain ⟨L, rfl⟩ := List.length_eq_one_iff.mp h3
  have e' : [tok 0] = [Sum.inl L] := e
  exact ⟨L, (List.cons.inj e').1, rfl⟩
