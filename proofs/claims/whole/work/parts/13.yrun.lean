/-- the nodes of the reference -/
def fy_H (ar : Nat → Nat) (c N : Nat) (hd lf rg sz : Nat → Int32) (dn : Nat → List Nat) : Prop :=
  ∀ n, n < N → ∃ h l r, hd n = nI h ∧ sz n = nI (dn n).length ∧ (lf n = if 1 ≤ ar h then nI l else -1) ∧ (rg n = if ar h = 2 then nI r else -1) ∧ fv_Nd ar c N dn n h l r
theorem fy_HH {ar : Nat → Nat} {c N : Nat} {nc nf ns nz : Nat → Int32} {dn : Nat → List Nat} (H : fy_H ar c N nc nf ns nz dn) : fv_H ar c N dn :=
  fun n hn => by
    obtain ⟨h, l, r, _, _, _, _, g⟩ := H n hn
    exact ⟨h, l, r, g⟩
theorem fy_H_new {ar : Nat → Nat} {c N : Nat} {nc nf ns nz : Nat → Int32} {dn : Nat → List Nat} (H : fy_H ar c N nc nf ns nz dn)
    {h l r : Nat} {L : List Nat} {xf xs : Int32} (hf : xf = if 1 ≤ ar h then nI l else -1) (hs : xs = if ar h = 2 then nI r else -1)
    (g : h < c ∧ L.length ≤ 40 ∧ ((ar h = 0 ∧ L = [h]) ∨ (ar h = 1 ∧ l < N ∧ L = h :: dn l) ∨ (ar h = 2 ∧ l < N ∧ r < N ∧ L = h :: (dn l ++ dn r)))) :
    fy_H ar c (N + 1) (upd nc N (nI h)) (upd nf N xf) (upd ns N xs) (upd nz N (nI L.length)) (fx_up dn N L) := by
  intro n hn
  by_cases e : n = N
  · subst e
    refine ⟨h, l, r, pk_us, by rw [pk_us, fx_up_s], by rw [pk_us]; exact hf, by rw [pk_us]; exact hs, g.1, by rw [fx_up_s]; exact g.2.1, ?_⟩
    rw [fx_up_s]
    rcases g.2.2 with ⟨a, b⟩ | ⟨a, b, d⟩ | ⟨a, b, b2, d⟩
    · exact Or.inl ⟨a, b⟩
    · exact Or.inr (Or.inl ⟨a, by omega, by rw [fx_up_n b]; exact d⟩)
    · exact Or.inr (Or.inr ⟨a, by omega, by omega, by rw [fx_up_n b, fx_up_n b2]; exact d⟩)
  · obtain ⟨h', l', r', a1, a2, a3, a4, a5⟩ := H n (by omega)
    refine ⟨h', l', r', by rw [pk_un e]; exact a1, by rw [pk_un e, fx_up_n (by omega)]; exact a2, by rw [pk_un e]; exact a3, by rw [pk_un e]; exact a4, ?_⟩
    exact fv_Nd_up a5 (by omega) (by omega) (fun q hq => fx_up_n hq)
/-- a token of the reference's work list -/
def fy_tok (dn : Nat → List Nat) (wk ww ow : Nat → Int32) (i : Nat) : fg_T :=
  if wk i = 6 then Sum.inl (dn (ww i).toNatClampNeg) else Sum.inr ((wk i).toNatClampNeg, (ww i).toNatClampNeg, (ow i).toNatClampNeg)
/-- what stands at one place of it -/
def fy_w1 (c N : Nat) (k v o : Int32) : Prop :=
  (k = 6 ∧ ∃ n, n < N ∧ v = nI n) ∨ (∃ k' v' o', k = nI k' ∧ v = nI v' ∧ o = nI o' ∧ ((k' = 2 ∧ v' < c) ∨ (k' = 5 ∧ v' < 4)) ∧ o' < 4)
def fy_W (c N w : Nat) (wk ww ow : Nat → Int32) : Prop := ∀ i, i < w → fy_w1 c N (wk i) (ww i) (ow i)
theorem fy_tok_v {dn : Nat → List Nat} {wk ww ow : Nat → Int32} {i n : Nat} (h : wk i = 6) (h2 : ww i = nI n) (hn : n < 2 ^ 31) : fy_tok dn wk ww ow i = Sum.inl (dn n) := by
  unfold fy_tok
  rw [if_pos h, h2, nI_clamp hn]
theorem fy_6 : ∀ k, k < 6 → ¬ nI k = 6 := by decide +kernel
theorem fy_tok_t {dn : Nat → List Nat} {wk ww ow : Nat → Int32} {i k v o : Nat} (h : wk i = nI k) (h2 : ww i = nI v) (h3 : ow i = nI o) (hk : k < 6) (hv : v < 2 ^ 31) (ho : o < 2 ^ 31) :
    fy_tok dn wk ww ow i = Sum.inr (k, v, o) := by
  unfold fy_tok
  rw [if_neg (by rw [h]; exact fy_6 k hk), h, h2, h3, nI_clamp (by omega), nI_clamp hv, nI_clamp ho]
theorem fy_tok_V {dn : Nat → List Nat} {wk ww ow : Nat → Int32} {i : Nat} : fg_V (fy_tok dn wk ww ow i) ↔ wk i = 6 := by
  unfold fy_tok fg_V
  by_cases h : wk i = 6
  · rw [if_pos h]; exact ⟨fun _ => h, fun _ => ⟨_, rfl⟩⟩
  · rw [if_neg h]
    exact ⟨fun ⟨L, e⟩ => (by cases e), fun g => absurd g h⟩
/-- more nodes, the same values -/
theorem fy_tok_c {dn dn' : Nat → List Nat} {c N w : Nat} {wk ww ow : Nat → Int32} (hw : fy_W c N w wk ww ow) (hN : N < 2 ^ 31) (h : ∀ q, q < N → dn' q = dn q) :
    ∀ i, i < w → fy_tok dn' wk ww ow i = fy_tok dn wk ww ow i := by
  intro i hi
  rcases hw i hi with ⟨a, n, b, e⟩ | ⟨k, v, o, a, b, d, e, f⟩
  · rw [fy_tok_v a e (by omega), fy_tok_v a e (by omega), h n b]
  · have hk : k < 6 := by omega
    unfold fy_tok
    rw [if_neg (by rw [a]; exact fy_6 k hk), if_neg (by rw [a]; exact fy_6 k hk)]
theorem fy_W_up {c N N' w : Nat} {wk ww ow : Nat → Int32} (hw : fy_W c N w wk ww ow) (h : N ≤ N') : fy_W c N' w wk ww ow := by
  intro i hi
  rcases hw i hi with ⟨a, n, b, e⟩ | g
  · exact Or.inl ⟨a, n, by omega, e⟩
  · exact Or.inr g
