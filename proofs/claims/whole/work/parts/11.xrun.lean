/-- with h operands at hand, the rest can be worked out, and one value is left -/
def fx_bal (ar : Nat → Nat) : Nat → List fg_T → Prop
  | h, [] => h = 1
  | h, t :: rest => fg_k ar t ≤ h ∧ fx_bal ar (h - fg_k ar t + 1) rest
theorem fx_bal_app {ar : Nat → Nat} {c n : Nat} {a b : List fg_T} (p : ff_PF (fg_rt ar c) n a b) :
    ∀ h rest, fx_bal ar (h + n) rest → fx_bal ar h (b ++ rest) := by
  refine ff_ind (fun n _ b => ∀ h rest, fx_bal ar (h + n) rest → fx_bal ar h (b ++ rest)) (fun h rest g => g) ?_ p
  intro k x y m a1 b1 a2 b2 hr _ q1 _ q2 h rest g
  rw [List.append_assoc, List.cons_append]
  refine q1 h _ ?_
  have hk : fg_k ar y = k := by rw [← hr.1]; exact hr.2.1.symm
  refine ⟨by rw [hk]; omega, ?_⟩
  rw [hk, show h + k - k + 1 = h + 1 by omega]
  refine q2 (h + 1) rest ?_
  rwa [show h + 1 + m = h + (m + 1) by omega]
/-- the nodes of the component -/
def fx_H (ar : Nat → Nat) (c N : Nat) (nc nf ns nz : Nat → Int32) (dn : Nat → List Nat) : Prop :=
  ∀ n, n < N → ∃ h l r, nc n = nI h ∧ nz n = nI (dn n).length ∧ (1 ≤ ar h → nf n = nI l) ∧ (ar h = 2 → ns n = nI r) ∧ fv_Nd ar c N dn n h l r
theorem fx_HH {ar : Nat → Nat} {c N : Nat} {nc nf ns nz : Nat → Int32} {dn : Nat → List Nat} (H : fx_H ar c N nc nf ns nz dn) : fv_H ar c N dn :=
  fun n hn => by
    obtain ⟨h, l, r, _, _, _, _, g⟩ := H n hn
    exact ⟨h, l, r, g⟩
def fx_up (dn : Nat → List Nat) (N : Nat) (L : List Nat) : Nat → List Nat := fun q => if q = N then L else dn q
theorem fx_up_s {dn : Nat → List Nat} {N : Nat} {L : List Nat} : fx_up dn N L N = L := if_pos rfl
theorem fx_up_n {dn : Nat → List Nat} {N q : Nat} {L : List Nat} (h : q < N) : fx_up dn N L q = dn q := if_neg (by omega)
theorem fx_H_new {ar : Nat → Nat} {c N : Nat} {nc nf ns nz : Nat → Int32} {dn : Nat → List Nat} (H : fx_H ar c N nc nf ns nz dn)
    {h l r : Nat} {L : List Nat} {xf xs : Int32} (hf : 1 ≤ ar h → xf = nI l) (hs : ar h = 2 → xs = nI r)
    (g : h < c ∧ L.length ≤ 40 ∧ ((ar h = 0 ∧ L = [h]) ∨ (ar h = 1 ∧ l < N ∧ L = h :: dn l) ∨ (ar h = 2 ∧ l < N ∧ r < N ∧ L = h :: (dn l ++ dn r)))) :
    fx_H ar c (N + 1) (upd nc N (nI h)) (upd nf N xf) (upd ns N xs) (upd nz N (nI L.length)) (fx_up dn N L) := by
  intro n hn
  by_cases e : n = N
  · subst e
    refine ⟨h, l, r, pk_us, by rw [pk_us, fx_up_s], fun z => by rw [pk_us]; exact hf z, fun z => by rw [pk_us]; exact hs z, g.1, by rw [fx_up_s]; exact g.2.1, ?_⟩
    rw [fx_up_s]
    rcases g.2.2 with ⟨a, b⟩ | ⟨a, b, d⟩ | ⟨a, b, b2, d⟩
    · exact Or.inl ⟨a, b⟩
    · exact Or.inr (Or.inl ⟨a, by omega, by rw [fx_up_n b]; exact d⟩)
    · exact Or.inr (Or.inr ⟨a, by omega, by omega, by rw [fx_up_n b, fx_up_n b2]; exact d⟩)
  · obtain ⟨h', l', r', a1, a2, a3, a4, a5⟩ := H n (by omega)
    refine ⟨h', l', r', by rw [pk_un e]; exact a1, by rw [pk_un e, fx_up_n (by omega)]; exact a2, fun z => by rw [pk_un e]; exact a3 z, fun z => by rw [pk_un e]; exact a4 z, ?_⟩
    exact fv_Nd_up a5 (by omega) (by omega) (fun q hq => fx_up_n hq)
/-- a token of a call's result, its variables read through the call's frame -/
def fx_tk (dn : Nat → List Nat) (cv : Nat → Nat) (d f x : Nat) : fg_T := if x / 8 = 1 then Sum.inl (dn (cv (4 * d + x % 8))) else Sum.inr (x / 8, x % 8, f)
/-- what is left of all calls, the latest first -/
def fx_frs (out : Nat → List Nat) (dn : Nat → List Nat) (cr cn cv : Nat → Nat) : Nat → List fg_T
  | 0 => []
  | d + 1 => ((out (cr d)).drop (cn d)).map (fx_tk dn cv d (cr d / 5)) ++ fx_frs out dn cr cn cv d
/-- the operands, the latest first -/
def fx_stk (dn : Nat → List Nat) (oo : Nat → Nat) : Nat → List (List Nat)
  | 0 => []
  | k + 1 => dn (oo k) :: fx_stk dn oo k
theorem fx_stk_len (dn : Nat → List Nat) (oo : Nat → Nat) : ∀ k, (fx_stk dn oo k).length = k := by
  intro k
  induction k with
  | zero => rfl
  | succ k ih => show (fx_stk dn oo k).length + 1 = k + 1; rw [ih]
theorem fx_stk_c {dn dn' : Nat → List Nat} {oo oo' : Nat → Nat} : ∀ k, (∀ i, i < k → dn' (oo' i) = dn (oo i)) → fx_stk dn' oo' k = fx_stk dn oo k := by
  intro k
  induction k with
  | zero => intro _; rfl
  | succ k ih =>
    intro h
    show dn' (oo' k) :: fx_stk dn' oo' k = dn (oo k) :: fx_stk dn oo k
    rw [h k (by omega), ih (fun i hi => h i (by omega))]
theorem fx_stk_drop (dn : Nat → List Nat) (oo : Nat → Nat) : ∀ k a, a ≤ k → (fx_stk dn oo k).drop a = fx_stk dn oo (k - a) := by
  intro k
  induction k with
  | zero => intro a h; have : a = 0 := by omega
            subst this; rfl
  | succ k ih =>
    intro a h
    cases a with
    | zero => rfl
    | succ a =>
      show (fx_stk dn oo k).drop a = _
      rw [ih a (by omega), show k + 1 - (a + 1) = k - a by omega]
/-- the calls' frames hold: rows, places, bound variables -/
def fx_FR (out : Nat → List Nat) (rc : Nat → Nat) (N d : Nat) (cr cn cv : Nat → Nat) (ar_ an av : Nat → Int32) : Prop :=
  ∀ i, i < d → ar_ i = nI (cr i) ∧ an i = nI (cn i) ∧ (∃ f r, f < 4 ∧ r < rc f ∧ cr i = 5 * f + r) ∧ cn i ≤ (out (cr i)).length ∧
    ∀ x, x ∈ (out (cr i)).drop (cn i) → x / 8 = 1 → x % 8 < 4 ∧ cv (4 * i + x % 8) < N ∧ av (4 * i + x % 8) = nI (cv (4 * i + x % 8))
theorem fx_frs_c {out : Nat → List Nat} {rc : Nat → Nat} {N : Nat} {dn dn' : Nat → List Nat} {cr cn cv cr' cn' cv' : Nat → Nat} {ar_ an av : Nat → Int32} :
    ∀ d, fx_FR out rc N d cr cn cv ar_ an av → (∀ q, q < N → dn' q = dn q) → (∀ i, i < d → cr' i = cr i ∧ cn' i = cn i) → (∀ i, i < 4 * d → cv' i = cv i) →
      fx_frs out dn' cr' cn' cv' d = fx_frs out dn cr cn cv d := by
  intro d
  induction d with
  | zero => intro _ _ _ _; rfl
  | succ d ih =>
    intro F hd h1 h2
    show ((out (cr' d)).drop (cn' d)).map (fx_tk dn' cv' d (cr' d / 5)) ++ fx_frs out dn' cr' cn' cv' d = ((out (cr d)).drop (cn d)).map (fx_tk dn cv d (cr d / 5)) ++ fx_frs out dn cr cn cv d
    rw [ih (fun i hi => F i (by omega)) hd (fun i hi => h1 i (by omega)) (fun i hi => h2 i (by omega)), (h1 d (by omega)).1, (h1 d (by omega)).2]
    refine congrArg (· ++ _) (List.map_congr_left ?_)
    intro x hx
    unfold fx_tk
    by_cases hk : x / 8 = 1
    · obtain ⟨g1, g2, g3⟩ := (F d (by omega)).2.2.2.2 x hx hk
      rw [if_pos hk, if_pos hk, h2 _ (by omega), hd _ g2]
    · rw [if_neg hk, if_neg hk]
theorem fx_FR_c {out : Nat → List Nat} {rc : Nat → Nat} {N N' d : Nat} {cr cn cv cr' cn' cv' : Nat → Nat} {ar_ an av ar' an' av' : Nat → Int32}
    (F : fx_FR out rc N d cr cn cv ar_ an av) (hN : N ≤ N') (h1 : ∀ i, i < d → cr' i = cr i ∧ cn' i = cn i ∧ ar' i = ar_ i ∧ an' i = an i)
    (h2 : ∀ i, i < 4 * d → cv' i = cv i ∧ av' i = av i) : fx_FR out rc N' d cr' cn' cv' ar' an' av' := by
  intro i hi
  obtain ⟨a1, a2, a3, a4, a5⟩ := F i hi
  obtain ⟨e1, e2, e3, e4⟩ := h1 i hi
  rw [e1, e2, e3, e4]
  refine ⟨a1, a2, a3, a4, fun x hx hk => ?_⟩
  obtain ⟨g1, g2, g3⟩ := a5 x hx hk
  obtain ⟨u1, u2⟩ := h2 (4 * i + x % 8) (by omega)
  rw [u1, u2]
  exact ⟨g1, by omega, g3⟩
