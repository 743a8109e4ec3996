/-- a token that may be appended -/
def fo_vt (c : Nat) (p q : Int32) (k v : Nat) : Prop := k < 6 ∧ p = nI k ∧ v < 8 ∧ ((k = 1 ∨ k = 5) → v < 4 ∧ q = nI v) ∧ (k = 2 → v < c ∧ q = nI v) ∧ ((k = 0 ∨ k = 3 ∨ k = 4) → v = 0)
section
variable {xcc xdr xas xss xnc xdp xoc xrs xrt xrf xrz : Int32} {xA xD xDe xUw xRc xP xPe xPl xO xOl xAr xS xSe xSn xF xNc xNf xNs xNz xCr xCn xCv xOp xRl xTa xUt : Nat → Int32}
theorem x_isT {post : Int32 → Prop} {c : Nat} {p q : Int32} (hc : c ≤ 6) (h1 : (∃ k v, fo_vt c p q k v) → post 1) (h0 : (¬ ∃ k v, fo_vt c p q k v) → post 0) :
    wpX_isToken post (nI c, xdr, xas, xss, xnc, xdp, xoc, xrs, xrt, xrf, xrz, xA, xD, xDe, xUw, xRc, xP, xPe, xPl, xO, xOl, xAr, xS, xSe, xSn, xF, xNc, xNf, xNs, xNz, xCr, xCn, xCv, xOp, xRl, xTa, xUt) p q := by
  rcases pk_ix p (n := 6) (by decide) with h | h | ⟨k, hk, rfl⟩
  · refine br_t h (h0 ?_)
    rintro ⟨k, v, a, rfl, _⟩
    exact nI_pos (by omega) h
  · have hn : ¬ p < 0 := fun z => absurd (Int32.lt_of_le_of_lt h z) (by decide)
    refine br_f hn (br_t ?_ (h0 ?_))
    · exact Int32.lt_of_lt_of_le (by decide : (5 : Int32) < nI 6) h
    · rintro ⟨k, v, a, rfl, _⟩
      exact nI_ge a (by decide) h
  · refine br_f (nI_pos (by omega)) (br_f (nI_nlt (a := 5) (by omega) (by decide)) ?_)
    have plain : (k = 0 ∨ k = 3 ∨ k = 4) → post 1 := fun z => h1 ⟨k, 0, hk, rfl, by omega, fun _ => by omega, fun _ => by omega, fun _ => rfl⟩
    have four : (k = 1 ∨ k = 5) → (∀ v, v < 4 → q = nI v → post 1) ∧ (fo_no4 q → post 0) := fun z =>
      ⟨fun v hv e => h1 ⟨k, v, hk, rfl, by omega, fun _ => ⟨hv, e⟩, fun _ => by omega, fun _ => by omega⟩, fun b => h0 (by
        rintro ⟨k', v, a, e, _, a1, _⟩
        have : k = k' := (nI_eq (by omega) (by omega)).mp e
        subst this
        obtain ⟨g1, rfl⟩ := a1 z
        rcases b with b | b
        · exact nI_pos (by omega) b
        · exact nI_ge g1 (by decide) b)⟩
    refine pk_eq k 0 (fun z => plain (by omega)) (fun z0 => pk_eq k 1 (fun z => ?_) (fun z1 => pk_eq k 2 (fun z => ?_) (fun z2 => pk_eq k 3 (fun z => plain (by omega)) (fun z3 => pk_eq k 4 (fun z => plain (by omega)) (fun z4 => pk_eq k 5 (fun z => ?_) (fun z5 => trivial))))))
    · obtain ⟨f1, f2⟩ := four (Or.inl z)
      rcases fo_f4 q with b | ⟨v, hv, rfl⟩
      · by_cases z' : q < 0
        · exact br_t z' (f2 b)
        · exact br_f z' (br_t (b.resolve_left z') (f2 b))
      · exact br_f (nI_pos (by omega)) (br_f (nI_ge (b := 4) hv (by decide)) (f1 v hv rfl))
    · have bad : (q < 0 ∨ nI c ≤ q) → post 0 := fun b => h0 (by
        rintro ⟨k', v, a, e, _, _, a1, _⟩
        have : k = k' := (nI_eq (by omega) (by omega)).mp e
        subst this
        obtain ⟨g1, rfl⟩ := a1 z
        rcases b with b | b
        · exact nI_pos (by omega) b
        · exact nI_ge g1 (by omega) b)
      rcases pk_ix q (n := c) (by omega) with b | b | ⟨v, hv, rfl⟩
      · exact br_t b (bad (Or.inl b))
      · by_cases z' : q < 0
        · exact br_t z' (bad (Or.inl z'))
        · exact br_f z' (br_t b (bad (Or.inr b)))
      · exact br_f (nI_pos (by omega)) (br_f (nI_ge hv (by omega)) (h1 ⟨k, v, hk, rfl, by omega, fun _ => by omega, fun _ => ⟨hv, rfl⟩, fun _ => by omega⟩))
    · obtain ⟨f1, f2⟩ := four (Or.inr z)
      rcases fo_f4 q with b | ⟨v, hv, rfl⟩
      · exact x_isF0 b ⟨rfl, f2 b⟩
      · exact x_isF1 hv ⟨rfl, f1 v hv rfl⟩
theorem x_tok39 {post : Int32 → SX → Prop} {c n k v : Nat} {q : Int32} (hn : n < 40) (h : fo_vt c (nI k) q k v) {z : Int32} (hz : (z = 0 ∧ (k = 1 ∨ k = 2 ∨ k = 5)) ∨ (z = 1 ∧ (k = 0 ∨ k = 3 ∨ k = 4)))
    (hp : post (nI (n + 1)) (xcc, nI (n + 1), xas, xss, xnc, xdp, xoc, xrs, xrt, xrf, xrz, xA, upd xD n (nI (8 * k + v)), xDe, xUw, xRc, xP, xPe, xPl, xO, xOl, xAr, xS, xSe, xSn, xF, xNc, xNf, xNs, xNz, xCr, xCn, xCv, xOp, xRl, xTa, xUt)) : wX_token_39 post (nI k) q z xcc (nI n) xas xss xnc xdp xoc xrs xrt xrf xrz xA xD xDe xUw xRc xP xPe xPl xO xOl xAr xS xSe xSn xF xNc xNf xNs xNz xCr xCn xCv xOp xRl xTa xUt := by
  obtain ⟨a1, _, a2, a3, a4, a5⟩ := h
  have key : ∀ w : Int32, w = nI v → wX_token_61 post w (nI k * 8) (nI n) xcc (nI n) xas xss xnc xdp xoc xrs xrt xrf xrz xA xD xDe xUw xRc xP xPe xPl xO xOl xAr xS xSe xSn xF xNc xNf xNs xNz xCr xCn xCv xOp xRl xTa xUt := by
    intro w hw
    refine ⟨vp_in_nI hn (by decide), nm_r ?_ (nm_r (nI_1 n) hp)⟩
    rw [nI_clamp (by omega), hw]
    refine congrArg (upd xD n) ?_
    rw [show nI k * 8 = nI (k * 8) from pk_mul k 8, nI_add, Nat.mul_comm]
  rcases hz with ⟨rfl, hk⟩ | ⟨rfl, hk⟩
  · refine br_t rfl (key q ?_)
    rcases hk with e | e | e
    · exact (a3 (Or.inl e)).2
    · exact (a4 e).2
    · exact (a3 (Or.inr e)).2
  · refine br_f fo_z1 (key 0 ?_)
    rw [a5 hk]; rfl
end
section
variable {ycc ydr ynd yln yal ygl yst ybl yhw yrn ywk : Int32} {yA yDk yDw yK yW yPl yRl yRc yHd yLf yRg ySz yLi ySk ySt yAr yGv yF yEn yPc yBd yWk yWw yOw yCt yOz yOp yKn : Nat → Int32}
theorem y_tok39 {post : Int32 → SY → Prop} {n : Nat} {p q z : Int32} (hn : n ≤ 40) (h0 : (n = 40 ∨ z = 0 ∨ ¬ ∃ k, k < 6 ∧ p = nI k) → post (-1) (ycc, nI n, ynd, yln, yal, ygl, yst, ybl, yhw, yrn, ywk, yA, yDk, yDw, yK, yW, yPl, yRl, yRc, yHd, yLf, yRg, ySz, yLi, ySk, ySt, yAr, yGv, yF, yEn, yPc, yBd, yWk, yWw, yOw, yCt, yOz, yOp, yKn))
    (h1 : ∀ k, k < 6 → p = nI k → ¬ z = 0 → n < 40 → post (nI (n + 1)) (ycc, nI (n + 1), ynd, yln, yal, ygl, yst, ybl, yhw, yrn, ywk, yA, upd yDk n p, upd yDw n q, yK, yW, yPl, yRl, yRc, yHd, yLf, yRg, ySz, yLi, ySk, ySt, yAr, yGv, yF, yEn, yPc, yBd, yWk, yWw, yOw, yCt, yOz, yOp, yKn)) : wY_token_39 post p q z ycc (nI n) ynd yln yal ygl yst ybl yhw yrn ywk yA yDk yDw yK yW yPl yRl yRc yHd yLf yRg ySz yLi ySk ySt yAr yGv yF yEn yPc yBd yWk yWw yOw yCt yOz yOp yKn := by
  rcases pk_ix p (n := 6) (by decide) with h | h | ⟨k, hk, rfl⟩
  · refine br_t h (br_t rfl (h0 (Or.inr (Or.inr ?_))))
    rintro ⟨k, a, rfl⟩
    exact nI_pos (by omega) h
  · have hn : ¬ p < 0 := fun z => absurd (Int32.lt_of_le_of_lt h z) (by decide)
    refine br_f hn (br_t (Int32.lt_of_lt_of_le (by decide : (5 : Int32) < nI 6) h) (br_t rfl (h0 (Or.inr (Or.inr ?_)))))
    rintro ⟨k, a, rfl⟩
    exact nI_ge a (by decide) h
  · refine br_f (nI_pos (by omega)) (br_f (nI_nlt (a := 5) (by omega) (by decide)) (br_f fo_z1 (br_c (fun z => h0 (Or.inr (Or.inl z))) (fun z0 => pk_eq n 40 (fun z => h0 (Or.inl z)) (fun z1 => ⟨vp_in_nI (by omega) (by decide), nm_r ?_ ⟨vp_in_nI (by omega) (by decide), nm_r ?_ (nm_r (nI_1 n) (h1 k hk rfl z0 (by omega)))⟩⟩)))))
    · rw [nI_clamp (by omega)]
    · rw [nI_clamp (by omega)]
theorem y_tok {post : Int32 → SY → Prop} {c n : Nat} {p q : Int32} (hc : c ≤ 6) (hn : n ≤ 40) (h0 : (n = 40 ∨ ¬ ∃ k v, fo_vt c p q k v) → post (-1) (nI c, nI n, ynd, yln, yal, ygl, yst, ybl, yhw, yrn, ywk, yA, yDk, yDw, yK, yW, yPl, yRl, yRc, yHd, yLf, yRg, ySz, yLi, ySk, ySt, yAr, yGv, yF, yEn, yPc, yBd, yWk, yWw, yOw, yCt, yOz, yOp, yKn))
    (h1 : n < 40 → (∃ k v, fo_vt c p q k v) → post (nI (n + 1)) (nI c, nI (n + 1), ynd, yln, yal, ygl, yst, ybl, yhw, yrn, ywk, yA, upd yDk n p, upd yDw n q, yK, yW, yPl, yRl, yRc, yHd, yLf, yRg, ySz, yLi, ySk, ySt, yAr, yGv, yF, yEn, yPc, yBd, yWk, yWw, yOw, yCt, yOz, yOp, yKn)) : wpY_token post (nI c, nI n, ynd, yln, yal, ygl, yst, ybl, yhw, yrn, ywk, yA, yDk, yDw, yK, yW, yPl, yRl, yRc, yHd, yLf, yRg, ySz, yLi, ySk, ySt, yAr, yGv, yF, yEn, yPc, yBd, yWk, yWw, yOw, yCt, yOz, yOp, yKn) p q := by
  have good : ∀ z : Int32, (z = 0 → ¬ ∃ k v, fo_vt c p q k v) → (∀ k, k < 6 → p = nI k → ¬ z = 0 → ∃ v, fo_vt c p q k v) → wY_token_39 post p q z (nI c) (nI n) ynd yln yal ygl yst ybl yhw yrn ywk yA yDk yDw yK yW yPl yRl yRc yHd yLf yRg ySz yLi ySk ySt yAr yGv yF yEn yPc yBd yWk yWw yOw yCt yOz yOp yKn := by
    intro z hz hg
    refine y_tok39 hn (fun h => h0 ?_) (fun k hk e hz h => h1 h ⟨k, hg k hk e hz⟩)
    rcases h with h | h | h
    · exact Or.inl h
    · exact Or.inr (hz h)
    · exact Or.inr (fun ⟨k, v, a⟩ => h ⟨k, a.1, a.2.1⟩)
  have ne : ∀ a b : Nat, a < 6 → b < 6 → nI a = nI b → a = b := fun a b ha hb e => (nI_eq (by omega) (by omega)).mp e
  have four : (p = nI 1 ∨ p = nI 5) → wY_token_10 post p q (nI c) (nI n) ynd yln yal ygl yst ybl yhw yrn ywk yA yDk yDw yK yW yPl yRl yRc yHd yLf yRg ySz yLi ySk ySt yAr yGv yF yEn yPc yBd yWk yWw yOw yCt yOz yOp yKn := by
    intro hp
    have hk : ∀ k, k < 6 → p = nI k → k = 1 ∨ k = 5 := fun k h e => by
      rcases hp with g | g
      · exact Or.inl (ne k 1 h (by decide) (e.symm.trans g))
      · exact Or.inr (ne k 5 h (by decide) (e.symm.trans g))
    rcases fo_f4 q with b | ⟨v, hv, rfl⟩
    · refine y_in0 b (good 0 (fun _ => ?_) (fun k _ _ z => absurd rfl z))
      rintro ⟨k, v, a, e, _, a1, _⟩
      obtain ⟨g1, rfl⟩ := a1 (hk k a e)
      rcases b with b | b
      · exact nI_pos (by omega) b
      · exact nI_ge g1 (by decide) b
    · refine y_in1 hv (good 1 (fun z => absurd z fo_z1) (fun k h e _ => ⟨v, h, e, by omega, fun _ => ⟨hv, rfl⟩, fun z => ?_, fun z => ?_⟩))
      · have := hk k h e; omega
      · have := hk k h e; omega
  refine br_c (fun z => four (Or.inl z)) (fun z1 => br_c (fun z => four (Or.inr z)) (fun z5 => br_c (fun z2 => ?_) (fun z2 => ?_)))
  · have hk : ∀ k, k < 6 → p = nI k → k = 2 := fun k h e => ne k 2 h (by decide) (e.symm.trans z2)
    have bad : (q < 0 ∨ nI c ≤ q) → ¬ ∃ k v, fo_vt c p q k v := by
      rintro b ⟨k, v, a, e, _, _, a1, _⟩
      obtain ⟨g1, rfl⟩ := a1 (hk k a e)
      rcases b with b | b
      · exact nI_pos (by omega) b
      · exact nI_ge g1 (by omega) b
    rcases pk_ix q (n := c) (by omega) with b | b | ⟨v, hv, rfl⟩
    · exact br_t b (good 0 (fun _ => bad (Or.inl b)) (fun _ _ _ z => absurd rfl z))
    · by_cases z' : q < 0
      · exact br_t z' (good 0 (fun _ => bad (Or.inl z')) (fun _ _ _ z => absurd rfl z))
      · refine br_f z' (br_t ?_ (good 0 (fun _ => bad (Or.inr b)) (fun _ _ _ z => absurd rfl z)))
        obtain ⟨j, hj, rfl⟩ := nI_of z'
        have hcj := (nI_leI (by omega) hj).mp b
        by_cases c0 : c = 0
        · subst c0
          exact Int32.lt_of_lt_of_le (by decide : nI 0 - 1 < 0) (nI_pos' hj)
        · rw [fo_s1 (by omega)]; exact nI_lt (by omega) hj
    · refine br_f (nI_pos (by omega)) (br_f ?_ (good 1 (fun z => absurd z fo_z1) (fun k h e _ => ⟨v, h, e, by omega, fun z => ?_, fun _ => ⟨hv, rfl⟩, fun z => ?_⟩)))
      · rw [fo_s1 (by omega)]; exact nI_nlt (by omega) (by omega)
      · have := hk k h e; omega
      · have := hk k h e; omega
  · refine good 1 (fun z => absurd z fo_z1) (fun k h e _ => ⟨0, h, e, by omega, fun z => ?_, fun z => ?_, fun _ => rfl⟩)
    · rcases z with z | z <;> subst z
      · exact absurd e z1
      · exact absurd e z5
    · subst z; exact absurd e z2
end
theorem fR_draft_new {c n k v : Nat} {T : Nat → Nat} {xd yk yw : Nat → Int32} {q : Int32} (h : fR_draft c n T xd yk yw) (hv : fo_vt c (nI k) q k v) :
    fR_draft c (n + 1) (fo_u T n (8 * k + v)) (upd xd n (nI (8 * k + v))) (upd yk n (nI k)) (upd yw n q) := by
  obtain ⟨a1, _, a2, a3, a4, a5⟩ := hv
  intro i hi
  by_cases e : i = n
  · subst e
    rw [fo_us, pk_us, pk_us, pk_us]
    have e1 : (8 * k + v) / 8 = k := by omega
    have e2 : (8 * k + v) % 8 = v := by omega
    refine ⟨?_, rfl, by rw [e1], fun z => ?_⟩
    · unfold fo_tk
      rw [e1, e2]
      by_cases k15 : k = 1 ∨ k = 5
      · have := (a3 k15).1; omega
      · by_cases k2 : k = 2
        · have := (a4 k2).1; omega
        · omega
    · rw [e1] at z; rw [e2]
      rcases z with z | z | z
      · exact (a3 (Or.inl z)).2
      · exact (a4 z).2
      · exact (a3 (Or.inr z)).2
  · rw [fo_un e, pk_un e, pk_un e, pk_un e]
    exact h i (by omega)
theorem i_vc_token {k : Nat} {u : SX} {v : SY} (I : i_Rel k u v) (hk : k + 4 ≤ 2048) (v1 : Int32) (v2 : Int32) : wpX_token (fun r u' => wpY_token (fun r' v' => r' = r ∧ i_Rel (k + 4) u' v') v v1 v2) u v1 v2 := by
  refine i_el (P := fun u v => wpX_token (fun r u' => wpY_token (fun r' v' => r' = r ∧ i_Rel (k + 4) u' v') v v1 v2) u v1 v2) I ?_
  intro c n m g ar rc pl T pat pre pos arg giv xss xnc xdp xoc xrs xrt xrf ynd yln yhw yrn ywk xD xDe xUw xP xPe xO xOl xAr xS xSe xSn xF xNc xNf xNs xNz xCr xCn xCv xOp xRl xTa xUt yDk yDw yK yW yHd yLf yRg ySz yLi ySk ySt yF yEn yPc yBd yWk yWw yOw yCt yOz yOp yKn G
  have hc := G.1
  have hn := G.2.1
  by_cases n40 : n = 40
  · subst n40
    exact br_t rfl (y_tok hc hn (fun _ => ⟨rfl, i_mk G⟩) (fun h => by omega))
  · refine br_f (fun z => n40 ((nI_eq (b := 40) (by omega) (by decide)).mp z)) (x_isT hc (fun hv => br_f fo_z1 ?_) (fun hv => br_t rfl (y_tok hc hn (fun _ => ⟨rfl, i_mk G⟩) (fun _ h => absurd h hv))))
    obtain ⟨kd, w, hv⟩ := hv
    obtain ⟨a1, rfl, a2, a3, a4, a5⟩ := id hv
    have G' : fR_G c (n + 1) m g ar rc pl (fo_u T n (8 * kd + w)) pat pre pos arg giv xrs yrn (upd xD n (nI (8 * kd + w))) xP xPe xO xOl xAr xRl (upd yDk n (nI kd)) (upd yDw n v2) yK yW yCt yOz yOp yKn := by
      obtain ⟨g1, g2, g3, g4, g5, g6⟩ := G
      exact ⟨g1, by omega, g3, g4, fR_draft_new g5 hv, g6⟩
    have Y1 : wpY_token (fun r' v' => r' = nI (n + 1) ∧ i_Rel (k + 4) (nI c, nI (n + 1), nI m, xss, xnc, xdp, xoc, xrs, xrt, xrf, nI g, fo_n ar, upd xD n (nI (8 * kd + w)), xDe, xUw, fo_n rc, xP, xPe, fo_n pl, xO, xOl, xAr, xS, xSe, xSn, xF, xNc, xNf, xNs, xNz, xCr, xCn, xCv, xOp, xRl, xTa, xUt) v') (nI c, nI n, ynd, yln, nI m, nI g, xrt, xrf, yhw, yrn, ywk, fo_n ar, yDk, yDw, yK, yW, fo_n pl, xOl, fo_n rc, yHd, yLf, yRg, ySz, yLi, ySk, ySt, xAr, xRl, yF, yEn, yPc, yBd, yWk, yWw, yOw, yCt, yOz, yOp, yKn) (nI kd) v2 := y_tok hc hn (fun h => absurd ⟨kd, w, hv⟩ (h.resolve_left n40)) (fun _ _ => ⟨rfl, i_mk G'⟩)
    refine pk_eq kd 0 (fun z => x_tok39 (by omega) hv (Or.inr ⟨rfl, by omega⟩) Y1) (fun z0 => pk_eq kd 3 (fun z => x_tok39 (by omega) hv (Or.inr ⟨rfl, by omega⟩) Y1) (fun z3 =>
      pk_eq kd 4 (fun z => x_tok39 (by omega) hv (Or.inr ⟨rfl, by omega⟩) Y1) (fun z4 => x_tok39 (by omega) hv (Or.inl ⟨rfl, by omega⟩) Y1)))
