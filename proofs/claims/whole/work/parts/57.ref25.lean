/-! THE TEXT: how it is read -/
def isDg (T : Nat → Nat) (n p : Nat) : Bool := decide (p < n ∧ 48 ≤ T p ∧ T p ≤ 57)
def numG (T : Nat → Nat) (n : Nat) : Nat → Nat → Nat → Nat × Nat
  | 0, v, p => (v, p)
  | k + 1, v, p => if 0 < v ∧ isDg T n p = true then numG T n k (10 * v + T p - 48) (p + 1) else (v, p)
def numF (T : Nat → Nat) (n p : Nat) : Nat × Nat := numG T n 2 (T p - 48) (p + 1)
def numR (T : Nat → Nat) (n p lo hi : Nat) : Nat ⊕ (Nat × Nat) := if isDg T n p = true then (if lo ≤ (numF T n p).1 ∧ (numF T n p).1 ≤ hi then .inr (numF T n p) else .inl p) else .inl p
def sgnB (T : Nat → Nat) (n p x : Nat) : Bool := decide (p < n ∧ T p = x)
def letR (T : Nat → Nat) (n p : Nat) : Nat ⊕ ((Nat × Nat × Nat) × Nat) := match numR T n p 0 3 with
  | .inl q => .inl q
  | .inr (a, p1) => if sgnB T n p1 110 = true then (match numR T n (p1 + 1) 0 255 with
    | .inl q => .inl q
    | .inr (b, p2) => if sgnB T n p2 102 = true then (match numR T n (p2 + 1) 0 99 with
      | .inl q => .inl q
      | .inr (c, p3) => .inr ((a, b, c), p3)) else .inl p2) else .inl p1
def oneR (T : Nat → Nat) (n p t lo hi : Nat) : Nat ⊕ ((Nat × Nat × Nat × Nat) × Nat) := match numR T n (p + 1) lo hi with
  | .inl q => .inl q
  | .inr (a, p1) => if sgnB T n p1 59 = true then .inr ((t, a, 0, 0), p1 + 1) else .inl p1
def actR (T : Nat → Nat) (n p : Nat) : Nat ⊕ ((Nat × Nat × Nat × Nat) × Nat) :=
  if sgnB T n p 115 = true then (match letR T n (p + 1) with
    | .inl q => .inl q
    | .inr ((a, b, c), p1) => if sgnB T n p1 59 = true then .inr ((115, a, b, c), p1 + 1) else .inl p1)
  else if sgnB T n p 116 = true then oneR T n p 116 1 99
  else if sgnB T n p 114 = true then oneR T n p 114 0 7
  else if sgnB T n p 117 = true then oneR T n p 117 0 7
  else .inl p
/-- a store whose model has these fields from 6 on -/
def setA (s : St) (u : Fm) : St := (fun a b d => if a = 10 ∧ b = 0 ∧ 6 ≤ d then u d else s.1 a b d, s.2)
/-- the text of a store -/
def txtR (s : St) (T : Nat → Nat) (n : Nat) : Prop := (∀ i, i < n → s.1 23 0 i = nI (T i)) ∧ s.1 10 0 5 = nI n ∧ n ≤ 80 ∧ ∀ i, T i < 128
section REF25
variable {L : Nat} {xs : Nat → Int32} {f i k r p q c j n B b w m lo hi : Nat} {x y v a z l name flow place : Int32} {s : St} {F G F' u : Fm} {T : Nat → Nat} {Q : Option MV → St → Prop}
theorem setA_x (h : 6 ≤ k) : (setA s u).1 10 0 k = u k := if_pos ⟨rfl, rfl, h⟩
theorem setA_y (h : k < 6) : (setA s u).1 10 0 k = s.1 10 0 k := if_neg (fun q => by omega)
theorem setA_o {a b d : Nat} (h : a ≠ 10) : (setA s u).1 a b d = s.1 a b d := if_neg (fun q => by omega)
theorem setA_put (h : 6 ≤ k) : putV (setA s u) 10 0 k x = setA s (putF u k x) := by
  unfold setA putV putF
  apply Prod.ext
  · funext a b d
    show (if a = 10 ∧ b = 0 ∧ d = k then x else if a = 10 ∧ b = 0 ∧ 6 ≤ d then u d else s.1 a b d) = (if a = 10 ∧ b = 0 ∧ 6 ≤ d then (if d = k then x else u d) else s.1 a b d)
    by_cases h1 : a = 10 <;> by_cases h2 : b = 0 <;> simp [h1, h2]
    by_cases h3 : d = k
    · subst h3; simp [h]
    · simp [h3]
  · rfl
theorem alen23 : alen 23 = 80 := rfl
theorem putF_putF {i : Nat} : putF (putF u i x) i y = putF u i y := by
  funext j
  simp only [putF]
  split <;> rfl
theorem isDg_1 (h : isDg T n p = true) : p < n ∧ 48 ≤ T p ∧ T p ≤ 57 := of_decide_eq_true h
theorem isDg_0 (h : ¬ isDg T n p = true) : ¬ (p < n ∧ 48 ≤ T p ∧ T p ≤ 57) := fun q => h (decide_eq_true q)
set_option maxHeartbeats 4000000 in
set_option maxRecDepth 100000 in
theorem r_isDigitHere (ht : txtR s T n) (hp : u 6 = nI p) (hp8 : p ≤ 80) (h : Q (some (.inl (bI (isDg T n p = true)))) (setA s u)) : wpM L xs codT retT (f + 2) m_X10_isDigitHere [.inr (10, 0)] (setA s u) Q := by
  obtain ⟨hT, hn, h8, hB⟩ := id ht
  have hTp := hB p
  by_cases hd : isDg T n p = true
  · have e : bI (isDg T n p = true) = nI 1 := if_pos hd
    rw [e] at h
    obtain ⟨d1, d2, d3⟩ := isDg_1 hd
    intro call hcall X hX; refine hX 1000 0 _ _ _ ?_
    repeat' (first | (intro hc) | (refine And.intro ?_ ?_) | (exact absurd nI_0 ‹cmpF 0 (nI 0) 0›) | (exact absurd ‹cmpT 0 (nI 1) 0› nI1_ne) | (exact absurd nI_0 ‹cmpT 1 (nI 0) 0›) | (exact absurd ‹cmpF 1 (nI 1) 0› nI1_ne) | (show wp _ _ _ _ _ _ _ _ _ _ _ _; conv => whnf) | (simp (disch := omega) only [setA_x, setA_y, setA_o, hp, hn, hT, nI_cl]) | (simp (disch := omega) only [nI_add, nI_mul, setN_now, setN_put, nI_cl, Nat.add_zero]) | (refine hcall _ _ _ _ ?_; first | (refine r_isIn ?_) | fail))
    all_goals first
      | exact h
      | exact Or.inl rfl
      | exact Or.inr rfl
      | (clear hX hcall h e hd hB; simp (disch := omega) only [cmpT, cmpF, bI_eq0, bI_ne0, Classical.not_not, nI_toI, alen23, setA_x, setA_y, setA_o, (id hp), ht.2.1, ht.1, nI_cl] at *; omega)
  · have e : bI (isDg T n p = true) = nI 0 := if_neg hd
    rw [e] at h
    have d1 := isDg_0 hd
    intro call hcall X hX; refine hX 1000 0 _ _ _ ?_
    by_cases hpn : p < n
    · repeat' (first | (intro hc) | (refine And.intro ?_ ?_) | (exact absurd nI_0 ‹cmpF 0 (nI 0) 0›) | (exact absurd ‹cmpT 0 (nI 1) 0› nI1_ne) | (exact absurd nI_0 ‹cmpT 1 (nI 0) 0›) | (exact absurd ‹cmpF 1 (nI 1) 0› nI1_ne) | (show wp _ _ _ _ _ _ _ _ _ _ _ _; conv => whnf) | (simp (disch := omega) only [setA_x, setA_y, setA_o, hp, hn, hT, nI_cl]) | (simp (disch := omega) only [nI_add, nI_mul, setN_now, setN_put, nI_cl, Nat.add_zero]) | (refine hcall _ _ _ _ ?_; first | (refine r_isIn ?_) | fail))
      all_goals first
        | exact h
        | exact Or.inl rfl
        | exact Or.inr rfl
        | (clear hX hcall h e hd hB; simp (disch := omega) only [cmpT, cmpF, bI_eq0, bI_ne0, Classical.not_not, nI_toI, alen23, setA_x, setA_y, setA_o, (id hp), ht.2.1, ht.1, nI_cl] at *; omega)
    · repeat' (first | (intro hc) | (refine And.intro ?_ ?_) | (exact absurd nI_0 ‹cmpF 0 (nI 0) 0›) | (exact absurd ‹cmpT 0 (nI 1) 0› nI1_ne) | (exact absurd nI_0 ‹cmpT 1 (nI 0) 0›) | (exact absurd ‹cmpF 1 (nI 1) 0› nI1_ne) | (show wp _ _ _ _ _ _ _ _ _ _ _ _; conv => whnf) | (simp (disch := omega) only [setA_x, setA_y, setA_o, hp, hn, hT, nI_cl]) | (simp (disch := omega) only [nI_add, nI_mul, setN_now, setN_put, nI_cl, Nat.add_zero]) | (refine hcall _ _ _ _ ?_; first | (refine r_isIn ?_) | fail))
      all_goals first
        | exact h
        | exact Or.inl rfl
        | exact Or.inr rfl
        | (clear hX hcall h e hd hB; simp (disch := omega) only [cmpT, cmpF, bI_eq0, bI_ne0, Classical.not_not, nI_toI, alen23, setA_x, setA_y, setA_o, (id hp), ht.2.1, ht.1, nI_cl] at *; omega)
set_option maxHeartbeats 4000000 in
set_option maxRecDepth 100000 in
theorem r_passesSign {t : Nat} (ht : txtR s T n) (hp : u 6 = nI p) (hp8 : p ≤ 80) (ht1 : t < 128) (h0 : sgnB T n p t = false → Q (some (.inl (nI 0))) (setA s u)) (h1 : sgnB T n p t = true → Q (some (.inl (nI 1))) (setA s (putF u 6 (nI (p + 1))))) : wpM L xs codT retT (f + 1) m_X10_passesSign [.inr (10, 0), .inl (nI t)] (setA s u) Q := by
  obtain ⟨hT, hn, h8, hB⟩ := id ht
  have hTp := hB p
  have eu : putF u 6 (nI p) = u := by
    funext j
    simp only [putF]
    split
    · rename_i q; rw [q, hp]
    · rfl
  cases hd : sgnB T n p t with
  | true =>
    have h := h1 hd
    obtain ⟨d1, d2⟩ := of_decide_eq_true hd
    clear h0 h1
    intro call hcall X hX; refine hX 1000 0 _ _ _ ?_
    repeat' (first | (intro hc) | (refine And.intro ?_ ?_) | (exact absurd nI_0 ‹cmpF 0 (nI 0) 0›) | (exact absurd ‹cmpT 0 (nI 1) 0› nI1_ne) | (exact absurd nI_0 ‹cmpT 1 (nI 0) 0›) | (exact absurd ‹cmpF 1 (nI 1) 0› nI1_ne) | (show wp _ _ _ _ _ _ _ _ _ _ _ _; conv => whnf) | (simp (disch := omega) only [setA_x, setA_y, setA_o, setA_put, hp, hn, hT, nI_cl, nI_add, Nat.add_zero, eu]))
    all_goals first
      | exact h
      | exact Or.inl rfl
      | exact Or.inr rfl
      | (clear hX hcall h hB eu hd; simp (disch := omega) only [cmpT, cmpF, bI_eq0, bI_ne0, Classical.not_not, nI_toI, alen23, setA_x, setA_y, setA_o, (id hp), ht.2.1, ht.1, nI_cl, nI_inj] at *; first | omega | contradiction)
      | (simp (disch := omega) only [setA_x, setA_y, setA_o, setA_put, hp, hn, hT, nI_cl, nI_add, Nat.add_zero, eu]; exact h)
      | (exfalso; have q0 : nI 1 = 0 := ‹_›; exact nI1_ne q0)
  | false =>
    have h := h0 hd
    have d1 : ¬ (p < n ∧ T p = t) := of_decide_eq_false hd
    clear h0 h1
    intro call hcall X hX; refine hX 1000 0 _ _ _ ?_
    by_cases hpn : p < n
    · repeat' (first | (intro hc) | (refine And.intro ?_ ?_) | (exact absurd nI_0 ‹cmpF 0 (nI 0) 0›) | (exact absurd ‹cmpT 0 (nI 1) 0› nI1_ne) | (exact absurd nI_0 ‹cmpT 1 (nI 0) 0›) | (exact absurd ‹cmpF 1 (nI 1) 0› nI1_ne) | (show wp _ _ _ _ _ _ _ _ _ _ _ _; conv => whnf) | (simp (disch := omega) only [setA_x, setA_y, setA_o, setA_put, hp, hn, hT, nI_cl, nI_add, Nat.add_zero, eu]))
      all_goals first
        | exact h
        | exact Or.inl rfl
        | exact Or.inr rfl
        | (clear hX hcall h hB eu hd; simp (disch := omega) only [cmpT, cmpF, bI_eq0, bI_ne0, Classical.not_not, nI_toI, alen23, setA_x, setA_y, setA_o, (id hp), ht.2.1, ht.1, nI_cl, nI_inj] at *; first | omega | contradiction)
        | (simp (disch := omega) only [setA_x, setA_y, setA_o, setA_put, hp, hn, hT, nI_cl, nI_add, Nat.add_zero, eu]; exact h)
        | (exfalso; have q0 : ¬ nI 0 = 0 := ‹_›; exact q0 nI_0)
    · repeat' (first | (intro hc) | (refine And.intro ?_ ?_) | (exact absurd nI_0 ‹cmpF 0 (nI 0) 0›) | (exact absurd ‹cmpT 0 (nI 1) 0› nI1_ne) | (exact absurd nI_0 ‹cmpT 1 (nI 0) 0›) | (exact absurd ‹cmpF 1 (nI 1) 0› nI1_ne) | (show wp _ _ _ _ _ _ _ _ _ _ _ _; conv => whnf) | (simp (disch := omega) only [setA_x, setA_y, setA_o, setA_put, hp, hn, hT, nI_cl, nI_add, Nat.add_zero, eu]))
      all_goals first
        | exact h
        | exact Or.inl rfl
        | exact Or.inr rfl
        | (clear hX hcall h hB eu hd; simp (disch := omega) only [cmpT, cmpF, bI_eq0, bI_ne0, Classical.not_not, nI_toI, alen23, setA_x, setA_y, setA_o, (id hp), ht.2.1, ht.1, nI_cl, nI_inj] at *; first | omega | contradiction)
        | (simp (disch := omega) only [setA_x, setA_y, setA_o, setA_put, hp, hn, hT, nI_cl, nI_add, Nat.add_zero, eu]; exact h)
        | (exfalso; have q0 : ¬ nI 0 = 0 := ‹_›; exact q0 nI_0)
end REF25
