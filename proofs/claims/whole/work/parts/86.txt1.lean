/-! THE CLASS: its text, signs and numbers -/
/-- a store whose text object has these fields from 2 on -/
def setB (s : St) (u : Fm) : St := (fun a b d => if a = 0 ∧ b = 0 ∧ 2 ≤ d then u d else s.1 a b d, s.2)
def txtC (s : St) (T : Nat → Nat) (n : Nat) : Prop := (∀ i, i < n → s.1 19 0 i = nI (T i)) ∧ s.1 0 0 1 = nI n ∧ n ≤ 80 ∧ ∀ i, T i < 128
section TXT1
variable {L : Nat} {xs : Nat → Int32} {f i k r p q j n B w m lo hi d t : Nat} {x y v z l name flow place : Int32} {s s' : St} {F G F' u : Fm} {T : Nat → Nat} {Q : Option MV → St → Prop}
theorem setB_x (h : 2 ≤ k) : (setB s u).1 0 0 k = u k := if_pos ⟨rfl, rfl, h⟩
theorem setB_y (h : k < 2) : (setB s u).1 0 0 k = s.1 0 0 k := if_neg (fun q => by omega)
theorem setB_o {a b d : Nat} (h : a ≠ 0) : (setB s u).1 a b d = s.1 a b d := if_neg (fun q => by omega)
theorem setB_put (h : 2 ≤ k) : putV (setB s u) 0 0 k x = setB s (putF u k x) := by
  unfold setB putV putF
  apply Prod.ext
  · funext a b d
    show (if a = 0 ∧ b = 0 ∧ d = k then x else if a = 0 ∧ b = 0 ∧ 2 ≤ d then u d else s.1 a b d) = (if a = 0 ∧ b = 0 ∧ 2 ≤ d then (if d = k then x else u d) else s.1 a b d)
    by_cases h1 : a = 0 <;> by_cases h2 : b = 0 <;> simp [h1, h2]
    by_cases h3 : d = k
    · subst h3; simp [h]
    · simp [h3]
  · rfl
theorem setB_self : setB s (s.1 0 0) = s := by
  unfold setB
  apply Prod.ext
  · funext a b d
    show (if a = 0 ∧ b = 0 ∧ 2 ≤ d then s.1 0 0 d else s.1 a b d) = _
    split
    · rename_i h; rw [h.1, h.2.1]
    · rfl
  · rfl
def byF (T : Nat → Nat) (n p : Nat) : Int32 := if p < n then nI (T p) else -1
set_option maxHeartbeats 4000000 in
set_option maxRecDepth 100000 in
theorem t_byteHere (ht : txtC s T n) (hp : u 2 = nI p) (hp8 : p ≤ 80) (h : Q (some (.inl (byF T n p))) (setB s u)) : wpM L xs codT retT (f + 1) m_X0_byteHere [.inr (0, 0)] (setB s u) Q := by
  obtain ⟨hT, hn, h8, hB⟩ := id ht
  by_cases hpn : p < n
  · have e : byF T n p = nI (T p) := if_pos hpn
    have hTp := hT p hpn
    rw [e] at h
    intro call hcall X hX; refine hX 1000 0 _ _ _ ?_
    repeat' (first | (intro hc) | (refine And.intro ?_ ?_) | (exact absurd nI_0 ‹cmpF 0 (nI 0) 0›) | (exact absurd ‹cmpT 0 (nI 1) 0› nI1_ne) | (exact absurd nI_0 ‹cmpT 1 (nI 0) 0›) | (exact absurd ‹cmpF 1 (nI 1) 0› nI1_ne) | (show wp _ _ _ _ _ _ _ _ _ _ _ _; conv => whnf) | (simp (disch := omega) only [setB_x, setB_y, setB_o, hp, hn, hTp, nI_cl]))
    all_goals first
      | exact h
      | (simp (disch := omega) only [setB_x, setB_y, setB_o, hp, hn, hTp, nI_cl]; exact h)
      | (clear h hX hcall hB hT ht e; simp (disch := omega) only [setB_x, setB_y, hp, hn, nI_toI, alen19]; omega)
      | (exfalso; exact (by assumption : ¬ nI 0 = 0) nI_0)
      | (exfalso; exact nI1_ne (by assumption))
      | (exfalso; clear h hX hcall hB hT ht e hTp; simp (disch := omega) only [cmpT, cmpF, nI_toI, setB_x, setB_y, (id hp), (id hn)] at * <;> omega)
  · have e : byF T n p = -1 := if_neg hpn
    rw [e] at h
    intro call hcall X hX; refine hX 1000 0 _ _ _ ?_
    repeat' (first | (intro hc) | (refine And.intro ?_ ?_) | (exact absurd nI_0 ‹cmpF 0 (nI 0) 0›) | (exact absurd ‹cmpT 0 (nI 1) 0› nI1_ne) | (exact absurd nI_0 ‹cmpT 1 (nI 0) 0›) | (exact absurd ‹cmpF 1 (nI 1) 0› nI1_ne) | (show wp _ _ _ _ _ _ _ _ _ _ _ _; conv => whnf) | (simp (disch := omega) only [setB_x, setB_y, setB_o, hp, hn, nI_cl]))
    all_goals first
      | exact h
      | (exfalso; exact (by assumption : ¬ nI 0 = 0) nI_0)
      | (exfalso; clear h hX hcall hB hT ht e; simp (disch := omega) only [cmpT, cmpF, nI_toI, setB_x, setB_y, (id hp), (id hn)] at * <;> omega)
set_option maxHeartbeats 4000000 in
set_option maxRecDepth 100000 in
theorem t_isDigit (ht : txtC s T n) (h : Q (some (.inl (bI (isDg T n p = true)))) s') : wpM L xs codT retT (f + 1) m_X0_isDigit [.inl (byF T n p)] s' Q := by
  have hB := ht.2.2.2 p
  have hb : isDg T n p = true ↔ 48 ≤ (byF T n p).toInt ∧ (byF T n p).toInt ≤ 57 := by
    by_cases hpn : p < n
    · have e : byF T n p = nI (T p) := if_pos hpn
      rw [e, nI_toI (by omega)]
      constructor
      · intro q
        have := isDg_1 q
        omega
      · intro q
        exact decide_eq_true (by omega)
    · have e : byF T n p = -1 := if_neg hpn
      have e1 : (-1 : Int32).toInt = -1 := by decide
      rw [e, e1]
      constructor
      · intro q
        have := isDg_1 q
        omega
      · intro q
        omega
  generalize byF T n p = x at *
  intro call hcall X hX; refine hX 1000 0 _ _ _ ?_
  repeat' (first | (intro hc) | (refine And.intro ?_ ?_) | (exact absurd nI_0 ‹cmpF 0 (nI 0) 0›) | (exact absurd ‹cmpT 0 (nI 1) 0› nI1_ne) | (exact absurd nI_0 ‹cmpT 1 (nI 0) 0›) | (exact absurd ‹cmpF 1 (nI 1) 0› nI1_ne) | (show wp _ _ _ _ _ _ _ _ _ _ _ _; conv => whnf))
  all_goals first
    | exact Or.inl rfl
    | exact Or.inr rfl
    | (refine bI_1 h (hb.mpr ?_); clear h hb; (try clear hX hcall); (try clear h); (try simp (disch := omega) only [cmpT, cmpF, bI_eq0, bI_ne0, Classical.not_not, nI_toI, nI_cl, nI_inj, nI_add, nI_mul, nI_subI, takeL, setL, Int32.toInt_zero, Nat.add_zero, Nat.zero_mul, Nat.zero_add, alen11, alen12, alen13, alen14, alen15, alen16, alen17, alen18, alen19] at *); omega)
    | (refine bI_0 h (fun q => ?_); have q := hb.mp q; clear h hb; (try clear hX hcall); (try clear h); (try simp (disch := omega) only [cmpT, cmpF, bI_eq0, bI_ne0, Classical.not_not, nI_toI, nI_cl, nI_inj, nI_add, nI_mul, nI_subI, takeL, setL, Int32.toInt_zero, Nat.add_zero, Nat.zero_mul, Nat.zero_add, alen11, alen12, alen13, alen14, alen15, alen16, alen17, alen18, alen19] at *); omega)
theorem byF_eq (hB : T p < 128) (ht : t < 128) : byF T n p = nI t ↔ sgnB T n p t = true := by
  unfold byF
  by_cases hpn : p < n
  · rw [if_pos hpn, nI_inj (by omega) (by omega)]
    exact ⟨fun q => decide_eq_true ⟨hpn, q⟩, fun q => (sgnB_1 q).2⟩
  · rw [if_neg hpn]
    exact ⟨fun q => absurd q.symm (nI_m1n (by omega)), fun q => absurd (sgnB_1 q).1 hpn⟩
set_option maxHeartbeats 4000000 in
set_option maxRecDepth 100000 in
theorem t_sign_1 (ht : txtC s T n) (hp : u 2 = nI p) (h3 : u 3 = -1) (hp8 : p ≤ 80) (ht1 : t < 128) (e : sgnB T n p t = true) (h : Q none (setB s (putF u 2 (nI (p + 1))))) : wpM L xs codT retT (f + 2) m_X0_readSign [.inr (0, 0), .inl (nI t)] (setB s u) Q := by
  have eb := (byF_eq (ht.2.2.2 p) ht1).mpr e
  intro call hcall X hX; refine hX 1000 0 _ _ _ ?_
  repeat' (first | (intro hc) | (refine And.intro ?_ ?_) | (exact absurd nI_0 ‹cmpF 0 (nI 0) 0›) | (exact absurd ‹cmpT 0 (nI 1) 0› nI1_ne) | (exact absurd nI_0 ‹cmpT 1 (nI 0) 0›) | (exact absurd ‹cmpF 1 (nI 1) 0› nI1_ne) | (show wp _ _ _ _ _ _ _ _ _ _ _ _; conv => whnf) | (simp (disch := omega) only [setB_x, setB_put, hp, nI_add]) | (simp (disch := omega) only [nI_add, nI_mul, setN_now, setN_put, nI_cl, Nat.add_zero]) | (refine hcall _ _ _ _ ?_; first | (refine t_byteHere ht hp hp8 ?_) | fail))
  all_goals first
    | exact h
    | (exfalso; exact (by assumption : cmpF 0 ((setB s u).1 0 0 3) (-1)) ((setB_x (by omega)).trans h3))
    | (exfalso; exact (by assumption : ¬ byF T n p = nI t) eb)
    | (exfalso; exact (by assumption : ¬ (setB s u).1 0 0 3 = -1) ((setB_x (by omega)).trans h3))
set_option maxHeartbeats 4000000 in
set_option maxRecDepth 100000 in
theorem t_sign_0 (ht : txtC s T n) (hp : u 2 = nI p) (h3 : u 3 = -1) (hp8 : p ≤ 80) (ht1 : t < 128) (e : sgnB T n p t = false) (h : Q none (setB s (putF u 3 (nI p)))) : wpM L xs codT retT (f + 2) m_X0_readSign [.inr (0, 0), .inl (nI t)] (setB s u) Q := by
  have eb : ¬ byF T n p = nI t := fun q => by rw [(byF_eq (ht.2.2.2 p) ht1).mp q] at e; cases e
  intro call hcall X hX; refine hX 1000 0 _ _ _ ?_
  repeat' (first | (intro hc) | (refine And.intro ?_ ?_) | (exact absurd nI_0 ‹cmpF 0 (nI 0) 0›) | (exact absurd ‹cmpT 0 (nI 1) 0› nI1_ne) | (exact absurd nI_0 ‹cmpT 1 (nI 0) 0›) | (exact absurd ‹cmpF 1 (nI 1) 0› nI1_ne) | (show wp _ _ _ _ _ _ _ _ _ _ _ _; conv => whnf) | (simp (disch := omega) only [setB_x, setB_put, hp, nI_add]) | (simp (disch := omega) only [nI_add, nI_mul, setN_now, setN_put, nI_cl, Nat.add_zero]) | (refine hcall _ _ _ _ ?_; first | (refine t_byteHere ht hp hp8 ?_) | fail))
  all_goals first
    | exact h
    | (exfalso; exact eb (by assumption))
    | (exfalso; exact (by assumption : ¬ (setB s u).1 0 0 3 = -1) ((setB_x (by omega)).trans h3))
set_option maxHeartbeats 4000000 in
set_option maxRecDepth 100000 in
theorem t_sign_f (h3 : ¬ u 3 = -1) (h : Q none (setB s u)) : wpM L xs codT retT (f + 2) m_X0_readSign [.inr (0, 0), .inl v] (setB s u) Q := by
  have h4 : ¬ (setB s u).1 0 0 3 = -1 := fun q => h3 ((setB_x (by omega)).symm.trans q)
  intro call hcall X hX; refine hX 1000 0 _ _ _ ?_
  repeat' (first | (intro hc) | (refine And.intro ?_ ?_) | (exact absurd nI_0 ‹cmpF 0 (nI 0) 0›) | (exact absurd ‹cmpT 0 (nI 1) 0› nI1_ne) | (exact absurd nI_0 ‹cmpT 1 (nI 0) 0›) | (exact absurd ‹cmpF 1 (nI 1) 0› nI1_ne) | (show wp _ _ _ _ _ _ _ _ _ _ _ _; conv => whnf))
  all_goals first
    | exact h
    | (exfalso; exact h4 (by assumption))
set_option maxHeartbeats 4000000 in
set_option maxRecDepth 100000 in
theorem t_num_f (h3 : ¬ u 3 = -1) (h : Q (some (.inl (nI 0))) (setB s u)) : wpM L xs codT retT (f + 2) m_X0_readNumber [.inr (0, 0), .inl v, .inl y] (setB s u) Q := by
  have h4 : ¬ (setB s u).1 0 0 3 = -1 := fun q => h3 ((setB_x (by omega)).symm.trans q)
  intro call hcall X hX; refine hX 1000 0 _ _ _ ?_
  repeat' (first | (intro hc) | (refine And.intro ?_ ?_) | (exact absurd nI_0 ‹cmpF 0 (nI 0) 0›) | (exact absurd ‹cmpT 0 (nI 1) 0› nI1_ne) | (exact absurd nI_0 ‹cmpT 1 (nI 0) 0›) | (exact absurd ‹cmpF 1 (nI 1) 0› nI1_ne) | (show wp _ _ _ _ _ _ _ _ _ _ _ _; conv => whnf))
  all_goals first
    | exact h
    | (exfalso; exact h4 (by assumption))
end TXT1
