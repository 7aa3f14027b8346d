/-! THE CLASS: slots, chosen -/
abbrev haveF (F : Fm) (b : Nat) (place : Int32) : Prop := (F b = nI 1 ∧ F (b + 1) = place) ∨ (F (b + 4) = nI 1 ∧ F (b + 5) = place) ∨ (F (b + 8) = nI 1 ∧ F (b + 9) = place)
theorem bF {b : Prop} [Decidable b] (hb : b) (h : bI b = 0) : False := bI_eq0.mp h hb
theorem bT {b : Prop} [Decidable b] (hb : ¬ b) (h : ¬ bI b = 0) : False := hb (bI_ne0.mp h)
theorem n01 {x : Int32} (h : x = nI 1) : ¬ x = nI 0 := fun q => nI01 (q.symm.trans h)
section CLS2
variable {L : Nat} {xs : Nat → Int32} {f i k r p q c j n B b w m sd : Nat} {x y v a z l lo v0 v1 name flow place : Int32} {s : St} {F G F' u : Fm} {Q : Option MV → St → Prop}
theorem cell_1 (cr : cellsRep s sd F b) (hk : k < 3) (h : F (b + 4 * k) = nI 1) : s.1 15 sd (k * 3) = F (b + 4 * k + 1) ∧ s.1 15 sd (k * 3 + 1) = F (b + 4 * k + 2) ∧ s.1 15 sd (k * 3 + 2) = F (b + 4 * k + 3) := (cr k hk).1 h
theorem flag_1 (hs : ∀ j, j < 3 → slotOk F (b + 4 * j)) (hk : k < 3) (h : ¬ F (b + 4 * k) = nI 0) : F (b + 4 * k) = nI 1 := (hs k hk).1.resolve_left h
set_option maxHeartbeats 4000000 in
set_option maxRecDepth 100000 in
theorem c_have (cr : cellsRep s sd F b) (hs : ∀ j, j < 3 → slotOk F (b + 4 * j)) (h : Q (some (.inl (bI (haveF F b place)))) s) : wpM L xs codT retT (f + 2) m_X7_have [.inr (7, sd), .inl place] s Q := by
  intro call hcall X hX; refine hX 1000 0 _ _ _ ?_
  repeat' (first | (intro hc) | (refine And.intro ?_ ?_) | (exact absurd nI_0 ‹cmpF 0 (nI 0) 0›) | (exact absurd ‹cmpT 0 (nI 1) 0› nI1_ne) | (exact absurd nI_0 ‹cmpT 1 (nI 0) 0›) | (exact absurd ‹cmpF 1 (nI 1) 0› nI1_ne) | (show wp _ _ _ _ _ _ _ _ _ _ _ _; conv => whnf))
  simp only [takeL, setL]
  have key : ∀ k, k < 3 → F (b + 4 * k) = nI 1 → F (b + 4 * k + 1) = place → haveF F b place := by
    intro k hk h1 h2
    have hk3 : k = 0 ∨ k = 1 ∨ k = 2 := by omega
    rcases hk3 with t | t | t <;> subst t
    · exact Or.inl ⟨h1, h2⟩
    · exact Or.inr (Or.inl ⟨h1, h2⟩)
    · exact Or.inr (Or.inr ⟨h1, h2⟩)
  have loop : ∀ j k, k + j = 3 → (∀ i, i < k → ¬ (F (b + 4 * i) = nI 1 ∧ F (b + 4 * i + 1) = place)) → X 2 [.inr (7, sd), .inl place, .inl (nI k)] [] s := by
    intro j
    induction j with
    | zero =>
      intro k hk hno
      have hk3 : k = 3 := by omega
      subst hk3
      have e : ¬ haveF F b place := by
        rintro (q | q | q)
        · exact hno 0 (by omega) q
        · exact hno 1 (by omega) q
        · exact hno 2 (by omega) q
      refine hX 1000 2 _ _ _ ?_
      repeat' (first | (intro hc) | (refine And.intro ?_ ?_) | (exact absurd nI_0 ‹cmpF 0 (nI 0) 0›) | (exact absurd ‹cmpT 0 (nI 1) 0› nI1_ne) | (exact absurd nI_0 ‹cmpT 1 (nI 0) 0›) | (exact absurd ‹cmpF 1 (nI 1) 0› nI1_ne) | (show wp _ _ _ _ _ _ _ _ _ _ _ _; conv => whnf))
      all_goals first
        | exact Or.inl rfl
        | exact Or.inr rfl
        | exact bI_0 h e
        | ((try clear hX hcall); (try clear h); (try simp (disch := omega) only [cmpT, cmpF, bI_eq0, bI_ne0, Classical.not_not, nI_toI, nI_cl, nI_inj, nI_add, nI_mul, nI_subI, takeL, setL, Int32.toInt_zero, Nat.add_zero, Nat.zero_mul, Nat.zero_add, alen11, alen12, alen13, alen14, alen15, alen16, alen17, alen18, alen19] at *); omega)
    | succ j ih =>
      intro k hk hno
      have hk3 : k < 3 := by omega
      by_cases hf : F (b + 4 * k) = nI 1
      · have c1 := (cell_1 cr hk3 hf).1
        by_cases hp : F (b + 4 * k + 1) = place
        · have e := key k hk3 hf hp
          clear ih
          refine hX 1000 2 _ _ _ ?_
          repeat' (first | (intro hc) | (refine And.intro ?_ ?_) | (exact absurd nI_0 ‹cmpF 0 (nI 0) 0›) | (exact absurd ‹cmpT 0 (nI 1) 0› nI1_ne) | (exact absurd nI_0 ‹cmpT 1 (nI 0) 0›) | (exact absurd ‹cmpF 1 (nI 1) 0› nI1_ne) | (show wp _ _ _ _ _ _ _ _ _ _ _ _; conv => whnf) | (simp (disch := omega) only [nI_add, nI_mul, setN_now, setN_put, nI_cl, Nat.add_zero]) | (refine hcall _ _ _ _ ?_; first | (refine c_isEmpty cr hs hk3 ?_) | fail))
          all_goals first
            | exact Or.inl rfl
            | exact Or.inr rfl
            | exact bI_1 h e
            | (exfalso; exact bT (n01 hf) (by assumption))
            | (clear hno key e; (try clear hX hcall); (try clear h); (try simp (disch := omega) only [cmpT, cmpF, bI_eq0, bI_ne0, Classical.not_not, nI_toI, nI_cl, nI_inj, nI_add, nI_mul, nI_subI, takeL, setL, Int32.toInt_zero, Nat.add_zero, Nat.zero_mul, Nat.zero_add, alen11, alen12, alen13, alen14, alen15, alen16, alen17, alen18, alen19] at *); first | omega | (exfalso; rw [c1] at *; contradiction))
        · have ih := ih (k + 1) (by omega) (fun i hi q => by
            by_cases e : i = k
            · subst e; exact hp q.2
            · exact hno i (by omega) q)
          refine hX 1000 2 _ _ _ ?_
          repeat' (first | (intro hc) | (refine And.intro ?_ ?_) | (exact absurd nI_0 ‹cmpF 0 (nI 0) 0›) | (exact absurd ‹cmpT 0 (nI 1) 0› nI1_ne) | (exact absurd nI_0 ‹cmpT 1 (nI 0) 0›) | (exact absurd ‹cmpF 1 (nI 1) 0› nI1_ne) | (show wp _ _ _ _ _ _ _ _ _ _ _ _; conv => whnf) | (simp (disch := omega) only [nI_add, nI_mul, setN_now, setN_put, nI_cl, Nat.add_zero]) | (refine hcall _ _ _ _ ?_; first | (refine c_isEmpty cr hs hk3 ?_) | fail))
          all_goals first
            | exact Or.inl rfl
            | exact Or.inr rfl
            | (exfalso; exact bT (n01 hf) (by assumption))
            | (clear hno key; (try clear hX hcall); (try clear h); (try simp (disch := omega) only [cmpT, cmpF, bI_eq0, bI_ne0, Classical.not_not, nI_toI, nI_cl, nI_inj, nI_add, nI_mul, nI_subI, takeL, setL, Int32.toInt_zero, Nat.add_zero, Nat.zero_mul, Nat.zero_add, alen11, alen12, alen13, alen14, alen15, alen16, alen17, alen18, alen19] at *); first | exact ih | omega | (exfalso; rw [c1] at *; contradiction))
      · have hf0 : F (b + 4 * k) = nI 0 := (hs k hk3).1.resolve_right hf
        have ih := ih (k + 1) (by omega) (fun i hi q => by
          by_cases e : i = k
          · subst e; exact hf q.1
          · exact hno i (by omega) q)
        refine hX 1000 2 _ _ _ ?_
        repeat' (first | (intro hc) | (refine And.intro ?_ ?_) | (exact absurd nI_0 ‹cmpF 0 (nI 0) 0›) | (exact absurd ‹cmpT 0 (nI 1) 0› nI1_ne) | (exact absurd nI_0 ‹cmpT 1 (nI 0) 0›) | (exact absurd ‹cmpF 1 (nI 1) 0› nI1_ne) | (show wp _ _ _ _ _ _ _ _ _ _ _ _; conv => whnf) | (simp (disch := omega) only [nI_add, nI_mul, setN_now, setN_put, nI_cl, Nat.add_zero]) | (refine hcall _ _ _ _ ?_; first | (refine c_isEmpty cr hs hk3 ?_) | fail))
        all_goals first
          | exact Or.inl rfl
          | exact Or.inr rfl
          | (exfalso; exact bF hf0 (by assumption))
          | (clear hno key; (try clear hX hcall); (try clear h); (try simp (disch := omega) only [cmpT, cmpF, bI_eq0, bI_ne0, Classical.not_not, nI_toI, nI_cl, nI_inj, nI_add, nI_mul, nI_subI, takeL, setL, Int32.toInt_zero, Nat.add_zero, Nat.zero_mul, Nat.zero_add, alen11, alen12, alen13, alen14, alen15, alen16, alen17, alen18, alen19] at *); first | exact ih | omega | contradiction)
  exact loop 3 0 rfl (fun i hi => absurd hi (by omega))
set_option maxHeartbeats 4000000 in
set_option maxRecDepth 100000 in
theorem c_lowestPriority (cr : cellsRep s sd F b) (hs : ∀ j, j < 3 → slotOk F (b + 4 * j)) (h : Q (some (.inl (lsN F b 3).1)) s) : wpM L xs codT retT (f + 2) m_X7_lowestPriority [.inr (7, sd)] s Q := by
  intro call hcall X hX; refine hX 1000 0 _ _ _ ?_
  repeat' (first | (intro hc) | (refine And.intro ?_ ?_) | (exact absurd nI_0 ‹cmpF 0 (nI 0) 0›) | (exact absurd ‹cmpT 0 (nI 1) 0› nI1_ne) | (exact absurd nI_0 ‹cmpT 1 (nI 0) 0›) | (exact absurd ‹cmpF 1 (nI 1) 0› nI1_ne) | (show wp _ _ _ _ _ _ _ _ _ _ _ _; conv => whnf))
  simp only [takeL, setL]
  refine loopN (P := fun k => X 5 [.inr (7, sd), .inl (lsN F b k).1, .inl (nI k)] [] s) 3 (fun k hk ih => ?_) ?_ 0 (by omega)
  · clear h
    by_cases hf : F (b + 4 * k) = nI 1
    · have c1 := (cell_1 cr hk hf).2.1
      have e : (lsN F b (k + 1)).1 = if F (b + 4 * k + 2) < (lsN F b k).1 then F (b + 4 * k + 2) else (lsN F b k).1 := by
        rw [lsN]
        by_cases g : F (b + 4 * k + 2) < (lsN F b k).1
        · have g' := toInt_lt.mp g
          rw [if_pos ⟨hf, by omega⟩, if_pos g]
        · have g' : ¬ (F (b + 4 * k + 2)).toInt < (lsN F b k).1.toInt := fun q => g (toInt_lt.mpr q)
          rw [if_neg g]
          by_cases g2 : (F (b + 4 * k + 2)).toInt ≤ (lsN F b k).1.toInt
          · rw [if_pos ⟨hf, g2⟩]
            exact Int32.toInt_inj.mp (by show (F (b + 4 * k + 2)).toInt = _; omega)
          · rw [if_neg (fun q => g2 q.2)]
      rw [e] at ih
      refine hX 1000 5 _ _ _ ?_
      repeat' (first | (intro hc) | (refine And.intro ?_ ?_) | (exact absurd nI_0 ‹cmpF 0 (nI 0) 0›) | (exact absurd ‹cmpT 0 (nI 1) 0› nI1_ne) | (exact absurd nI_0 ‹cmpT 1 (nI 0) 0›) | (exact absurd ‹cmpF 1 (nI 1) 0› nI1_ne) | (show wp _ _ _ _ _ _ _ _ _ _ _ _; conv => whnf) | (simp (disch := omega) only [nI_add, nI_mul, setN_now, setN_put, nI_cl, Nat.add_zero]) | (refine hcall _ _ _ _ ?_; first | (refine c_isEmpty cr hs hk ?_) | fail))
      all_goals first
        | exact Or.inl rfl
        | exact Or.inr rfl
        | (exfalso; exact bT (n01 hf) (by assumption))
        | (clear e; (try clear hX hcall); (try clear h); (try simp (disch := omega) only [cmpT, cmpF, bI_eq0, bI_ne0, Classical.not_not, nI_toI, nI_cl, nI_inj, nI_add, nI_mul, nI_subI, takeL, setL, Int32.toInt_zero, Nat.add_zero, Nat.zero_mul, Nat.zero_add, alen11, alen12, alen13, alen14, alen15, alen16, alen17, alen18, alen19] at *); first | (rw [c1]; exact ih) | omega)
    · have hf0 : F (b + 4 * k) = nI 0 := (hs k hk).1.resolve_right hf
      have e : (lsN F b (k + 1)).1 = (lsN F b k).1 := by rw [lsN, if_neg (fun q => hf q.1)]
      rw [e] at ih
      refine hX 1000 5 _ _ _ ?_
      repeat' (first | (intro hc) | (refine And.intro ?_ ?_) | (exact absurd nI_0 ‹cmpF 0 (nI 0) 0›) | (exact absurd ‹cmpT 0 (nI 1) 0› nI1_ne) | (exact absurd nI_0 ‹cmpT 1 (nI 0) 0›) | (exact absurd ‹cmpF 1 (nI 1) 0› nI1_ne) | (show wp _ _ _ _ _ _ _ _ _ _ _ _; conv => whnf) | (simp (disch := omega) only [nI_add, nI_mul, setN_now, setN_put, nI_cl, Nat.add_zero]) | (refine hcall _ _ _ _ ?_; first | (refine c_isEmpty cr hs hk ?_) | fail))
      all_goals first
        | exact Or.inl rfl
        | exact Or.inr rfl
        | (exfalso; exact bF hf0 (by assumption))
        | (clear e; (try clear hX hcall); (try clear h); (try simp (disch := omega) only [cmpT, cmpF, bI_eq0, bI_ne0, Classical.not_not, nI_toI, nI_cl, nI_inj, nI_add, nI_mul, nI_subI, takeL, setL, Int32.toInt_zero, Nat.add_zero, Nat.zero_mul, Nat.zero_add, alen11, alen12, alen13, alen14, alen15, alen16, alen17, alen18, alen19] at *); first | exact ih | omega | contradiction)
  · refine hX 1000 5 _ _ _ ?_
    repeat' (first | (intro hc) | (refine And.intro ?_ ?_) | (exact absurd nI_0 ‹cmpF 0 (nI 0) 0›) | (exact absurd ‹cmpT 0 (nI 1) 0› nI1_ne) | (exact absurd nI_0 ‹cmpT 1 (nI 0) 0›) | (exact absurd ‹cmpF 1 (nI 1) 0› nI1_ne) | (show wp _ _ _ _ _ _ _ _ _ _ _ _; conv => whnf))
    all_goals first
      | exact h
      | ((try clear hX hcall); (try clear h); (try simp (disch := omega) only [cmpT, cmpF, bI_eq0, bI_ne0, Classical.not_not, nI_toI, nI_cl, nI_inj, nI_add, nI_mul, nI_subI, takeL, setL, Int32.toInt_zero, Nat.add_zero, Nat.zero_mul, Nat.zero_add, alen11, alen12, alen13, alen14, alen15, alen16, alen17, alen18, alen19] at *); omega)
def ctV (F : Fm) (b : Nat) (lo : Int32) (k : Nat) : Int32 := if F (b + 4 * k) = nI 1 ∧ F (b + 4 * k + 2) = lo then F (b + 4 * k + 3) else nI 0
theorem ctV_i : (ctV F b lo k).toInt = ctr F b lo k := by
  unfold ctV ctr
  split <;> rfl
set_option maxHeartbeats 4000000 in
set_option maxRecDepth 100000 in
theorem c_weight (cr : cellsRep s sd F b) (hs : ∀ j, j < 3 → slotOk F (b + 4 * j)) (hk : k < 3) (h : Q (some (.inl (ctV F b lo k))) s) : wpM L xs codT retT (f + 2) m_X7_weightThatCounts [.inr (7, sd), .inl (nI k), .inl lo] s Q := by
  by_cases hf : F (b + 4 * k) = nI 1
  · have c1 := cell_1 cr hk hf
    by_cases hl : F (b + 4 * k + 2) = lo
    · have e : ctV F b lo k = F (b + 4 * k + 3) := if_pos ⟨hf, hl⟩
      rw [e] at h
      intro call hcall X hX; refine hX 1000 0 _ _ _ ?_
      repeat' (first | (intro hc) | (refine And.intro ?_ ?_) | (exact absurd nI_0 ‹cmpF 0 (nI 0) 0›) | (exact absurd ‹cmpT 0 (nI 1) 0› nI1_ne) | (exact absurd nI_0 ‹cmpT 1 (nI 0) 0›) | (exact absurd ‹cmpF 1 (nI 1) 0› nI1_ne) | (show wp _ _ _ _ _ _ _ _ _ _ _ _; conv => whnf) | (simp (disch := omega) only [nI_add, nI_mul, setN_now, setN_put, nI_cl, Nat.add_zero]) | (refine hcall _ _ _ _ ?_; first | (refine c_isEmpty cr hs hk ?_) | fail))
      all_goals first
        | exact Or.inl rfl
        | exact Or.inr rfl
        | (exfalso; exact bT (n01 hf) (by assumption))
        | (clear e; simp (disch := omega) only [nI_mul, nI_add, nI_cl, c1.2.2]; exact h)
        | (clear e; (try clear hX hcall); (try clear h); (try simp (disch := omega) only [cmpT, cmpF, bI_eq0, bI_ne0, Classical.not_not, nI_toI, nI_cl, nI_inj, nI_add, nI_mul, nI_subI, takeL, setL, Int32.toInt_zero, Nat.add_zero, Nat.zero_mul, Nat.zero_add, alen11, alen12, alen13, alen14, alen15, alen16, alen17, alen18, alen19] at *); first | omega | (rw [c1.2.1] at *; contradiction))
    · have e : ctV F b lo k = nI 0 := if_neg (fun q => hl q.2)
      rw [e] at h
      intro call hcall X hX; refine hX 1000 0 _ _ _ ?_
      repeat' (first | (intro hc) | (refine And.intro ?_ ?_) | (exact absurd nI_0 ‹cmpF 0 (nI 0) 0›) | (exact absurd ‹cmpT 0 (nI 1) 0› nI1_ne) | (exact absurd nI_0 ‹cmpT 1 (nI 0) 0›) | (exact absurd ‹cmpF 1 (nI 1) 0› nI1_ne) | (show wp _ _ _ _ _ _ _ _ _ _ _ _; conv => whnf) | (simp (disch := omega) only [nI_add, nI_mul, setN_now, setN_put, nI_cl, Nat.add_zero]) | (refine hcall _ _ _ _ ?_; first | (refine c_isEmpty cr hs hk ?_) | fail))
      all_goals first
        | exact Or.inl rfl
        | exact Or.inr rfl
        | (exfalso; exact bT (n01 hf) (by assumption))
        | exact h
        | (clear e; (try clear hX hcall); (try clear h); (try simp (disch := omega) only [cmpT, cmpF, bI_eq0, bI_ne0, Classical.not_not, nI_toI, nI_cl, nI_inj, nI_add, nI_mul, nI_subI, takeL, setL, Int32.toInt_zero, Nat.add_zero, Nat.zero_mul, Nat.zero_add, alen11, alen12, alen13, alen14, alen15, alen16, alen17, alen18, alen19] at *); first | omega | (rw [c1.2.1] at *; contradiction))
  · have hf0 : F (b + 4 * k) = nI 0 := (hs k hk).1.resolve_right hf
    have e : ctV F b lo k = nI 0 := if_neg (fun q => hf q.1)
    rw [e] at h
    intro call hcall X hX; refine hX 1000 0 _ _ _ ?_
    repeat' (first | (intro hc) | (refine And.intro ?_ ?_) | (exact absurd nI_0 ‹cmpF 0 (nI 0) 0›) | (exact absurd ‹cmpT 0 (nI 1) 0› nI1_ne) | (exact absurd nI_0 ‹cmpT 1 (nI 0) 0›) | (exact absurd ‹cmpF 1 (nI 1) 0› nI1_ne) | (show wp _ _ _ _ _ _ _ _ _ _ _ _; conv => whnf) | (simp (disch := omega) only [nI_add, nI_mul, setN_now, setN_put, nI_cl, Nat.add_zero]) | (refine hcall _ _ _ _ ?_; first | (refine c_isEmpty cr hs hk ?_) | fail))
    all_goals first
      | exact Or.inl rfl
      | exact Or.inr rfl
      | exact h
      | (exfalso; exact bF hf0 (by assumption))
      | (clear e; (try clear hX hcall); (try clear h); (try simp (disch := omega) only [cmpT, cmpF, bI_eq0, bI_ne0, Classical.not_not, nI_toI, nI_cl, nI_inj, nI_add, nI_mul, nI_subI, takeL, setL, Int32.toInt_zero, Nat.add_zero, Nat.zero_mul, Nat.zero_add, alen11, alen12, alen13, alen14, alen15, alen16, alen17, alen18, alen19] at *); omega)
theorem noI_0 (h : 0 ≤ v.toInt) : noI v = v := if_neg (fun q => by rw [q] at h; exact absurd h (by decide))
theorem noI_5 : noI (-5) = -1 := if_pos rfl
set_option maxHeartbeats 4000000 in
set_option maxRecDepth 100000 in
theorem c_placeFor (cr : cellsRep s sd F b) (hs : ∀ j, j < 3 → slotOk F (b + 4 * j)) (hf : 0 ≤ flow.toInt) (h : Q (some (.inl (noI (choF F b flow)))) s) : wpM L xs codT retT (f + 3) m_X7_placeFor [.inr (7, sd), .inl flow] s Q := by
  have hls := ls_ok hs 3 (by omega)
  have hfl : ∀ lo k, k < 3 → 0 ≤ (ctV F b lo k).toInt ∧ (ctV F b lo k).toInt ≤ 9 := fun lo k hk => by rw [ctV_i]; exact ctr_nn (hs k hk)
  have hct : ∀ lo k, k ≤ 3 → 0 ≤ ctS F b lo k ∧ ctS F b lo k ≤ 9 * (k : Int) := fun lo k hk => ctS_le hs k hk
  intro call hcall X hX; refine hX 1000 0 _ _ _ ?_
  repeat' (first | (intro hc) | (refine And.intro ?_ ?_) | (exact absurd nI_0 ‹cmpF 0 (nI 0) 0›) | (exact absurd ‹cmpT 0 (nI 1) 0› nI1_ne) | (exact absurd nI_0 ‹cmpT 1 (nI 0) 0›) | (exact absurd ‹cmpF 1 (nI 1) 0› nI1_ne) | (show wp _ _ _ _ _ _ _ _ _ _ _ _; conv => whnf) | (simp (disch := omega) only [nI_add, nI_mul, setN_now, setN_put, nI_cl, Nat.add_zero]) | (refine hcall _ _ _ _ ?_; first | (refine c_lowestPriority cr hs ?_) | fail))
  simp only [takeL, setL]
  generalize hlo : (lsN F b 3).1 = lo at *
  generalize hsu : (lsN F b 3).2 = su at *
  have sum : ∀ j k x, k + j = 3 → x.toInt = ctS F b lo k → (∀ x, x.toInt = ctS F b lo 3 → X 10 [.inr (7, sd), .inl flow, .inl lo, .inl x, .inl (nI 3)] [] s) → X 10 [.inr (7, sd), .inl flow, .inl lo, .inl x, .inl (nI k)] [] s := by
    clear h hls
    intro j
    induction j with
    | zero =>
      intro k x hk hx h
      have hk3 : k = 3 := by omega
      subst hk3
      exact h x hx
    | succ j ih =>
      intro k x hk hx h
      have g1 := hfl lo k (by omega)
      have g2 := hct lo k (by omega)
      have g3 : ctS F b lo (k + 1) = ctS F b lo k + ctr F b lo k := rfl
      have g4 : (ctV F b lo k).toInt = ctr F b lo k := ctV_i
      have ex : (x + ctV F b lo k).toInt = x.toInt + (ctV F b lo k).toInt := by
        rw [Int32.toInt_add]
        apply Int.bmod_eq_of_le <;> omega
      have ih := ih (k + 1) (x + ctV F b lo k) (by omega) (by omega) h
      clear h hfl hct
      refine hX 1000 10 _ _ _ ?_
      repeat' (first | (intro hc) | (refine And.intro ?_ ?_) | (exact absurd nI_0 ‹cmpF 0 (nI 0) 0›) | (exact absurd ‹cmpT 0 (nI 1) 0› nI1_ne) | (exact absurd nI_0 ‹cmpT 1 (nI 0) 0›) | (exact absurd ‹cmpF 1 (nI 1) 0› nI1_ne) | (show wp _ _ _ _ _ _ _ _ _ _ _ _; conv => whnf) | (simp (disch := omega) only [nI_add, nI_mul, setN_now, setN_put, nI_cl, Nat.add_zero]) | (refine hcall _ _ _ _ ?_; first | (refine c_weight cr hs (by omega) ?_) | fail))
      all_goals first
        | exact ih
        | ((try clear hX hcall); (try clear h); (try simp (disch := omega) only [cmpT, cmpF, bI_eq0, bI_ne0, Classical.not_not, nI_toI, nI_cl, nI_inj, nI_add, nI_mul, nI_subI, takeL, setL, Int32.toInt_zero, Nat.add_zero, Nat.zero_mul, Nat.zero_add, alen11, alen12, alen13, alen14, alen15, alen16, alen17, alen18, alen19] at *); first | exact ih | omega)
  refine sum 3 0 (nI 0) rfl rfl (fun x hx => ?_)
  clear sum
  rcases hls with hls | hls
  · have e0 : ∀ k, k ≤ 3 → ctS F b lo k = 0 := fun k hk => ctS_zero k (fun j hj q => absurd ((hls.1 j (by omega)).symm.trans q) nI01)
    have e5 : choF F b flow = -5 := by unfold choF; exact cho_none hls.1 3 0 _ rfl
    rw [e5, noI_5] at h
    have e3 := e0 3 (by omega)
    refine hX 1000 10 _ _ _ ?_
    repeat' (first | (intro hc) | (refine And.intro ?_ ?_) | (exact absurd nI_0 ‹cmpF 0 (nI 0) 0›) | (exact absurd ‹cmpT 0 (nI 1) 0› nI1_ne) | (exact absurd nI_0 ‹cmpT 1 (nI 0) 0›) | (exact absurd ‹cmpF 1 (nI 1) 0› nI1_ne) | (show wp _ _ _ _ _ _ _ _ _ _ _ _; conv => whnf))
    all_goals first
      | exact h
      | (exfalso; clear hfl hct; (try clear hX hcall); (try clear h); (try simp (disch := omega) only [cmpT, cmpF, bI_eq0, bI_ne0, Classical.not_not, nI_toI, nI_cl, nI_inj, nI_add, nI_mul, nI_subI, takeL, setL, Int32.toInt_zero, Nat.add_zero, Nat.zero_mul, Nat.zero_add, alen11, alen12, alen13, alen14, alen15, alen16, alen17, alen18, alen19] at *); omega)
  · have g5 := hls.2.2.2.1
    have g6 := hls.2.2.2.2
    have exs : x = su := Int32.toInt_inj.mp (by omega)
    subst exs
    have hz : ¬ x = 0 := fun q => by rw [q] at g6; exact absurd g6 (by decide)
    have ech : choF F b flow = choN F b lo 3 0 (flow - flow / x * x) := by unfold choF; rw [hsu, if_neg hz, hlo]
    rw [ech] at h
    have hr := rem_ok hf g6
    have m1 := Int.emod_nonneg flow.toInt (b := x.toInt) (by omega)
    have m2 := Int.emod_lt_of_pos flow.toInt (b := x.toInt) (by omega)
    have hmx : 0 ≤ (flow - flow / x * x).toInt ∧ (flow - flow / x * x).toInt < ctS F b lo 3 := by rw [hr]; omega
    have hm27 := hct lo 3 (by omega)
    generalize hmk : flow - flow / x * x = mk at *
    clear hr m1 m2
    have loop : ∀ j k left y, k + j = 3 → 0 ≤ left.toInt → left.toInt + y.toInt = mk.toInt → y.toInt = ctS F b lo k → Q (some (.inl (noI (choN F b lo j k left)))) s → X 49 [.inr (7, sd), .inl flow, .inl lo, .inl x, .inl mk, .inl y, .inl (nI k)] [] s := by
      clear h
      intro j
      induction j with
      | zero =>
        intro k left y hk h0 hl hy h
        have hk3 : k = 3 := by omega
        subst hk3
        refine hX 1000 49 _ _ _ ?_
        repeat' (first | (intro hc) | (refine And.intro ?_ ?_) | (exact absurd nI_0 ‹cmpF 0 (nI 0) 0›) | (exact absurd ‹cmpT 0 (nI 1) 0› nI1_ne) | (exact absurd nI_0 ‹cmpT 1 (nI 0) 0›) | (exact absurd ‹cmpF 1 (nI 1) 0› nI1_ne) | (show wp _ _ _ _ _ _ _ _ _ _ _ _; conv => whnf))
        all_goals first
          | exact h
          | (exfalso; clear hfl hct; (try clear hX hcall); (try clear h); (try simp (disch := omega) only [cmpT, cmpF, bI_eq0, bI_ne0, Classical.not_not, nI_toI, nI_cl, nI_inj, nI_add, nI_mul, nI_subI, takeL, setL, Int32.toInt_zero, Nat.add_zero, Nat.zero_mul, Nat.zero_add, alen11, alen12, alen13, alen14, alen15, alen16, alen17, alen18, alen19] at *); omega)
      | succ j ih =>
        intro k left y hk h0 hl hy h
        have hk3 : k < 3 := by omega
        have g1 := hfl lo k hk3
        have g2 := hct lo k (by omega)
        have g3 : ctS F b lo (k + 1) = ctS F b lo k + ctr F b lo k := rfl
        have g4 : (ctV F b lo k).toInt = ctr F b lo k := ctV_i
        have ex : (y + ctV F b lo k).toInt = y.toInt + (ctV F b lo k).toInt := by
          rw [Int32.toInt_add]
          apply Int.bmod_eq_of_le <;> omega
        by_cases hcn : F (b + 4 * k) = nI 1 ∧ F (b + 4 * k + 2) = lo
        · have ev : ctV F b lo k = F (b + 4 * k + 3) := if_pos hcn
          have hsub : (left - F (b + 4 * k + 3)).toInt = left.toInt - (F (b + 4 * k + 3)).toInt := by
            rw [Int32.toInt_sub]
            rw [ev] at g1
            apply Int.bmod_eq_of_le <;> omega
          rw [ev] at g1 g4 ex
          rw [choN, if_pos hcn] at h
          have c1 := (cell_1 cr hk3 hcn.1).1
          have hpl := slot_pl (hs k hk3) hcn.1
          by_cases hl2 : (left - F (b + 4 * k + 3)).toInt < 0
          · rw [if_pos hl2, noI_0 hpl.1, ← c1] at h
            clear ih
            refine hX 1000 49 _ _ _ ?_
            repeat' (first | (intro hc) | (refine And.intro ?_ ?_) | (exact absurd nI_0 ‹cmpF 0 (nI 0) 0›) | (exact absurd ‹cmpT 0 (nI 1) 0› nI1_ne) | (exact absurd nI_0 ‹cmpT 1 (nI 0) 0›) | (exact absurd ‹cmpF 1 (nI 1) 0› nI1_ne) | (show wp _ _ _ _ _ _ _ _ _ _ _ _; conv => whnf) | (rw [ev]) | (simp (disch := omega) only [nI_add, nI_mul, setN_now, setN_put, nI_cl, Nat.add_zero]) | (refine hcall _ _ _ _ ?_; first | (refine c_weight cr hs hk3 ?_) | fail))
            all_goals first
              | exact h
              | (simp (disch := omega) only [nI_mul, nI_add, nI_cl, Nat.add_zero]; exact h)
              | (clear hfl hct; (try clear hX hcall); (try clear h); (try simp (disch := omega) only [cmpT, cmpF, bI_eq0, bI_ne0, Classical.not_not, nI_toI, nI_cl, nI_inj, nI_add, nI_mul, nI_subI, takeL, setL, Int32.toInt_zero, Nat.add_zero, setN_now, alen20, alen11, alen12, alen13, alen14, alen15, alen16, alen17, alen18, alen19, (id ev)] at *); omega)
              | (exfalso; clear hfl hct; (try clear hX hcall); (try clear h); (try simp (disch := omega) only [cmpT, cmpF, bI_eq0, bI_ne0, Classical.not_not, nI_toI, nI_cl, nI_inj, nI_add, nI_mul, nI_subI, takeL, setL, Int32.toInt_zero, Nat.add_zero, setN_now, alen20, alen11, alen12, alen13, alen14, alen15, alen16, alen17, alen18, alen19, (id ev)] at *); omega)
          · rw [if_neg hl2] at h
            have ih := ih (k + 1) (left - F (b + 4 * k + 3)) (y + F (b + 4 * k + 3)) (by omega) (by omega) (by omega) (by omega) h
            clear h
            refine hX 1000 49 _ _ _ ?_
            repeat' (first | (intro hc) | (refine And.intro ?_ ?_) | (exact absurd nI_0 ‹cmpF 0 (nI 0) 0›) | (exact absurd ‹cmpT 0 (nI 1) 0› nI1_ne) | (exact absurd nI_0 ‹cmpT 1 (nI 0) 0›) | (exact absurd ‹cmpF 1 (nI 1) 0› nI1_ne) | (show wp _ _ _ _ _ _ _ _ _ _ _ _; conv => whnf) | (rw [ev]) | (simp (disch := omega) only [nI_add, nI_mul, setN_now, setN_put, nI_cl, Nat.add_zero]) | (refine hcall _ _ _ _ ?_; first | (refine c_weight cr hs hk3 ?_) | fail))
            all_goals first
              | exact ih
              | (clear hfl hct; (try clear hX hcall); (try clear h); (try simp (disch := omega) only [cmpT, cmpF, bI_eq0, bI_ne0, Classical.not_not, nI_toI, nI_cl, nI_inj, nI_add, nI_mul, nI_subI, takeL, setL, Int32.toInt_zero, Nat.add_zero, setN_now, alen20, alen11, alen12, alen13, alen14, alen15, alen16, alen17, alen18, alen19, (id ev)] at *); first | exact ih | omega)
        · have ev : ctV F b lo k = nI 0 := if_neg hcn
          rw [choN, if_neg hcn] at h
          rw [ev] at g4 ex
          have e00 : (nI 0).toInt = 0 := by decide
          have ih := ih (k + 1) left (y + nI 0) (by omega) h0 (by omega) (by omega) h
          clear h
          refine hX 1000 49 _ _ _ ?_
          repeat' (first | (intro hc) | (refine And.intro ?_ ?_) | (exact absurd nI_0 ‹cmpF 0 (nI 0) 0›) | (exact absurd ‹cmpT 0 (nI 1) 0› nI1_ne) | (exact absurd nI_0 ‹cmpT 1 (nI 0) 0›) | (exact absurd ‹cmpF 1 (nI 1) 0› nI1_ne) | (show wp _ _ _ _ _ _ _ _ _ _ _ _; conv => whnf) | (rw [ev]) | (simp (disch := omega) only [nI_add, nI_mul, setN_now, setN_put, nI_cl, Nat.add_zero]) | (refine hcall _ _ _ _ ?_; first | (refine c_weight cr hs hk3 ?_) | fail))
          all_goals first
            | exact ih
            | (clear hfl hct; (try clear hX hcall); (try clear h); (try simp (disch := omega) only [cmpT, cmpF, bI_eq0, bI_ne0, Classical.not_not, nI_toI, nI_cl, nI_inj, nI_add, nI_mul, nI_subI, takeL, setL, Int32.toInt_zero, Nat.add_zero, setN_now, alen20, alen11, alen12, alen13, alen14, alen15, alen16, alen17, alen18, alen19, (id ev)] at *); first | exact ih | omega)
    refine hX 1000 10 _ _ _ ?_
    repeat' (first | (intro hc) | (refine And.intro ?_ ?_) | (exact absurd nI_0 ‹cmpF 0 (nI 0) 0›) | (exact absurd ‹cmpT 0 (nI 1) 0› nI1_ne) | (exact absurd nI_0 ‹cmpT 1 (nI 0) 0›) | (exact absurd ‹cmpF 1 (nI 1) 0› nI1_ne) | (show wp _ _ _ _ _ _ _ _ _ _ _ _; conv => whnf))
    all_goals first
      | exact hz
      | exact hz (by assumption)
      | (exfalso; clear hfl hct loop; (try clear hX hcall); (try clear h); (try simp (disch := omega) only [cmpT, cmpF, bI_eq0, bI_ne0, Classical.not_not, nI_toI, nI_cl, nI_inj, nI_add, nI_mul, nI_subI, takeL, setL, Int32.toInt_zero, Nat.add_zero, Nat.zero_mul, Nat.zero_add, alen11, alen12, alen13, alen14, alen15, alen16, alen17, alen18, alen19] at *); omega)
      | ((try simp only [takeL, setL]); (try rw [hmk]); refine loop 3 0 mk (nI 0) rfl (by omega) ?_ rfl h; show mk.toInt + 0 = mk.toInt; omega)
end CLS2
