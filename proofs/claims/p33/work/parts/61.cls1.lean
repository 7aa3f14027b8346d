/-! THE CLASS: blocks and slots, read -/
def noI (v : Int32) : Int32 := if v = -5 then -1 else v
theorem alen11 : alen 11 = 8 := rfl
theorem alen12 : alen 12 = 8 := rfl
theorem alen13 : alen 13 = 4 := rfl
theorem alen14 : alen 14 = 5 := rfl
theorem alen15 : alen 15 = 9 := rfl
theorem alen16 : alen 16 = 6 := rfl
theorem alen17 : alen 17 = 2 := rfl
theorem alen18 : alen 18 = 2 := rfl
theorem alen19 : alen 19 = 80 := rfl
section CLS1
variable {L : Nat} {xs : Nat → Int32} {f i k r p q c j n B b w m id : Nat} {x y v a z l lo v0 v1 name flow place : Int32} {s : St} {F G F' u : Fm} {Q : Option MV → St → Prop}
set_option maxHeartbeats 4000000 in
set_option maxRecDepth 100000 in
theorem c_holds (e0 : s.1 1 b 0 = v0) (e1 : s.1 1 b 1 = v1) (h : Q (some (.inl (bI (v0.toInt ≤ a.toInt ∧ (a + z).toInt ≤ (v0 + v1).toInt)))) s) : wpM L xs codT retT (f + 1) m_X1_holds [.inr (1, b), .inl a, .inl z] s Q := by
  subst e0; subst e1
  intro call hcall X hX; refine hX 1000 0 _ _ _ ?_
  repeat' (first | (intro hc) | (refine And.intro ?_ ?_) | (exact absurd nI_0 ‹cmpF 0 (nI 0) 0›) | (exact absurd ‹cmpT 0 (nI 1) 0› nI1_ne) | (exact absurd nI_0 ‹cmpT 1 (nI 0) 0›) | (exact absurd ‹cmpF 1 (nI 1) 0› nI1_ne) | (show wp _ _ _ _ _ _ _ _ _ _ _ _; conv => whnf))
  all_goals first
    | exact Or.inl rfl
    | exact Or.inr rfl
    | (refine bI_1 h ?_; clear h; (try clear hX hcall); (try clear h); (try simp (disch := omega) only [cmpT, cmpF, bI_eq0, bI_ne0, Classical.not_not, nI_toI, nI_cl, nI_inj, nI_add, nI_mul, nI_subI, takeL, setL, Int32.toInt_zero, Nat.add_zero, Nat.zero_mul, Nat.zero_add, alen11, alen12, alen13, alen14, alen15, alen16, alen17, alen18, alen19] at *); omega)
    | (refine bI_0 h ?_; clear h; (try clear hX hcall); (try clear h); (try simp (disch := omega) only [cmpT, cmpF, bI_eq0, bI_ne0, Classical.not_not, nI_toI, nI_cl, nI_inj, nI_add, nI_mul, nI_subI, takeL, setL, Int32.toInt_zero, Nat.add_zero, Nat.zero_mul, Nat.zero_add, alen11, alen12, alen13, alen14, alen15, alen16, alen17, alen18, alen19] at *); omega)
theorem has_1 (h : iN name 256) : (name + nI 1).toInt = name.toInt + 1 := by
  rw [Int32.toInt_add, nI_toI (by omega)]
  apply Int.bmod_eq_of_le <;> omega
set_option maxHeartbeats 4000000 in
set_option maxRecDepth 100000 in
theorem c_has (hn : iN name 256) (e0 : s.1 1 b 0 = v0) (e1 : s.1 1 b 1 = v1) (h : Q (some (.inl (bI (v0.toInt ≤ name.toInt ∧ name.toInt < (v0 + v1).toInt)))) s) : wpM L xs codT retT (f + 2) m_X1_has [.inr (1, b), .inl name] s Q := by
  have h1 := has_1 hn
  have e : bI (v0.toInt ≤ name.toInt ∧ name.toInt < (v0 + v1).toInt) = bI (v0.toInt ≤ name.toInt ∧ (name + nI 1).toInt ≤ (v0 + v1).toInt) := bI_same (by omega)
  rw [e] at h
  intro call hcall X hX; refine hX 1000 0 _ _ _ ?_
  repeat' (first | (intro hc) | (refine And.intro ?_ ?_) | (exact absurd nI_0 ‹cmpF 0 (nI 0) 0›) | (exact absurd ‹cmpT 0 (nI 1) 0› nI1_ne) | (exact absurd nI_0 ‹cmpT 1 (nI 0) 0›) | (exact absurd ‹cmpF 1 (nI 1) 0› nI1_ne) | (show wp _ _ _ _ _ _ _ _ _ _ _ _; conv => whnf) | (simp (disch := omega) only [nI_add, nI_mul, setN_now, setN_put, nI_cl, Nat.add_zero]) | (refine hcall _ _ _ _ ?_; first | (refine c_holds e0 e1 ?_) | fail))
  all_goals first
    | exact h
    | exact bI_01 _
set_option maxHeartbeats 4000000 in
set_option maxRecDepth 100000 in
theorem c_isAt (e0 : s.1 1 b 0 = v0) (e1 : s.1 1 b 1 = v1) (h : Q (some (.inl (bI (v0 = a ∧ v1 = z)))) s) : wpM L xs codT retT (f + 1) m_X1_isAt [.inr (1, b), .inl a, .inl z] s Q := by
  subst e0; subst e1
  intro call hcall X hX; refine hX 1000 0 _ _ _ ?_
  repeat' (first | (intro hc) | (refine And.intro ?_ ?_) | (exact absurd nI_0 ‹cmpF 0 (nI 0) 0›) | (exact absurd ‹cmpT 0 (nI 1) 0› nI1_ne) | (exact absurd nI_0 ‹cmpT 1 (nI 0) 0›) | (exact absurd ‹cmpF 1 (nI 1) 0› nI1_ne) | (show wp _ _ _ _ _ _ _ _ _ _ _ _; conv => whnf))
  all_goals first
    | exact Or.inl rfl
    | exact Or.inr rfl
    | exact bI_1 h ⟨by assumption, by assumption⟩
    | (refine bI_0 h ?_; rintro ⟨q1, q2⟩; contradiction)
set_option maxHeartbeats 4000000 in
set_option maxRecDepth 100000 in
theorem c_meets (e0 : s.1 1 b 0 = v0) (e1 : s.1 1 b 1 = v1) (h : Q (some (.inl (bI (a.toInt < (v0 + v1).toInt ∧ v0.toInt < (a + z).toInt)))) s) : wpM L xs codT retT (f + 1) m_X1_meets [.inr (1, b), .inl a, .inl z] s Q := by
  subst e0; subst e1
  intro call hcall X hX; refine hX 1000 0 _ _ _ ?_
  repeat' (first | (intro hc) | (refine And.intro ?_ ?_) | (exact absurd nI_0 ‹cmpF 0 (nI 0) 0›) | (exact absurd ‹cmpT 0 (nI 1) 0› nI1_ne) | (exact absurd nI_0 ‹cmpT 1 (nI 0) 0›) | (exact absurd ‹cmpF 1 (nI 1) 0› nI1_ne) | (show wp _ _ _ _ _ _ _ _ _ _ _ _; conv => whnf))
  all_goals first
    | exact Or.inl rfl
    | exact Or.inr rfl
    | (refine bI_1 h ?_; clear h; (try clear hX hcall); (try clear h); (try simp (disch := omega) only [cmpT, cmpF, bI_eq0, bI_ne0, Classical.not_not, nI_toI, nI_cl, nI_inj, nI_add, nI_mul, nI_subI, takeL, setL, Int32.toInt_zero, Nat.add_zero, Nat.zero_mul, Nat.zero_add, alen11, alen12, alen13, alen14, alen15, alen16, alen17, alen18, alen19] at *); omega)
    | (refine bI_0 h ?_; clear h; (try clear hX hcall); (try clear h); (try simp (disch := omega) only [cmpT, cmpF, bI_eq0, bI_ne0, Classical.not_not, nI_toI, nI_cl, nI_inj, nI_add, nI_mul, nI_subI, takeL, setL, Int32.toInt_zero, Nat.add_zero, Nat.zero_mul, Nat.zero_add, alen11, alen12, alen13, alen14, alen15, alen16, alen17, alen18, alen19] at *); omega)
theorem cells_z (hc : cellsRep s id F b) (hs : ∀ j, j < 3 → slotOk F (b + 4 * j)) (hk : k < 3) : s.1 15 id (k * 3 + 2) = 0 ↔ F (b + 4 * k) = nI 0 := by
  obtain ⟨h1, h2⟩ := hc k hk
  obtain ⟨g1, g2⟩ := hs k hk
  constructor
  · intro e
    rcases g1 with g | g
    · exact g
    · have t1 := (h1 g).2.2
      have t2 := (g2 g).2.2
      rw [← t1, e] at t2
      have : (0 : Int32).toInt = 0 := rfl
      omega
  · exact h2
set_option maxHeartbeats 4000000 in
set_option maxRecDepth 100000 in
theorem c_isEmpty (hc : cellsRep s id F b) (hs : ∀ j, j < 3 → slotOk F (b + 4 * j)) (hk : k < 3) (h : Q (some (.inl (bI (F (b + 4 * k) = nI 0)))) s) : wpM L xs codT retT (f + 1) m_X7_isEmpty [.inr (7, id), .inl (nI k)] s Q := by
  have hz := cells_z hc hs hk
  have e : bI (F (b + 4 * k) = nI 0) = bI (s.1 15 id (k * 3 + 2) = 0) := bI_same hz.symm
  rw [e] at h
  clear e hz
  intro call hcall X hX; refine hX 1000 0 _ _ _ ?_
  repeat' (first | (intro hc) | (refine And.intro ?_ ?_) | (exact absurd nI_0 ‹cmpF 0 (nI 0) 0›) | (exact absurd ‹cmpT 0 (nI 1) 0› nI1_ne) | (exact absurd nI_0 ‹cmpT 1 (nI 0) 0›) | (exact absurd ‹cmpF 1 (nI 1) 0› nI1_ne) | (show wp _ _ _ _ _ _ _ _ _ _ _ _; conv => whnf))
  all_goals first
    | exact Or.inl rfl
    | exact Or.inr rfl
    | (refine bI_1 h ?_; clear h; (try clear hX hcall); (try clear h); (try simp (disch := omega) only [cmpT, cmpF, bI_eq0, bI_ne0, Classical.not_not, nI_toI, nI_cl, nI_inj, nI_add, nI_mul, nI_subI, takeL, setL, Int32.toInt_zero, Nat.add_zero, Nat.zero_mul, Nat.zero_add, alen11, alen12, alen13, alen14, alen15, alen16, alen17, alen18, alen19] at *); first | assumption | omega)
    | (refine bI_0 h ?_; clear h; (try clear hX hcall); (try clear h); (try simp (disch := omega) only [cmpT, cmpF, bI_eq0, bI_ne0, Classical.not_not, nI_toI, nI_cl, nI_inj, nI_add, nI_mul, nI_subI, takeL, setL, Int32.toInt_zero, Nat.add_zero, Nat.zero_mul, Nat.zero_add, alen11, alen12, alen13, alen14, alen15, alen16, alen17, alen18, alen19] at *); first | assumption | omega)
    | (exfalso; (try clear hX hcall); (try clear h); (try simp (disch := omega) only [cmpT, cmpF, bI_eq0, bI_ne0, Classical.not_not, nI_toI, nI_cl, nI_inj, nI_add, nI_mul, nI_subI, takeL, setL, Int32.toInt_zero, Nat.add_zero, Nat.zero_mul, Nat.zero_add, alen11, alen12, alen13, alen14, alen15, alen16, alen17, alen18, alen19] at *); omega)
    | ((try clear hX hcall); (try clear h); (try simp (disch := omega) only [cmpT, cmpF, bI_eq0, bI_ne0, Classical.not_not, nI_toI, nI_cl, nI_inj, nI_add, nI_mul, nI_subI, takeL, setL, Int32.toInt_zero, Nat.add_zero, Nat.zero_mul, Nat.zero_add, alen11, alen12, alen13, alen14, alen15, alen16, alen17, alen18, alen19] at *); omega)
def sWt (F : Fm) (b : Nat) : Nat → Int
  | 0 => 0
  | k + 1 => sWt F b k + (if F (b + 4 * k) = nI 1 then (F (b + 4 * k + 3)).toInt else 0)
theorem cell_w (hc : cellsRep s id F b) (hs : ∀ j, j < 3 → slotOk F (b + 4 * j)) (hk : k < 3) : (s.1 15 id (k * 3 + 2)).toInt = (if F (b + 4 * k) = nI 1 then (F (b + 4 * k + 3)).toInt else 0) ∧ 0 ≤ (s.1 15 id (k * 3 + 2)).toInt ∧ (s.1 15 id (k * 3 + 2)).toInt ≤ 9 ∧ ((s.1 15 id (k * 3 + 2)).toInt = 0 ↔ F (b + 4 * k) = nI 0) := by
  obtain ⟨h1, h2⟩ := hc k hk
  obtain ⟨g1, g2⟩ := hs k hk
  rcases g1 with g | g
  · have e := h2 g
    rw [e, if_neg (fun q => nI01 (g.symm.trans q))]
    exact ⟨rfl, Int.le_refl _, by decide, fun _ => g, fun _ => rfl⟩
  · have e := (h1 g).2.2
    have t2 := (g2 g).2.2
    rw [e, if_pos g]
    exact ⟨rfl, by omega, by omega, fun q => by omega, fun q => absurd (q.symm.trans g) nI01⟩
set_option maxHeartbeats 4000000 in
set_option maxRecDepth 100000 in
theorem c_areEmpty (hc : cellsRep s id F b) (hs : ∀ j, j < 3 → slotOk F (b + 4 * j)) (h : Q (some (.inl (bI (¬ (F b = nI 1 ∨ F (b + 4) = nI 1 ∨ F (b + 8) = nI 1))))) s) : wpM L xs codT retT (f + 1) m_X7_areEmpty [.inr (7, id)] s Q := by
  have w0 := cell_w hc hs (k := 0) (by omega)
  have w1 := cell_w hc hs (k := 1) (by omega)
  have w2 := cell_w hc hs (k := 2) (by omega)
  have f0 := (hs 0 (by omega)).1
  have f1 := (hs 1 (by omega)).1
  have f2 := (hs 2 (by omega)).1
  simp only [Nat.mul_zero, Nat.mul_one, Nat.reduceMul, Nat.add_zero, Nat.reduceAdd, Nat.zero_add] at w0 w1 w2 f0 f1 f2
  intro call hcall X hX; refine hX 1000 0 _ _ _ ?_
  repeat' (first | (intro hc) | (refine And.intro ?_ ?_) | (exact absurd nI_0 ‹cmpF 0 (nI 0) 0›) | (exact absurd ‹cmpT 0 (nI 1) 0› nI1_ne) | (exact absurd nI_0 ‹cmpT 1 (nI 0) 0›) | (exact absurd ‹cmpF 1 (nI 1) 0› nI1_ne) | (show wp _ _ _ _ _ _ _ _ _ _ _ _; conv => whnf))
  simp only [takeL, setL]
  have loop : ∀ j k x, k + j = 3 → x = (if k = 0 then nI 0 else if k = 1 then nI 0 + s.1 15 id 2 else if k = 2 then nI 0 + s.1 15 id 2 + s.1 15 id 5 else nI 0 + s.1 15 id 2 + s.1 15 id 5 + s.1 15 id 8) → X 4 [.inr (7, id), .inl x, .inl (nI k)] [] s := by
    intro j
    induction j with
    | zero =>
      intro k x hk hx
      have hk3 : k = 3 := by omega
      subst hk3
      rw [if_neg (by omega), if_neg (by omega), if_neg (by omega)] at hx
      have ex : x.toInt = (s.1 15 id 2).toInt + (s.1 15 id 5).toInt + (s.1 15 id 8).toInt := by
        rw [hx]
        have e1 : (nI 0 + s.1 15 id 2).toInt = (s.1 15 id 2).toInt := by
          rw [Int32.toInt_add, nI_toI (by omega)]
          apply (Int.bmod_eq_of_le _ _).trans <;> omega
        have e2 : (nI 0 + s.1 15 id 2 + s.1 15 id 5).toInt = (s.1 15 id 2).toInt + (s.1 15 id 5).toInt := by
          rw [Int32.toInt_add, e1]
          apply Int.bmod_eq_of_le <;> omega
        rw [Int32.toInt_add, e2]
        apply Int.bmod_eq_of_le <;> omega
      clear hx
      refine hX 1000 4 _ _ _ ?_
      repeat' (first | (intro hc) | (refine And.intro ?_ ?_) | (exact absurd nI_0 ‹cmpF 0 (nI 0) 0›) | (exact absurd ‹cmpT 0 (nI 1) 0› nI1_ne) | (exact absurd nI_0 ‹cmpT 1 (nI 0) 0›) | (exact absurd ‹cmpF 1 (nI 1) 0› nI1_ne) | (show wp _ _ _ _ _ _ _ _ _ _ _ _; conv => whnf))
      all_goals first
        | exact Or.inl rfl
        | exact Or.inr rfl
        | ((try clear hX hcall); (try clear h); (try simp (disch := omega) only [cmpT, cmpF, bI_eq0, bI_ne0, Classical.not_not, nI_toI, nI_cl, nI_inj, nI_add, nI_mul, nI_subI, takeL, setL, Int32.toInt_zero, Nat.add_zero, Nat.zero_mul, Nat.zero_add, alen11, alen12, alen13, alen14, alen15, alen16, alen17, alen18, alen19] at *); omega)
        | (refine bI_1 h ?_; have hq : x = 0 := ‹cmpF 1 x 0›; rw [hq] at ex; have : (0 : Int32).toInt = 0 := rfl; have z0 := w0.2.2.2.mp (by omega); have z1 := w1.2.2.2.mp (by omega); have z2 := w2.2.2.2.mp (by omega); rintro (q | q | q); exact nI01 (z0.symm.trans q); exact nI01 (z1.symm.trans q); exact nI01 (z2.symm.trans q))
        | (refine bI_0 h ?_; have hq : ¬ x = 0 := ‹cmpT 1 x 0›; intro q; apply hq; apply Int32.toInt_inj.mp; rw [ex]; have t0 := w0.2.2.2.mpr (f0.resolve_right (fun t => q (Or.inl t))); have t1 := w1.2.2.2.mpr (f1.resolve_right (fun t => q (Or.inr (Or.inl t)))); have t2 := w2.2.2.2.mpr (f2.resolve_right (fun t => q (Or.inr (Or.inr t)))); rw [t0, t1, t2]; rfl)
    | succ j ih =>
      intro k x hk hx
      have ih := ih (k + 1) (x + s.1 15 id (k * 3 + 2)) (by omega) (by
        have hk3 : k = 0 ∨ k = 1 ∨ k = 2 := by omega
        rcases hk3 with t | t | t <;> subst t <;> rw [hx] <;> rfl)
      clear h hx w0 w1 w2 f0 f1 f2
      refine hX 1000 4 _ _ _ ?_
      repeat' (first | (intro hc) | (refine And.intro ?_ ?_) | (exact absurd nI_0 ‹cmpF 0 (nI 0) 0›) | (exact absurd ‹cmpT 0 (nI 1) 0› nI1_ne) | (exact absurd nI_0 ‹cmpT 1 (nI 0) 0›) | (exact absurd ‹cmpF 1 (nI 1) 0› nI1_ne) | (show wp _ _ _ _ _ _ _ _ _ _ _ _; conv => whnf))
      all_goals first
        | ((try clear hX hcall); (try clear h); (try simp (disch := omega) only [cmpT, cmpF, bI_eq0, bI_ne0, Classical.not_not, nI_toI, nI_cl, nI_inj, nI_add, nI_mul, nI_subI, takeL, setL, Int32.toInt_zero, Nat.add_zero, Nat.zero_mul, Nat.zero_add, alen11, alen12, alen13, alen14, alen15, alen16, alen17, alen18, alen19] at *); first | exact ih | omega)
        | (simp (disch := omega) only [takeL, setL, nI_mul, nI_add, nI_cl]; exact ih)
  exact loop 3 0 _ rfl (by rw [if_pos rfl])
end CLS1
