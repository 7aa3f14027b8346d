/-! THE CLASS: maps that end, the map that is taken, new maps -/
/-- only the counts and the order of router i's maps change -/
def Rupd (s s' : St) (i : Nat) : Prop := (∀ c j k, ¬ (c = 4 ∧ j = i) → s'.1 c j k = s.1 c j k) ∧ ∀ i' j, i' ≠ i → s'.2 i' j = s.2 i' j
def cpC (s : St) (a b m : Nat) : St := (fun c i k => if c = 15 ∧ i = a ∧ k < m then s.1 15 b k else s.1 c i k, s.2)
section CLS15
variable {L : Nat} {xs : Nat → Int32} {f i k r p q c j n B b w w' m sd : Nat} {x y v a z l lo v0 v1 name flow place which : Int32} {s s' t : St} {F G F' u : Fm} {Q : Option MV → St → Prop} {P : Nat → Nat}
theorem Rupd.refl : Rupd s s i := ⟨fun _ _ _ _ => rfl, fun _ _ _ => rfl⟩
theorem Rupd.trans (h1 : Rupd s s' i) (h2 : Rupd s' t i) : Rupd s t i := ⟨fun c j k e => (h2.1 c j k e).trans (h1.1 c j k e), fun i' j e => (h2.2 i' j e).trans (h1.2 i' j e)⟩
theorem Rupd_drop : Rupd s (putV (setP s i P) 4 i k x) i := ⟨fun c j m e => (putV_ne (by
  by_cases h1 : c = 4
  · by_cases h2 : j = i
    · exact absurd ⟨h1, h2⟩ e
    · exact Or.inr (Or.inl h2)
  · exact Or.inl h1)).trans rfl, fun i' j e => setP_o e⟩
theorem Rupd_front : Rupd s (setP s i P) i := ⟨fun c j m e => rfl, fun i' j e => setP_o e⟩
set_option maxHeartbeats 4000000 in
set_option maxRecDepth 100000 in
theorem c_isHolding (e : s.1 2 k 4 = v) (h : Q (some (.inl (bI (x.toInt < v.toInt)))) s) : wpM L xs codT retT (f + 1) m_X2_isHolding [.inr (2, k), .inl x] s Q := by
  subst e
  intro call hcall X hX; refine hX 1000 0 _ _ _ ?_
  repeat' (first | (intro hc) | (refine And.intro ?_ ?_) | (exact absurd nI_0 ‹cmpF 0 (nI 0) 0›) | (exact absurd ‹cmpT 0 (nI 1) 0› nI1_ne) | (exact absurd nI_0 ‹cmpT 1 (nI 0) 0›) | (exact absurd ‹cmpF 1 (nI 1) 0› nI1_ne) | (show wp _ _ _ _ _ _ _ _ _ _ _ _; conv => whnf))
  all_goals first
    | exact Or.inl rfl
    | exact Or.inr rfl
    | (refine bI_1 h ?_; clear h; (try clear hX hcall); (try clear h); (try simp (disch := omega) only [cmpT, cmpF, bI_eq0, bI_ne0, Classical.not_not, nI_toI, nI_cl, nI_inj, nI_add, nI_mul, nI_subI, takeL, setL, Int32.toInt_zero, Nat.add_zero, Nat.zero_mul, Nat.zero_add, alen11, alen12, alen13, alen14, alen15, alen16, alen17, alen18, alen19] at *); omega)
    | (refine bI_0 h ?_; clear h; (try clear hX hcall); (try clear h); (try simp (disch := omega) only [cmpT, cmpF, bI_eq0, bI_ne0, Classical.not_not, nI_toI, nI_cl, nI_inj, nI_add, nI_mul, nI_subI, takeL, setL, Int32.toInt_zero, Nat.add_zero, Nat.zero_mul, Nat.zero_add, alen11, alen12, alen13, alen14, alen15, alen16, alen17, alen18, alen19] at *); omega)
theorem m1_no {n : Nat} : ¬ iN (-1) n := fun q => absurd q.1 (by decide)
set_option maxHeartbeats 4000000 in
set_option maxRecDepth 100000 in
theorem c_dropEnded (hw : WF F B) (hi : i < 40) (hp : permOk s) (hr : r < cR F) (hR : repRouter s i F r) (h : ∀ s', Rupd s s' i → permOk s' → repRouter s' i (endF r (cM F r) F) r → Q none s') : wpM L xs codT retT (f + 3) m_X4_dropEnded [.inr (4, i), .inl (F 0)] s Q := by
  have r2 := hw.r2
  have t2 := hw.t2
  generalize hG : endF r (cM F r) F = G at *
  intro call hcall X hX; refine hX 1000 0 _ _ _ ?_
  repeat' (first | (intro hc) | (refine And.intro ?_ ?_) | (exact absurd nI_0 ‹cmpF 0 (nI 0) 0›) | (exact absurd ‹cmpT 0 (nI 1) 0› nI1_ne) | (exact absurd nI_0 ‹cmpT 1 (nI 0) 0›) | (exact absurd ‹cmpF 1 (nI 1) 0› nI1_ne) | (show wp _ _ _ _ _ _ _ _ _ _ _ _; conv => whnf))
  simp only [takeL, setL]
  have loop : ∀ m s' F', m ≤ 5 → WF F' B → r < cR F' → repRouter s' i F' r → permOk s' → Rupd s s' i → F' 0 = F 0 → cT F' ≤ 8 → endF r (Nat.min m (cM F' r)) F' = G → X 2 [.inr (4, i), .inl (F 0), .inl (nI m - nI 1)] [] s' := by
    intro m
    induction m with
    | zero =>
      intro s' F' hm w1 w2 w3 w4 w5 w6 w7 hE
      have hE : F' = G := by rw [← hE, show Nat.min 0 (cM F' r) = 0 from Nat.zero_min _]; rfl
      subst hE
      have h := h s' w5 w4 w3
      refine hX 1000 2 _ _ _ ?_
      repeat' (first | (intro hc) | (refine And.intro ?_ ?_) | (exact absurd nI_0 ‹cmpF 0 (nI 0) 0›) | (exact absurd ‹cmpT 0 (nI 1) 0› nI1_ne) | (exact absurd nI_0 ‹cmpT 1 (nI 0) 0›) | (exact absurd ‹cmpF 1 (nI 1) 0› nI1_ne) | (show wp _ _ _ _ _ _ _ _ _ _ _ _; conv => whnf))
      all_goals first
        | exact h
        | (clear h hX hcall; simp (disch := omega) only [cmpT, cmpF, nI_subI, Int32.toInt_zero] at *; omega)
    | succ m ih =>
      intro s' F' hm w1 w2 w3 w4 w5 w6 w7 hE
      have wr := w1.router w2
      have w55 := wr.2.1
      have e1 : s'.1 4 i 1 = nI (cM F' r) := w3.1.trans wr.1
      have em : nI (m + 1) - nI 1 = nI m := by rw [nI_sub (by omega) (by omega), Nat.add_sub_cancel]
      rw [em]
      by_cases hpl : m < cM F' r
      · have hpl2 := iN_k hpl (by omega)
        have emin : Nat.min (m + 1) (cM F' r) = m + 1 := Nat.min_eq_left (by omega)
        rw [emin] at hE
        have hE : endF r m (if (F' (mA r m + 2)).toInt ≤ (F' 0).toInt then dropsF F' r m else F') = G := hE
        have e4 := (w3.2.2.2.2.2.2 m hpl).2.2.1
        by_cases hd : (F' (mA r m + 2)).toInt ≤ (F' 0).toInt
        · rw [if_pos hd] at hE
          have d := drops_c (p := m) wr (by omega)
          have ih := ih _ (dropsF F' r m) (by omega) (WF_drop w1 w2 hpl) (by unfold cR; rw [drops_lo (by omega)]; exact w2) (rep_drop wr (by omega) w7 w3 hpl) (permOk_put (perm_drop w4 hi w55 hpl)) (w5.trans Rupd_drop) (by rw [drops_lo (by omega)]; exact w6) (by unfold cT; rw [drops_lo (by omega)]; exact w7) (by rw [show Nat.min m (cM (dropsF F' r m) r) = m from Nat.min_eq_left (by omega)]; exact hE)
          have hh : ¬ (F 0).toInt < (F' (mA r m + 2)).toInt := by rw [← w6]; omega
          refine hX 1000 2 _ _ _ ?_
          repeat' (first | (intro hc) | (refine And.intro ?_ ?_) | (exact absurd nI_0 ‹cmpF 0 (nI 0) 0›) | (exact absurd ‹cmpT 0 (nI 1) 0› nI1_ne) | (exact absurd nI_0 ‹cmpT 1 (nI 0) 0›) | (exact absurd ‹cmpF 1 (nI 1) 0› nI1_ne) | (show wp _ _ _ _ _ _ _ _ _ _ _ _; conv => whnf) | (simp (disch := omega) only [nI_cl]) | (simp (disch := omega) only [nI_add, nI_mul, setN_now, setN_put, nI_cl, Nat.add_zero]) | (refine hcall _ _ _ _ ?_; first | (refine c_isPlace e1 w55 ?_) | (refine c_isHolding e4 ?_) | (refine c_drop e1 w55 hpl ?_) | fail))
          all_goals first
            | (simp only [takeL, setL, pushW, nI_dec]; exact ih)
            | (exfalso; exact bF hpl2 (by assumption))
            | (exfalso; exact bT hh (by assumption))
            | (simp (disch := omega) only [nI_toI, nI_cl, nI_add, nI_mul, alen11, alen12, alen13, alen14, alen15, alen16, alen17, alen18, alen19]; omega)
            | (clear ih hpl2 hh hX hcall; simp (disch := omega) only [cmpT, cmpF, nI_toI, Int32.toInt_zero] at *; omega)
        · rw [if_neg hd] at hE
          have ih := ih s' F' (by omega) w1 w2 w3 w4 w5 w6 w7 (by rw [show Nat.min m (cM F' r) = m from Nat.min_eq_left (by omega)]; exact hE)
          have hh : (F 0).toInt < (F' (mA r m + 2)).toInt := by rw [← w6]; omega
          refine hX 1000 2 _ _ _ ?_
          repeat' (first | (intro hc) | (refine And.intro ?_ ?_) | (exact absurd nI_0 ‹cmpF 0 (nI 0) 0›) | (exact absurd ‹cmpT 0 (nI 1) 0› nI1_ne) | (exact absurd nI_0 ‹cmpT 1 (nI 0) 0›) | (exact absurd ‹cmpF 1 (nI 1) 0› nI1_ne) | (show wp _ _ _ _ _ _ _ _ _ _ _ _; conv => whnf) | (simp (disch := omega) only [nI_cl]) | (simp (disch := omega) only [nI_add, nI_mul, setN_now, setN_put, nI_cl, Nat.add_zero]) | (refine hcall _ _ _ _ ?_; first | (refine c_isPlace e1 w55 ?_) | (refine c_isHolding e4 ?_) | fail))
          all_goals first
            | (simp only [takeL, setL, pushW, nI_dec]; exact ih)
            | (exfalso; exact bF hpl2 (by assumption))
            | (exfalso; exact bF hh (by assumption))
            | (simp (disch := omega) only [nI_toI, nI_cl, nI_add, nI_mul, alen11, alen12, alen13, alen14, alen15, alen16, alen17, alen18, alen19]; omega)
            | (clear ih hpl2 hh hX hcall; simp (disch := omega) only [cmpT, cmpF, nI_toI, Int32.toInt_zero] at *; omega)
      · have hpl2 : ¬ iN (nI m) (cM F' r) := fun q => by have := q.2; rw [nI_toI (by omega)] at this; omega
        have ih := ih s' F' (by omega) w1 w2 w3 w4 w5 w6 w7 (by
          rw [← hE]
          congr 1
          show min m (cM F' r) = min (m + 1) (cM F' r)
          omega)
        refine hX 1000 2 _ _ _ ?_
        repeat' (first | (intro hc) | (refine And.intro ?_ ?_) | (exact absurd nI_0 ‹cmpF 0 (nI 0) 0›) | (exact absurd ‹cmpT 0 (nI 1) 0› nI1_ne) | (exact absurd nI_0 ‹cmpT 1 (nI 0) 0›) | (exact absurd ‹cmpF 1 (nI 1) 0› nI1_ne) | (show wp _ _ _ _ _ _ _ _ _ _ _ _; conv => whnf) | (simp (disch := omega) only [nI_cl]) | (simp (disch := omega) only [nI_add, nI_mul, setN_now, setN_put, nI_cl, Nat.add_zero]) | (refine hcall _ _ _ _ ?_; first | (refine c_isPlace e1 w55 ?_) | fail))
        all_goals first
          | (simp only [takeL, setL, pushW, nI_dec]; exact ih)
          | (exfalso; exact bT hpl2 (by assumption))
          | (simp (disch := omega) only [nI_toI, nI_cl, nI_add, nI_mul, alen11, alen12, alen13, alen14, alen15, alen16, alen17, alen18, alen19]; omega)
          | (clear ih hpl2 hX hcall; simp (disch := omega) only [cmpT, cmpF, nI_toI, Int32.toInt_zero] at *; omega)
  have e54 : nI 4 = nI 5 - nI 1 := by rw [nI_sub (by omega) (by omega)]
  have hc5 := (hw.router hr).2.1
  rw [e54]
  exact loop 5 s F (by omega) hw hr hR hp Rupd.refl rfl t2 (by rw [show Nat.min 5 (cM F r) = cM F r from Nat.min_eq_right hc5]; exact hG)
set_option maxHeartbeats 4000000 in
set_option maxRecDepth 100000 in
theorem c_placeOfSmallest (hw : WF F B) (hr : r < cR F) (hR : repRouter s i F r) (hn : iN name 256) (h : Q (some (.inl (optI (takeN F r name (cM F r)) (-1)))) s) : wpM L xs codT retT (f + 3) m_X4_placeOfSmallest [.inr (4, i), .inl name] s Q := by
  have wr := hw.router hr
  have w5 := wr.2.1
  have t2 := hw.t2
  have e1 : s.1 4 i 1 = nI (cM F r) := hR.1.trans wr.1
  intro call hcall X hX; refine hX 1000 0 _ _ _ ?_
  repeat' (first | (intro hc) | (refine And.intro ?_ ?_) | (exact absurd nI_0 ‹cmpF 0 (nI 0) 0›) | (exact absurd ‹cmpT 0 (nI 1) 0› nI1_ne) | (exact absurd nI_0 ‹cmpT 1 (nI 0) 0›) | (exact absurd ‹cmpF 1 (nI 1) 0› nI1_ne) | (show wp _ _ _ _ _ _ _ _ _ _ _ _; conv => whnf))
  simp only [takeL, setL]
  have loop : ∀ j, j ≤ cM F r → X 9 [.inr (4, i), .inl name, .inl (optI (takeN F r name j) (-1)), .inl (tkS F r (takeN F r name j)), .inl (nI j)] [] s := by
    refine loopD (cM F r) (fun j hj ih => ?_) ?_
    · clear h
      obtain ⟨w1, w2, -, -⟩ := wr.2.2.1 j hj
      obtain ⟨-, -, -, -, b0, b1, -⟩ := hR.2.2.2.2.2.2 j hj
      generalize ht : nn (F (mA r j)) = d at *
      rw [takeN_s, ht] at ih
      by_cases hc : hasF F d name ∧ (F (29 + 17 * d + 1)).toInt < (tkS F r (takeN F r name j)).toInt
      · rw [if_pos hc] at ih
        have ih : X 9 [.inr (4, i), .inl name, .inl (nI j), .inl (s.1 1 (160 + s.2 i j) 1), .inl (nI (j + 1))] [] s := by
          rw [b1]
          simp only [optI, tkS, ht] at ih
          exact ih
        obtain ⟨c1, c2⟩ := hc
        rw [← b1] at c2
        generalize takeN F r name j = o at *
        refine hX 1000 9 _ _ _ ?_
        repeat' (first | (intro hc) | (refine And.intro ?_ ?_) | (exact absurd nI_0 ‹cmpF 0 (nI 0) 0›) | (exact absurd ‹cmpT 0 (nI 1) 0› nI1_ne) | (exact absurd nI_0 ‹cmpT 1 (nI 0) 0›) | (exact absurd ‹cmpF 1 (nI 1) 0› nI1_ne) | (show wp _ _ _ _ _ _ _ _ _ _ _ _; conv => whnf) | (simp (disch := omega) only [nI_cl]) | (simp (disch := omega) only [nI_add, nI_mul, setN_now, setN_put, nI_cl, Nat.add_zero]) | (refine hcall _ _ _ _ ?_; first | (refine c_has hn b0 b1 ?_) | fail))
        all_goals first
          | (simp only [takeL, setL, nI_add]; exact ih)
          | (exfalso; exact bF c1 (by assumption))
          | (simp (disch := omega) only [nI_toI, nI_cl, nI_add, nI_mul, alen11, alen12, alen13, alen14, alen15, alen16, alen17, alen18, alen19]; omega)
          | (clear ih c1; (try clear hX hcall); (try clear h); (try simp (disch := omega) only [cmpT, cmpF, bI_eq0, bI_ne0, Classical.not_not, nI_toI, nI_cl, nI_inj, nI_add, nI_mul, nI_subI, takeL, setL, Int32.toInt_zero, Nat.add_zero, setN_now, alen20, alen11, alen12, alen13, alen14, alen15, alen16, alen17, alen18, alen19, (id e1)] at *); omega)
      · rw [if_neg hc] at ih
        have hc2 : hasF F d name → ¬ (s.1 1 (160 + s.2 i j) 1).toInt < (tkS F r (takeN F r name j)).toInt := fun g1 g2 => hc ⟨g1, by rw [← b1]; exact g2⟩
        clear hc
        generalize takeN F r name j = o at *
        refine hX 1000 9 _ _ _ ?_
        repeat' (first | (intro hc) | (refine And.intro ?_ ?_) | (exact absurd nI_0 ‹cmpF 0 (nI 0) 0›) | (exact absurd ‹cmpT 0 (nI 1) 0› nI1_ne) | (exact absurd nI_0 ‹cmpT 1 (nI 0) 0›) | (exact absurd ‹cmpF 1 (nI 1) 0› nI1_ne) | (show wp _ _ _ _ _ _ _ _ _ _ _ _; conv => whnf) | (simp (disch := omega) only [nI_cl]) | (simp (disch := omega) only [nI_add, nI_mul, setN_now, setN_put, nI_cl, Nat.add_zero]) | (refine hcall _ _ _ _ ?_; first | (refine c_has hn b0 b1 ?_) | fail))
        all_goals first
          | (simp only [takeL, setL, nI_add]; exact ih)
          | (exfalso; exact hc2 (bI_ne0.mp (by assumption)) (by assumption))
          | (simp (disch := omega) only [nI_toI, nI_cl, nI_add, nI_mul, alen11, alen12, alen13, alen14, alen15, alen16, alen17, alen18, alen19]; omega)
          | (clear ih hc2; (try clear hX hcall); (try clear h); (try simp (disch := omega) only [cmpT, cmpF, bI_eq0, bI_ne0, Classical.not_not, nI_toI, nI_cl, nI_inj, nI_add, nI_mul, nI_subI, takeL, setL, Int32.toInt_zero, Nat.add_zero, setN_now, alen20, alen11, alen12, alen13, alen14, alen15, alen16, alen17, alen18, alen19, (id e1)] at *); omega)
    · refine hX 1000 9 _ _ _ ?_
      repeat' (first | (intro hc) | (refine And.intro ?_ ?_) | (exact absurd nI_0 ‹cmpF 0 (nI 0) 0›) | (exact absurd ‹cmpT 0 (nI 1) 0› nI1_ne) | (exact absurd nI_0 ‹cmpT 1 (nI 0) 0›) | (exact absurd ‹cmpF 1 (nI 1) 0› nI1_ne) | (show wp _ _ _ _ _ _ _ _ _ _ _ _; conv => whnf))
      all_goals first
        | exact h
        | ((try clear hX hcall); (try clear h); (try simp (disch := omega) only [cmpT, cmpF, bI_eq0, bI_ne0, Classical.not_not, nI_toI, nI_cl, nI_inj, nI_add, nI_mul, nI_subI, takeL, setL, Int32.toInt_zero, Nat.add_zero, setN_now, alen20, alen11, alen12, alen13, alen14, alen15, alen16, alen17, alen18, alen19, (id e1)] at *); omega)
  exact loop 0 (by omega)
theorem cpC_0 {a b : Nat} : cpC s a b 0 = s := by
  unfold cpC
  apply Prod.ext
  · funext c i k
    show (if c = 15 ∧ i = a ∧ k < 0 then _ else _) = _
    rw [if_neg (by omega)]
  · rfl
theorem cpC_at {a b : Nat} : (cpC s a b m).1 15 b m = s.1 15 b m := by
  show (if 15 = 15 ∧ b = a ∧ m < m then _ else _) = _
  rw [if_neg (by omega)]
theorem cpC_s {a b : Nat} : putV (cpC s a b m) 15 a m (s.1 15 b m) = cpC s a b (m + 1) := by
  unfold putV cpC
  apply Prod.ext
  · funext c i k
    show (if c = 15 ∧ i = a ∧ k = m then s.1 15 b m else if c = 15 ∧ i = a ∧ k < m then s.1 15 b k else s.1 c i k) = (if c = 15 ∧ i = a ∧ k < m + 1 then s.1 15 b k else s.1 c i k)
    by_cases h1 : c = 15 <;> by_cases h2 : i = a <;> simp [h1, h2]
    by_cases h3 : k = m
    · subst h3; simp
    · by_cases h4 : k < m
      · rw [if_neg h3, if_pos h4, if_pos (by omega)]
      · rw [if_neg h3, if_neg h4, if_neg (by omega)]
  · rfl
theorem cpC_o {a b c i k : Nat} (h : ¬ (c = 15 ∧ i = a)) : (cpC s a b m).1 c i k = s.1 c i k := by
  show (if c = 15 ∧ i = a ∧ k < m then _ else _) = _
  rw [if_neg (fun q => h ⟨q.1, q.2.1⟩)]
theorem cpC_in {a b k : Nat} (h : k < m) : (cpC s a b m).1 15 a k = s.1 15 b k := by
  show (if 15 = 15 ∧ a = a ∧ k < m then _ else _) = _
  rw [if_pos ⟨rfl, rfl, h⟩]
set_option maxHeartbeats 4000000 in
set_option maxRecDepth 100000 in
theorem c_slotsCopy {a b : Nat} (h : Q none (cpC s a b 9)) : wpM L xs codT retT (f + 1) m_X7_copyFrom [.inr (7, a), .inr (7, b)] s Q := by
  intro call hcall X hX; refine hX 1000 0 _ _ _ ?_
  repeat' (first | (intro hc) | (refine And.intro ?_ ?_) | (exact absurd nI_0 ‹cmpF 0 (nI 0) 0›) | (exact absurd ‹cmpT 0 (nI 1) 0› nI1_ne) | (exact absurd nI_0 ‹cmpT 1 (nI 0) 0›) | (exact absurd ‹cmpF 1 (nI 1) 0› nI1_ne) | (show wp _ _ _ _ _ _ _ _ _ _ _ _; conv => whnf))
  simp only [takeL, setL]
  have loop : ∀ j, j ≤ 9 → X 2 [.inr (7, a), .inr (7, b), .inl (nI j)] [] (cpC s a b j) := by
    refine loopD 9 (fun j hj ih => ?_) ?_
    · clear h
      rw [← cpC_s] at ih
      refine hX 1000 2 _ _ _ ?_
      repeat' (first | (intro hc) | (refine And.intro ?_ ?_) | (exact absurd nI_0 ‹cmpF 0 (nI 0) 0›) | (exact absurd ‹cmpT 0 (nI 1) 0› nI1_ne) | (exact absurd nI_0 ‹cmpT 1 (nI 0) 0›) | (exact absurd ‹cmpF 1 (nI 1) 0› nI1_ne) | (show wp _ _ _ _ _ _ _ _ _ _ _ _; conv => whnf))
      all_goals first
        | (simp (disch := omega) only [nI_toI, nI_cl, nI_add, nI_mul, alen11, alen12, alen13, alen14, alen15, alen16, alen17, alen18, alen19]; omega)
        | (simp (disch := omega) only [takeL, setL, nI_add, nI_cl, cpC_at]; exact ih)
        | (clear ih; (try clear hX hcall); (try clear h); (try simp (disch := omega) only [cmpT, cmpF, bI_eq0, bI_ne0, Classical.not_not, nI_toI, nI_cl, nI_inj, nI_add, nI_mul, nI_subI, takeL, setL, Int32.toInt_zero, Nat.add_zero, Nat.zero_mul, Nat.zero_add, alen11, alen12, alen13, alen14, alen15, alen16, alen17, alen18, alen19] at *); omega)
    · refine hX 1000 2 _ _ _ ?_
      repeat' (first | (intro hc) | (refine And.intro ?_ ?_) | (exact absurd nI_0 ‹cmpF 0 (nI 0) 0›) | (exact absurd ‹cmpT 0 (nI 1) 0› nI1_ne) | (exact absurd nI_0 ‹cmpT 1 (nI 0) 0›) | (exact absurd ‹cmpF 1 (nI 1) 0› nI1_ne) | (show wp _ _ _ _ _ _ _ _ _ _ _ _; conv => whnf))
      all_goals first
        | exact h
        | ((try clear hX hcall); (try clear h); (try simp (disch := omega) only [cmpT, cmpF, bI_eq0, bI_ne0, Classical.not_not, nI_toI, nI_cl, nI_inj, nI_add, nI_mul, nI_subI, takeL, setL, Int32.toInt_zero, Nat.add_zero, Nat.zero_mul, Nat.zero_add, alen11, alen12, alen13, alen14, alen15, alen16, alen17, alen18, alen19] at *); omega)
  have hl := loop 0 (by omega)
  rw [cpC_0] at hl
  exact hl
set_option maxHeartbeats 4000000 in
set_option maxRecDepth 100000 in
theorem c_blockCopy {a b : Nat} (h : Q none (putV (putV s 1 a 0 (s.1 1 b 0)) 1 a 1 (s.1 1 b 1))) : wpM L xs codT retT (f + 1) m_X1_copyFrom [.inr (1, a), .inr (1, b)] s Q := by
  have e : (putV s 1 a 0 (s.1 1 b 0)).1 1 b 1 = s.1 1 b 1 := putV_ne (by omega)
  intro call hcall X hX; refine hX 1000 0 _ _ _ ?_
  repeat' (first | (intro hc) | (refine And.intro ?_ ?_) | (exact absurd nI_0 ‹cmpF 0 (nI 0) 0›) | (exact absurd ‹cmpT 0 (nI 1) 0› nI1_ne) | (exact absurd nI_0 ‹cmpT 1 (nI 0) 0›) | (exact absurd ‹cmpF 1 (nI 1) 0› nI1_ne) | (show wp _ _ _ _ _ _ _ _ _ _ _ _; conv => whnf))
  rw [e]
  exact h
set_option maxHeartbeats 4000000 in
set_option maxRecDepth 100000 in
theorem c_mapBecome {y j : Nat} (hj : j < 80) (h : ∀ s', (∀ c j' m, ¬ (c = 1 ∧ j' = 160 + y) → ¬ (c = 15 ∧ j' = 80 + y) → ¬ (c = 2 ∧ j' = y) → s'.1 c j' m = s.1 c j' m) → s'.2 = s.2 → s'.1 1 (160 + y) 0 = s.1 1 (80 + j) 0 → s'.1 1 (160 + y) 1 = s.1 1 (80 + j) 1 → (∀ m, m < 9 → s'.1 15 (80 + y) m = s.1 15 j m) → s'.1 2 y 2 = v → s'.1 2 y 3 = s.1 6 j 3 → s'.1 2 y 4 = x → s'.1 2 y 5 = nI 0 → Q none s') : wpM L xs codT retT (f + 2) m_X2_become [.inr (2, y), .inl v, .inr (6, j), .inl x] s Q := by
  have e3 : (putV (cpC (putV (putV s 1 (160 + y) 0 (s.1 1 (80 + j) 0)) 1 (160 + y) 1 (s.1 1 (80 + j) 1)) (80 + y) j 9) 2 y 2 v).1 6 j 3 = s.1 6 j 3 := by
    rw [putV_ne (by omega), cpC_o (by omega)]
    simp (disch := omega) only [putV_ne]
  have h := h (putV (putV (putV (putV (cpC (putV (putV s 1 (160 + y) 0 (s.1 1 (80 + j) 0)) 1 (160 + y) 1 (s.1 1 (80 + j) 1)) (80 + y) j 9) 2 y 2 v) 2 y 3 (s.1 6 j 3)) 2 y 4 x) 2 y 5 (nI 0)) (fun c j' m h1 h2 h3 => by
      simp (disch := omega) only [putV_ne]
      rw [cpC_o h2]
      simp (disch := omega) only [putV_ne]) rfl (by
      simp (disch := omega) only [putV_ne]
      rw [cpC_o (by omega)]
      simp (disch := omega) only [putV_ne, putV_at]) (by
      simp (disch := omega) only [putV_ne]
      rw [cpC_o (by omega)]
      simp (disch := omega) only [putV_at]) (fun m hm => by
      simp (disch := omega) only [putV_ne]
      rw [cpC_in hm]
      simp (disch := omega) only [putV_ne]) (by simp (disch := omega) only [putV_ne, putV_at]) (by simp (disch := omega) only [putV_ne, putV_at]) (by simp (disch := omega) only [putV_ne, putV_at]) (by simp (disch := omega) only [putV_at])
  intro call hcall X hX; refine hX 1000 0 _ _ _ ?_
  repeat' (first | (intro hc) | (refine And.intro ?_ ?_) | (exact absurd nI_0 ‹cmpF 0 (nI 0) 0›) | (exact absurd ‹cmpT 0 (nI 1) 0› nI1_ne) | (exact absurd nI_0 ‹cmpT 1 (nI 0) 0›) | (exact absurd ‹cmpF 1 (nI 1) 0› nI1_ne) | (show wp _ _ _ _ _ _ _ _ _ _ _ _; conv => whnf) | (rw [e3]) | (simp (disch := omega) only [nI_add, nI_mul, setN_now, setN_put, nI_cl, Nat.add_zero]) | (refine hcall _ _ _ _ ?_; first | (refine c_blockCopy ?_) | (refine c_slotsCopy ?_) | fail))
  all_goals first
    | exact h
    | exact Or.inl nI_0
    | (rw [e3]; exact h)
    | exact Or.inl rfl
end CLS15
