/-! THE REFERENCE: room, use, choice -/
def rmK (F : Fm) (r c j : Nat) : Fm := fun i => if mA r c + 16 - j ≤ i ∧ i < mA r c + 16 then F (i - 16) else F i
section REF4
variable {L : Nat} {xs : Nat → Int32} {f k r p c j B b : Nat} {x y v a z name flow place : Int32} {s : St} {F : Fm} {Q : Option MV → St → Prop}
theorem rmK_0 : rmK F r c 0 = F := by
  funext i
  simp only [rmK]
  (repeat' split) <;> first | rfl | omega | (exfalso; omega) | (congr 1; omega)
theorem rmK_s (hj : j < 16 * c) : putF (rmK F r c j) (mA r c + 15 - j) (rmK F r c j (mA r c + 15 - j - 16)) = rmK F r c (j + 1) := by
  have hm : 189 + 16 * c ≤ mA r c := by unfold mA; omega
  funext i
  simp only [rmK, putF]
  (repeat' split) <;> first | rfl | omega | (exfalso; omega) | (congr 1; omega)
theorem rmK_e : rmK F r c (16 * c) = roomF F r c := by
  have hm : mA r c = mA r 1 + 16 * c - 16 := by unfold mA; omega
  have hm2 : 189 + 16 ≤ mA r 1 := by unfold mA; omega
  funext i
  simp only [rmK, roomF]
  (repeat' split) <;> first | rfl | omega | (exfalso; omega) | (congr 1; omega)
set_option maxHeartbeats 4000000 in
set_option maxRecDepth 100000 in
theorem r_makesRoom (hr : r < 4) (hc : c ≤ 4) (h : Q none (setN s (roomF F r c))) : wpM L xs codT retT (f + 2) m_X10_makesRoom [.inr (10, 0), .inl (nI r), .inl (nI c)] (setN s F) Q := by
  have hm : mA r c = mA r 1 + 16 * c - 16 := by unfold mA; omega
  have hm1 : mA r 1 = 205 + 80 * r := by unfold mA; omega
  intro call hcall X hX; refine hX 1000 0 _ _ _ ?_
  repeat' (first | (intro hc) | (refine And.intro ?_ ?_) | (exact absurd nI_0 ‹cmpF 0 (nI 0) 0›) | (exact absurd ‹cmpT 0 (nI 1) 0› nI1_ne) | (exact absurd nI_0 ‹cmpT 1 (nI 0) 0›) | (exact absurd ‹cmpF 1 (nI 1) 0› nI1_ne) | (show wp _ _ _ _ _ _ _ _ _ _ _ _; conv => whnf) | (simp (disch := omega) only [nI_add, nI_mul]) | (refine hcall _ _ _ _ ?_; first | (refine r_mapAt ?_) | fail))
  simp (disch := omega) only [takeL, setL]
  have e0 : setN s F = setN s (rmK F r c 0) := by rw [rmK_0]
  rw [e0]
  refine loopN (P := fun j => X 9 [.inr (10, 0), .inl (nI r), .inl (nI c), .inl (nI (mA r c + 15 - j))] [] (setN s (rmK F r c j))) (16 * c) (fun j hj ih => ?_) ?_ 0 (Nat.zero_le _)
  · refine hX 1000 9 _ _ _ ?_
    repeat' (first | (intro hc) | (refine And.intro ?_ ?_) | (exact absurd nI_0 ‹cmpF 0 (nI 0) 0›) | (exact absurd ‹cmpT 0 (nI 1) 0› nI1_ne) | (exact absurd nI_0 ‹cmpT 1 (nI 0) 0›) | (exact absurd ‹cmpF 1 (nI 1) 0› nI1_ne) | (show wp _ _ _ _ _ _ _ _ _ _ _ _; conv => whnf) | (simp (disch := omega) only [nI_add, nI_mul]) | (refine hcall _ _ _ _ ?_; first | (refine r_mapAt ?_) | fail))
    all_goals (clear hX hcall h)
    all_goals (simp (disch := omega) only [cmpT, cmpF, nI_toI, nI_sub, alen20, setN_now, setN_put, nI_cl, takeL, setL, nI_m1] at *)
    all_goals first
      | omega
      | (rw [rmK_s hj, show mA r c + 15 - j - 1 = mA r c + 15 - (j + 1) by omega]; exact ih)
  · refine hX 1000 9 _ _ _ ?_
    repeat' (first | (intro hc) | (refine And.intro ?_ ?_) | (exact absurd nI_0 ‹cmpF 0 (nI 0) 0›) | (exact absurd ‹cmpT 0 (nI 1) 0› nI1_ne) | (exact absurd nI_0 ‹cmpT 1 (nI 0) 0›) | (exact absurd ‹cmpF 1 (nI 1) 0› nI1_ne) | (show wp _ _ _ _ _ _ _ _ _ _ _ _; conv => whnf) | (simp (disch := omega) only [nI_add, nI_mul]) | (refine hcall _ _ _ _ ?_; first | (refine r_mapAt ?_) | fail))
    all_goals (clear hX hcall)
    all_goals first
      | (rw [rmK_e]; exact h)
      | (clear h; simp (disch := omega) only [cmpT, cmpF, nI_toI] at *; omega)
def usK (F : Fm) (r p m : Nat) : Fm := fun i => if mA r m ≤ i ∧ i < mA r (m + 1) then F (i + 16 * (p - m)) else if mA r (m + 1) ≤ i ∧ i < mA r (p + 1) then F (i - 16) else F i
def swK (G : Fm) (r m k : Nat) : Fm := fun i => if mA r m ≤ i ∧ i < mA r m + k then G (i + 16) else if mA r (m + 1) ≤ i ∧ i < mA r (m + 1) + k then G (i - 16) else G i
theorem usK_p : usK F r p p = F := by
  have hm : mA r (p + 1) = mA r p + 16 := by unfold mA; omega
  funext i
  simp only [usK]
  (repeat' split) <;> first | rfl | omega | (exfalso; omega) | (congr 1; omega)
theorem usK_0 : usK F r p 0 = usesF F r p := by
  funext i
  simp only [usK, usesF]
  (repeat' split) <;> first | rfl | omega | (exfalso; omega) | (congr 1; omega)
theorem swK_0 {G : Fm} : swK G r k 0 = G := by
  funext i
  simp only [swK]
  (repeat' split) <;> first | rfl | omega | (exfalso; omega) | (congr 1; omega)
theorem swK_s {G : Fm} {m : Nat} (hk : k < 16) : putF (putF (swK G r m k) (mA r (m + 1) + k) (swK G r m k (mA r m + k))) (mA r m + k) (swK G r m k (mA r (m + 1) + k)) = swK G r m (k + 1) := by
  have hm : mA r (m + 1) = mA r m + 16 := by unfold mA; omega
  have hm2 : 189 ≤ mA r m := by unfold mA; omega
  funext i
  simp only [swK, putF]
  (repeat' split) <;> first | rfl | omega | (exfalso; omega) | (congr 1; omega)
theorem swK_e {m : Nat} (hm : m < p) : swK (usK F r p (m + 1)) r m 16 = usK F r p m := by
  have hm1 : mA r (m + 1) = mA r m + 16 := by unfold mA; omega
  have hm2 : mA r (m + 1 + 1) = mA r m + 32 := by unfold mA; omega
  have hm3 : mA r (p + 1) = mA r m + 16 * (p - m) + 16 := by unfold mA; omega
  have hm4 : 189 ≤ mA r m := by unfold mA; omega
  funext i
  simp only [swK, usK]
  (repeat' split) <;> first | rfl | omega | (exfalso; omega) | (congr 1; omega)
set_option maxHeartbeats 4000000 in
set_option maxRecDepth 100000 in
theorem r_uses (hr : r < 4) (hp : p < 5) (h : Q none (setN s (usesF F r p))) : wpM L xs codT retT (f + 2) m_X10_uses [.inr (10, 0), .inl (nI r), .inl (nI p)] (setN s F) Q := by
  have hmr : ∀ m, mA r m = 189 + 80 * r + 16 * m := fun m => by unfold mA; omega
  intro call hcall X hX; refine hX 1000 0 _ _ _ ?_
  repeat' (first | (intro hc) | (refine And.intro ?_ ?_) | (exact absurd nI_0 ‹cmpF 0 (nI 0) 0›) | (exact absurd ‹cmpT 0 (nI 1) 0› nI1_ne) | (exact absurd nI_0 ‹cmpT 1 (nI 0) 0›) | (exact absurd ‹cmpF 1 (nI 1) 0› nI1_ne) | (show wp _ _ _ _ _ _ _ _ _ _ _ _; conv => whnf))
  simp (disch := omega) only [takeL, setL]
  have e0 : setN s F = setN s (usK F r p p) := by rw [usK_p]
  rw [e0]
  have loop : ∀ m, m ≤ p → X 2 [.inr (10, 0), .inl (nI r), .inl (nI p), .inl (nI m)] [] (setN s (usK F r p m)) := by
    intro m
    induction m with
    | zero =>
      intro _
      refine hX 1000 2 _ _ _ ?_
      repeat' (first | (intro hc) | (refine And.intro ?_ ?_) | (exact absurd nI_0 ‹cmpF 0 (nI 0) 0›) | (exact absurd ‹cmpT 0 (nI 1) 0› nI1_ne) | (exact absurd nI_0 ‹cmpT 1 (nI 0) 0›) | (exact absurd ‹cmpF 1 (nI 1) 0› nI1_ne) | (show wp _ _ _ _ _ _ _ _ _ _ _ _; conv => whnf))
      all_goals (clear hX hcall)
      all_goals first
        | (rw [usK_0]; exact h)
        | (clear h; simp (disch := omega) only [cmpT, cmpF, nI_toI, Int32.toInt_zero] at *; omega)
    | succ m ih =>
      intro hm
      have ih := ih (by omega)
      have h1 := hmr m
      have h2 := hmr (m + 1)
      refine hX 1000 2 _ _ _ ?_
      repeat' (first | (intro hc) | (refine And.intro ?_ ?_) | (exact absurd nI_0 ‹cmpF 0 (nI 0) 0›) | (exact absurd ‹cmpT 0 (nI 1) 0› nI1_ne) | (exact absurd nI_0 ‹cmpT 1 (nI 0) 0›) | (exact absurd ‹cmpF 1 (nI 1) 0› nI1_ne) | (show wp _ _ _ _ _ _ _ _ _ _ _ _; conv => whnf))
      · simp only [takeL, setL]
        have e1 : setN s (usK F r p (m + 1)) = setN s (swK (usK F r p (m + 1)) r m 0) := by rw [swK_0]
        rw [e1]
        refine loopN (P := fun k => X 9 [.inr (10, 0), .inl (nI r), .inl (nI p), .inl (nI (m + 1)), .inl (nI k)] [] (setN s (swK (usK F r p (m + 1)) r m k))) 16 (fun k hk ih2 => ?_) ?_ 0 (by omega)
        · clear e1 h
          refine hX 1000 9 _ _ _ ?_
          repeat' (first | (intro hc) | (refine And.intro ?_ ?_) | (exact absurd nI_0 ‹cmpF 0 (nI 0) 0›) | (exact absurd ‹cmpT 0 (nI 1) 0› nI1_ne) | (exact absurd nI_0 ‹cmpT 1 (nI 0) 0›) | (exact absurd ‹cmpF 1 (nI 1) 0› nI1_ne) | (show wp _ _ _ _ _ _ _ _ _ _ _ _; conv => whnf) | (simp (disch := omega) only [nI_sub, Nat.add_sub_cancel]) | (simp (disch := omega) only [nI_add, nI_mul]) | (refine hcall _ _ _ _ ?_; first | (refine r_mapAt ?_) | fail))
          all_goals (clear hX hcall)
          all_goals (simp (disch := omega) only [cmpT, cmpF, nI_toI, nI_sub, alen20, setN_now, setN_put, nI_cl, takeL, setL, nI_add] at *)
          all_goals first
            | omega
            | (rw [swK_s hk]; exact ih2)
        · clear e1 h
          refine hX 1000 9 _ _ _ ?_
          repeat' (first | (intro hc) | (refine And.intro ?_ ?_) | (exact absurd nI_0 ‹cmpF 0 (nI 0) 0›) | (exact absurd ‹cmpT 0 (nI 1) 0› nI1_ne) | (exact absurd nI_0 ‹cmpT 1 (nI 0) 0›) | (exact absurd ‹cmpF 1 (nI 1) 0› nI1_ne) | (show wp _ _ _ _ _ _ _ _ _ _ _ _; conv => whnf) | (simp (disch := omega) only [nI_add, nI_mul]) | (refine hcall _ _ _ _ ?_; first | (refine r_mapAt ?_) | fail))
          all_goals (clear hX hcall)
          all_goals (simp (disch := omega) only [cmpT, cmpF, nI_toI, takeL, setL, nI_m1, Nat.add_sub_cancel] at *)
          all_goals first
            | omega
            | (rw [swK_e (by omega)]; exact ih)
      · clear h; simp (disch := omega) only [cmpT, cmpF, nI_toI, Int32.toInt_zero] at *; omega
  exact loop p (Nat.le_refl _)
set_option maxHeartbeats 4000000 in
set_option maxRecDepth 100000 in
theorem r_isAt (hk : k < 8) (h : Q (some (.inl (bI (isAtF F k place)))) (setN s F)) : wpM L xs codT retT (f + 5) m_X10_isAt [.inr (10, 0), .inl (nI k), .inl place] (setN s F) Q := by
  intro call hcall X hX; refine hX 1000 0 _ _ _ ?_
  repeat' (first | (intro hc) | (refine And.intro ?_ ?_) | (exact absurd nI_0 ‹cmpF 0 (nI 0) 0›) | (exact absurd ‹cmpT 0 (nI 1) 0› nI1_ne) | (exact absurd nI_0 ‹cmpT 1 (nI 0) 0›) | (exact absurd ‹cmpF 1 (nI 1) 0› nI1_ne) | (show wp _ _ _ _ _ _ _ _ _ _ _ _; conv => whnf))
  refine loopN (P := fun j => X 5 [.inr (10, 0), .inl (nI k), .inl place, .inl (bI (atB F k place j = true)), .inl (nI j)] [] (setN s F)) 3 (fun j hj ih => ?_) ?_ 0 (by omega)
  · refine hX 1000 5 _ _ _ ?_
    repeat' (first | (intro hc) | (refine And.intro ?_ ?_) | (exact absurd nI_0 ‹cmpF 0 (nI 0) 0›) | (exact absurd ‹cmpT 0 (nI 1) 0› nI1_ne) | (exact absurd nI_0 ‹cmpT 1 (nI 0) 0›) | (exact absurd ‹cmpF 1 (nI 1) 0› nI1_ne) | (show wp _ _ _ _ _ _ _ _ _ _ _ _; conv => whnf) | (simp (disch := omega) only [nI_add, nI_mul]) | (refine hcall _ _ _ _ ?_; first | (refine r_siteAt ?_) | fail))
    all_goals (clear hX hcall h)
    all_goals (simp (disch := omega) only [cmpT, cmpF, nI_toI, alen20, bI_eq0, bI_ne0, Classical.not_not, takeL, setL, nI_add, nI_mul, setN_now, nI_cl] at *)
    all_goals first
      | omega
      | (rw [show bI (atB F k place (j + 1) = true) = nI 1 from if_pos (by rw [atB]; simp_all)] at ih; exact ih)
      | (rw [show bI (atB F k place (j + 1) = true) = nI 0 from if_neg (by rw [atB]; simp_all)] at ih; exact ih)
  · have e : atB F k place 3 = true ↔ ((F (29 + 17 * k + 5) = nI 1 ∧ F (29 + 17 * k + 6) = place) ∨ (F (29 + 17 * k + 9) = nI 1 ∧ F (29 + 17 * k + 10) = place) ∨ (F (29 + 17 * k + 13) = nI 1 ∧ F (29 + 17 * k + 14) = place)) := by
      simp only [atB, Bool.or_eq_true, Bool.and_eq_true, decide_eq_true_eq, Bool.false_eq_true, false_or, or_assoc, Nat.mul_zero, Nat.add_zero, Nat.mul_one]
    refine hX 1000 5 _ _ _ ?_
    repeat' (first | (intro hc) | (refine And.intro ?_ ?_) | (exact absurd nI_0 ‹cmpF 0 (nI 0) 0›) | (exact absurd ‹cmpT 0 (nI 1) 0› nI1_ne) | (exact absurd nI_0 ‹cmpT 1 (nI 0) 0›) | (exact absurd ‹cmpF 1 (nI 1) 0› nI1_ne) | (show wp _ _ _ _ _ _ _ _ _ _ _ _; conv => whnf) | (simp (disch := omega) only [nI_add, nI_mul]) | (refine hcall _ _ _ _ ?_; first | (refine r_isUp (by omega) ?_) | fail))
    all_goals (clear hX hcall)
    all_goals (simp (disch := omega) only [cmpT, cmpF, nI_toI, bI_eq0, bI_ne0, Classical.not_not, e] at *)
    all_goals first | omega | decide | (refine bI_1 h ?_; exact ⟨by assumption, by assumption⟩) | (refine bI_0 h ?_; rintro ⟨q1, q2⟩; contradiction)
set_option maxHeartbeats 4000000 in
set_option maxRecDepth 100000 in
theorem r_chosen (hb : b + 12 ≤ 509) (h : Q (some (.inl (choF F b flow))) (setN s F)) : wpM L xs codT retT (f + 1) m_X10_chosen [.inr (10, 0), .inl (nI b), .inl flow] (setN s F) Q := by
  intro call hcall X hX; refine hX 1000 0 _ _ _ ?_
  repeat' (first | (intro hc) | (refine And.intro ?_ ?_) | (exact absurd nI_0 ‹cmpF 0 (nI 0) 0›) | (exact absurd ‹cmpT 0 (nI 1) 0› nI1_ne) | (exact absurd nI_0 ‹cmpT 1 (nI 0) 0›) | (exact absurd ‹cmpF 1 (nI 1) 0› nI1_ne) | (show wp _ _ _ _ _ _ _ _ _ _ _ _; conv => whnf))
  refine loopN (P := fun k => X 9 [.inr (10, 0), .inl (nI b), .inl flow, .inl (lsN F b k).1, .inl (lsN F b k).2, .inl (nI k)] [] (setN s F)) 3 (fun k hk ih => ?_) ?_ 0 (by omega)
  · refine hX 1000 9 _ _ _ ?_
    repeat' (first | (intro hc) | (refine And.intro ?_ ?_) | (exact absurd nI_0 ‹cmpF 0 (nI 0) 0›) | (exact absurd ‹cmpT 0 (nI 1) 0› nI1_ne) | (exact absurd nI_0 ‹cmpT 1 (nI 0) 0›) | (exact absurd ‹cmpF 1 (nI 1) 0› nI1_ne) | (show wp _ _ _ _ _ _ _ _ _ _ _ _; conv => whnf))
    all_goals (clear hX hcall h)
    all_goals (simp (disch := omega) only [cmpT, cmpF, nI_toI, alen20, Classical.not_not, takeL, setL, nI_add, nI_mul, setN_now, nI_cl] at *)
    all_goals first
      | omega
      | (rw [lsN, if_pos ⟨by assumption, by omega⟩, if_pos (by omega)] at ih; exact ih)
      | (rw [lsN, if_pos ⟨by assumption, by omega⟩, if_neg (by omega)] at ih; exact ih)
      | (rw [lsN, if_neg (by rintro ⟨q1, q2⟩; first | contradiction | omega)] at ih; exact ih)
  · have l2 : ∀ n k left, n + k = 3 → Q (some (.inl (choN F b (lsN F b 3).1 n k left))) (setN s F) → X 120 [.inr (10, 0), .inl (nI b), .inl flow, .inl (lsN F b 3).1, .inl (lsN F b 3).2, .inl left, .inl (nI k)] [] (setN s F) := by
      clear h
      intro n
      induction n with
      | zero =>
        intro k left hk h
        refine hX 1000 120 _ _ _ ?_
        repeat' (first | (intro hc) | (refine And.intro ?_ ?_) | (exact absurd nI_0 ‹cmpF 0 (nI 0) 0›) | (exact absurd ‹cmpT 0 (nI 1) 0› nI1_ne) | (exact absurd nI_0 ‹cmpT 1 (nI 0) 0›) | (exact absurd ‹cmpF 1 (nI 1) 0› nI1_ne) | (show wp _ _ _ _ _ _ _ _ _ _ _ _; conv => whnf))
        all_goals (clear hX hcall)
        all_goals first | exact h | (clear h; simp (disch := omega) only [cmpT, cmpF, nI_toI] at *; omega)
      | succ n ih =>
        intro k left hk h
        have ih := ih (k + 1)
        refine hX 1000 120 _ _ _ ?_
        repeat' (first | (intro hc) | (refine And.intro ?_ ?_) | (exact absurd nI_0 ‹cmpF 0 (nI 0) 0›) | (exact absurd ‹cmpT 0 (nI 1) 0› nI1_ne) | (exact absurd nI_0 ‹cmpT 1 (nI 0) 0›) | (exact absurd ‹cmpF 1 (nI 1) 0› nI1_ne) | (show wp _ _ _ _ _ _ _ _ _ _ _ _; conv => whnf))
        all_goals (clear hX hcall)
        all_goals (simp (disch := omega) only [cmpT, cmpF, nI_toI, alen20, Classical.not_not, takeL, setL, nI_add, nI_mul, setN_now, nI_cl, Int32.toInt_zero] at *)
        all_goals first
          | omega
          | (rw [choN, if_pos ⟨by assumption, by assumption⟩, if_pos (by omega)] at h; exact h)
          | (rw [choN, if_pos ⟨by assumption, by assumption⟩, if_neg (by omega)] at h; exact ih _ (by omega) h)
          | (rw [choN, if_neg (by rintro ⟨q1, q2⟩; contradiction)] at h; exact ih _ (by omega) h)
    refine hX 1000 9 _ _ _ ?_
    repeat' (first | (intro hc) | (refine And.intro ?_ ?_) | (exact absurd nI_0 ‹cmpF 0 (nI 0) 0›) | (exact absurd ‹cmpT 0 (nI 1) 0› nI1_ne) | (exact absurd nI_0 ‹cmpT 1 (nI 0) 0›) | (exact absurd ‹cmpF 1 (nI 1) 0› nI1_ne) | (show wp _ _ _ _ _ _ _ _ _ _ _ _; conv => whnf))
    all_goals (simp (disch := omega) only [cmpT, cmpF, nI_toI, alen20, Classical.not_not, takeL, setL, nI_add, nI_mul, setN_now, nI_cl, Int32.toInt_zero] at *)
    all_goals first
      | omega
      | contradiction
      | assumption
      | (refine l2 3 0 _ rfl ?_; rw [choF, if_pos (by assumption)] at h; exact h)
      | (refine l2 3 0 _ rfl ?_; rw [choF, if_neg (by assumption)] at h; exact h)
end REF4
