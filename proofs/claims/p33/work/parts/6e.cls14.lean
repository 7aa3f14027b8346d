/-! THE CLASS: the rows of maps -/
def setP (s : St) (i : Nat) (P : Nat → Nat) : St := (s.1, fun a b => if a = i then P b else s.2 a b)
def dropP (P : Nat → Nat) (p n : Nat) : Nat → Nat := fun b => if b = n - 1 then P p else if p ≤ b ∧ b < n - 1 then P (b + 1) else P b
def drK2 (P : Nat → Nat) (p m : Nat) : Nat → Nat := fun b => if p ≤ b ∧ b < m then P (b + 1) else P b
def frontP (P : Nat → Nat) (p : Nat) : Nat → Nat := fun b => if b = 0 then P p else if 0 < b ∧ b ≤ p then P (b - 1) else P b
def frK2 (P : Nat → Nat) (p m : Nat) : Nat → Nat := fun b => if m < b ∧ b ≤ p then P (b - 1) else P b
section CLS14
variable {L : Nat} {xs : Nat → Int32} {f i k r p q c j n B b w w' m sd : Nat} {x y v a z l lo v0 v1 name flow place which : Int32} {s s' t : St} {F G F' u : Fm} {Q : Option MV → St → Prop} {P : Nat → Nat}
theorem setP_at : (setP s i P).2 i j = P j := if_pos rfl
theorem setP_o {i' : Nat} (h : i' ≠ i) : (setP s i P).2 i' j = s.2 i' j := if_neg h
theorem setP_1 {a b d : Nat} : (setP s i P).1 a b d = s.1 a b d := rfl
theorem setP_self : setP s i (s.2 i) = s := by
  unfold setP
  apply Prod.ext
  · rfl
  · funext a b
    show (if a = i then s.2 i b else s.2 a b) = s.2 a b
    split
    · rename_i h; rw [h]
    · rfl
theorem setP_put {y : Nat} : putP (setP s i P) i k y = setP s i (fun b => if b = k then y else P b) := by
  unfold setP putP
  apply Prod.ext
  · rfl
  · funext a b
    show (if a = i ∧ b = k then y else if a = i then P b else s.2 a b) = (if a = i then (if b = k then y else P b) else s.2 a b)
    by_cases h1 : a = i <;> by_cases h2 : b = k <;> simp [h1, h2]
theorem putP_putV {c j m y : Nat} : putP (putV s c j k x) i m y = putV (putP s i m y) c j k x := rfl
theorem drK2_0 : drK2 P p p = P := by
  funext b
  simp only [drK2]
  rw [if_neg (by omega)]
theorem drK2_s (h : p ≤ m) : (fun b => if b = m then drK2 P p m (m + 1) else drK2 P p m b) = drK2 P p (m + 1) := by
  funext b
  simp only [drK2]
  (repeat' split) <;> first | rfl | omega | (exfalso; omega) | (congr 1; omega)
theorem drK2_e : (fun b => if b = n - 1 then P p else drK2 P p (n - 1) b) = dropP P p n := rfl
theorem frK2_0 : frK2 P p p = P := by
  funext b
  simp only [frK2]
  rw [if_neg (by omega)]
theorem frK2_s (h : m + 1 ≤ p) : (fun b => if b = m + 1 then frK2 P p (m + 1) m else frK2 P p (m + 1) b) = frK2 P p m := by
  funext b
  simp only [frK2]
  (repeat' split) <;> first | rfl | omega | (exfalso; omega) | (congr 1; omega)
theorem frK2_e : (fun b => if b = 0 then P p else frK2 P p 0 b) = frontP P p := rfl
set_option maxHeartbeats 4000000 in
set_option maxRecDepth 100000 in
theorem c_drop (e : s.1 4 i 1 = nI n) (h5 : n ≤ 5) (hp : p < n) (h : Q none (putV (setP s i (dropP (s.2 i) p n)) 4 i 1 (nI (n - 1)))) : wpM L xs codT retT (f + 2) m_X4_drop [.inr (4, i), .inl (nI p)] s Q := by
  have hp2 := iN_k hp (by omega)
  have e' : ∀ P, (setP s i P).1 4 i 1 = nI n := fun _ => e
  intro call hcall X hX; refine hX 1000 0 _ _ _ ?_
  repeat' (first | (intro hc) | (refine And.intro ?_ ?_) | (exact absurd nI_0 ‹cmpF 0 (nI 0) 0›) | (exact absurd ‹cmpT 0 (nI 1) 0› nI1_ne) | (exact absurd nI_0 ‹cmpT 1 (nI 0) 0›) | (exact absurd ‹cmpF 1 (nI 1) 0› nI1_ne) | (show wp _ _ _ _ _ _ _ _ _ _ _ _; conv => whnf) | (simp (disch := omega) only [nI_add, nI_mul, setN_now, setN_put, nI_cl, Nat.add_zero]) | (refine hcall _ _ _ _ ?_; first | (refine c_isPlace e h5 ?_) | fail))
  all_goals (try (exfalso; exact bF hp2 (by assumption)))
  all_goals (try (simp (disch := omega) only [nI_toI, nI_cl, nI_add, nI_mul, alen11, alen12, alen13, alen14, alen15, alen16, alen17, alen18, alen19]; omega))
  simp (disch := omega) only [takeL, setL, nI_cl]
  have loop : ∀ P, P = s.2 i → X 18 [.inr (4, i), .inl (nI p), .inr (2, s.2 i p), .inl (nI p)] [] (setP s i P) := by
    intro P hP
    have h : Q none (putV (setP s i (dropP P p n)) 4 i 1 (nI (n - 1))) := by rw [hP]; exact h
    have eP : s.2 i p = P p := by rw [hP]
    rw [eP]
    clear eP hP
    rw [← drK2_0 (P := P) (p := p)]
    refine loopN (P := fun m => p ≤ m → X 18 [.inr (4, i), .inl (nI p), .inr (2, drK2 P p p p), .inl (nI m)] [] (setP s i (drK2 P p m))) (n - 1) (fun m hm ih hpm => ?_) (fun hpm => ?_) p (by omega) (Nat.le_refl _)
    · have ih := ih (by omega)
      rw [← drK2_s hpm] at ih
      clear h
      refine hX 1000 18 _ _ _ ?_
      repeat' (first | (intro hc) | (refine And.intro ?_ ?_) | (exact absurd nI_0 ‹cmpF 0 (nI 0) 0›) | (exact absurd ‹cmpT 0 (nI 1) 0› nI1_ne) | (exact absurd nI_0 ‹cmpT 1 (nI 0) 0›) | (exact absurd ‹cmpF 1 (nI 1) 0› nI1_ne) | (show wp _ _ _ _ _ _ _ _ _ _ _ _; conv => whnf) | (rw [e']) | (simp (disch := omega) only [nI_cl, nI_sub, setP_at, setP_put]))
      all_goals first
        | (simp (disch := omega) only [takeL, setL, nI_add, nI_cl, setP_at, setP_put]; exact ih)
        | (simp (disch := omega) only [nI_toI, nI_cl, nI_add, nI_mul, alen11, alen12, alen13, alen14, alen15, alen16, alen17, alen18, alen19]; omega)
        | (clear ih hp2; simp (disch := omega) only [cmpT, cmpF, e', nI_sub, nI_toI, nI_subI] at *; omega)
    · refine hX 1000 18 _ _ _ ?_
      repeat' (first | (intro hc) | (refine And.intro ?_ ?_) | (exact absurd nI_0 ‹cmpF 0 (nI 0) 0›) | (exact absurd ‹cmpT 0 (nI 1) 0› nI1_ne) | (exact absurd nI_0 ‹cmpT 1 (nI 0) 0›) | (exact absurd ‹cmpF 1 (nI 1) 0› nI1_ne) | (show wp _ _ _ _ _ _ _ _ _ _ _ _; conv => whnf) | (rw [e']) | (simp (disch := omega) only [nI_cl, nI_sub, setP_at, setP_put, putV_at, putP_putV]))
      all_goals first
        | (rw [drK2_0]; exact h)
        | (simp (disch := omega) only [nI_cl, nI_sub, setP_at, setP_put, putV_at, putP_putV, e', drK2_0]; exact h)
        | (simp (disch := omega) only [nI_toI, nI_cl, nI_add, nI_mul, alen11, alen12, alen13, alen14, alen15, alen16, alen17, alen18, alen19]; omega)
        | (clear h hp2; simp (disch := omega) only [cmpT, cmpF, e', nI_sub, nI_toI, nI_subI, putV_at, alen14] at *; omega)
  have hl := loop _ rfl
  rw [setP_self] at hl
  exact hl
set_option maxHeartbeats 4000000 in
set_option maxRecDepth 100000 in
theorem c_dropNo (e : s.1 4 i 1 = nI n) (h5 : n ≤ 5) (hp : ¬ iN v n) (h : Q none s) : wpM L xs codT retT (f + 2) m_X4_drop [.inr (4, i), .inl v] s Q := by
  intro call hcall X hX; refine hX 1000 0 _ _ _ ?_
  repeat' (first | (intro hc) | (refine And.intro ?_ ?_) | (exact absurd nI_0 ‹cmpF 0 (nI 0) 0›) | (exact absurd ‹cmpT 0 (nI 1) 0› nI1_ne) | (exact absurd nI_0 ‹cmpT 1 (nI 0) 0›) | (exact absurd ‹cmpF 1 (nI 1) 0› nI1_ne) | (show wp _ _ _ _ _ _ _ _ _ _ _ _; conv => whnf) | (simp (disch := omega) only [nI_add, nI_mul, setN_now, setN_put, nI_cl, Nat.add_zero]) | (refine hcall _ _ _ _ ?_; first | (refine c_isPlace e h5 ?_) | fail))
  all_goals first
    | exact h
    | (exfalso; exact bT hp (by assumption))
set_option maxHeartbeats 4000000 in
set_option maxRecDepth 100000 in
theorem c_front (e : s.1 4 i 1 = nI n) (h5 : n ≤ 5) (hp : p < n) (h : Q none (setP s i (frontP (s.2 i) p))) : wpM L xs codT retT (f + 2) m_X4_moveToFront [.inr (4, i), .inl (nI p)] s Q := by
  have hp2 := iN_k hp (by omega)
  intro call hcall X hX; refine hX 1000 0 _ _ _ ?_
  repeat' (first | (intro hc) | (refine And.intro ?_ ?_) | (exact absurd nI_0 ‹cmpF 0 (nI 0) 0›) | (exact absurd ‹cmpT 0 (nI 1) 0› nI1_ne) | (exact absurd nI_0 ‹cmpT 1 (nI 0) 0›) | (exact absurd ‹cmpF 1 (nI 1) 0› nI1_ne) | (show wp _ _ _ _ _ _ _ _ _ _ _ _; conv => whnf) | (simp (disch := omega) only [nI_add, nI_mul, setN_now, setN_put, nI_cl, Nat.add_zero]) | (refine hcall _ _ _ _ ?_; first | (refine c_isPlace e h5 ?_) | fail))
  all_goals (try (exfalso; exact bF hp2 (by assumption)))
  all_goals (try (simp (disch := omega) only [nI_toI, nI_cl, nI_add, nI_mul, alen11, alen12, alen13, alen14, alen15, alen16, alen17, alen18, alen19]; omega))
  simp (disch := omega) only [takeL, setL, nI_cl]
  have loop : ∀ P, P = s.2 i → X 18 [.inr (4, i), .inl (nI p), .inr (2, s.2 i p), .inl (nI p)] [] (setP s i P) := by
    intro P hP
    have h : Q none (setP s i (frontP P p)) := by rw [hP]; exact h
    have eP : s.2 i p = P p := by rw [hP]
    rw [eP]
    clear eP hP
    have lp : ∀ m, m ≤ p → X 18 [.inr (4, i), .inl (nI p), .inr (2, P p), .inl (nI m)] [] (setP s i (frK2 P p m)) := by
      intro m
      induction m with
      | zero =>
        intro _
        refine hX 1000 18 _ _ _ ?_
        repeat' (first | (intro hc) | (refine And.intro ?_ ?_) | (exact absurd nI_0 ‹cmpF 0 (nI 0) 0›) | (exact absurd ‹cmpT 0 (nI 1) 0› nI1_ne) | (exact absurd nI_0 ‹cmpT 1 (nI 0) 0›) | (exact absurd ‹cmpF 1 (nI 1) 0› nI1_ne) | (show wp _ _ _ _ _ _ _ _ _ _ _ _; conv => whnf) | (simp (disch := omega) only [nI_cl, nI_sub, setP_at, setP_put]))
        all_goals first
          | exact h
          | (simp (disch := omega) only [nI_cl, nI_sub, setP_at, setP_put]; exact h)
          | (simp (disch := omega) only [nI_toI, nI_cl, nI_add, nI_mul, alen11, alen12, alen13, alen14, alen15, alen16, alen17, alen18, alen19]; omega)
          | (clear h hp2; simp (disch := omega) only [cmpT, cmpF, nI_toI, Int32.toInt_zero] at *; omega)
      | succ m ih =>
        intro hm
        have ih := ih (by omega)
        rw [← frK2_s hm] at ih
        clear h
        refine hX 1000 18 _ _ _ ?_
        repeat' (first | (intro hc) | (refine And.intro ?_ ?_) | (exact absurd nI_0 ‹cmpF 0 (nI 0) 0›) | (exact absurd ‹cmpT 0 (nI 1) 0› nI1_ne) | (exact absurd nI_0 ‹cmpT 1 (nI 0) 0›) | (exact absurd ‹cmpF 1 (nI 1) 0› nI1_ne) | (show wp _ _ _ _ _ _ _ _ _ _ _ _; conv => whnf) | (simp (disch := omega) only [nI_cl, nI_sub, setP_at, setP_put, Nat.add_sub_cancel]))
        all_goals first
          | (simp (disch := omega) only [takeL, setL, nI_m1, nI_cl, setP_at, setP_put, Nat.add_sub_cancel]; exact ih)
          | (simp (disch := omega) only [nI_toI, nI_cl, nI_add, nI_mul, alen11, alen12, alen13, alen14, alen15, alen16, alen17, alen18, alen19]; omega)
          | (clear ih hp2; simp (disch := omega) only [cmpT, cmpF, nI_toI, Int32.toInt_zero, nI_sub] at *; omega)
    have g := lp p (Nat.le_refl _)
    rw [frK2_0] at g
    exact g
  have hl := loop _ rfl
  rw [setP_self] at hl
  exact hl
theorem permOk_set (hp : permOk s) (hi : i < 40) (g : Nat → Nat) (hg : ∀ j, j < 5 → g j < 5 ∧ P j = s.2 i (g j)) (hj : ∀ j j', j < 5 → j' < 5 → g j = g j' → j = j') : permOk (setP s i P) := by
  intro i' hi'
  by_cases e : i' = i
  · subst e
    refine ⟨fun j h => ?_, fun j j' h1 h2 h3 => ?_⟩
    · rw [setP_at, (hg j h).2]
      exact (hp i' hi).1 _ (hg j h).1
    · rw [setP_at, setP_at, (hg j h1).2, (hg j' h2).2] at h3
      exact hj j j' h1 h2 ((hp i' hi).2 _ _ (hg j h1).1 (hg j' h2).1 h3)
  · refine ⟨fun j h => ?_, fun j j' h1 h2 h3 => ?_⟩
    · rw [setP_o e]; exact (hp i' hi').1 j h
    · rw [setP_o e, setP_o e] at h3; exact (hp i' hi').2 j j' h1 h2 h3
theorem permOk_put (hp : permOk s) {c : Nat} : permOk (putV s c i k x) := permOk_of (fun _ _ => rfl) hp
theorem perm_drop (hp : permOk s) (hi : i < 40) (h5 : n ≤ 5) (hq : p < n) : permOk (setP s i (dropP (s.2 i) p n)) := permOk_set hp hi (fun b => if b = n - 1 then p else if p ≤ b ∧ b < n - 1 then b + 1 else b) (fun j hj => ⟨by (repeat' split) <;> omega, by
  show (if j = n - 1 then s.2 i p else if p ≤ j ∧ j < n - 1 then s.2 i (j + 1) else s.2 i j) = _
  (repeat' split) <;> rfl⟩) (fun j j' a b e => by
  (try dsimp only at e)
  (repeat' split at e) <;> omega)
theorem perm_front (hp : permOk s) (hi : i < 40) (hq : p < 5) : permOk (setP s i (frontP (s.2 i) p)) := permOk_set hp hi (fun b => if b = 0 then p else if 0 < b ∧ b ≤ p then b - 1 else b) (fun j hj => ⟨by (repeat' split) <;> omega, by
  show (if j = 0 then s.2 i p else if 0 < j ∧ j ≤ p then s.2 i (j - 1) else s.2 i j) = _
  (repeat' split) <;> rfl⟩) (fun j j' a b e => by
  (try dsimp only at e)
  (repeat' split at e) <;> omega)
theorem repMap_t {y : Nat} (h : ∀ c j k, c ≠ 4 → s'.1 c j k = s.1 c j k) (q : repMap s y F r p) : repMap s' y F r p := by
  unfold repMap at q ⊢
  rw [h 2 _ _ (by decide), h 2 _ _ (by decide), h 2 _ _ (by decide), h 2 _ _ (by decide), h 1 _ _ (by decide), h 1 _ _ (by decide)]
  exact ⟨q.1, q.2.1, q.2.2.1, q.2.2.2.1, q.2.2.2.2.1, q.2.2.2.2.2.1, cellsRep_cg (fun k => h 15 _ k (by decide)) q.2.2.2.2.2.2⟩
set_option maxHeartbeats 4000000 in
set_option maxRecDepth 100000 in
theorem rep_drop (hw : WFrouter F r) (hr : r < 4) (ht : cT F ≤ 8) (q : repRouter s i F r) (hp : p < cM F r) : repRouter (putV (setP s i (dropP (s.2 i) p (cM F r))) 4 i 1 (nI (cM F r - 1))) i (dropsF F r p) r := by
  have w5 := hw.2.1
  obtain ⟨d1, d2⟩ := drops_c (p := p) hw (by omega)
  have m0 := mA_eq r 0
  have m5 := mA_eq r 5
  have dc : ∀ k, 0 < k → k < 6 → dropsF F r p (165 + 6 * r + k) = F (165 + 6 * r + k) := fun k h1 h2 => drops_o hr (by omega) w5 (by omega)
  refine ⟨by rw [putV_at, d1], ?_, ?_, ?_, ?_, ?_, fun b hb => ?_⟩
  · rw [putV_ne (by omega), dc 1 (by omega) (by omega)]; exact q.2.1
  · rw [putV_ne (by omega), dc 2 (by omega) (by omega)]; exact q.2.2.1
  · rw [putV_ne (by omega), dc 3 (by omega) (by omega)]; exact q.2.2.2.1
  · rw [putV_ne (by omega), dc 4 (by omega) (by omega)]; exact q.2.2.2.2.1
  · rw [putV_ne (by omega), dc 5 (by omega) (by omega)]; exact q.2.2.2.2.2.1
  · rw [d2] at hb
    have eb : (putV (setP s i (dropP (s.2 i) p (cM F r))) 4 i 1 (nI (cM F r - 1))).2 i b = s.2 i (if p ≤ b then b + 1 else b) := by
      show (setP s i (dropP (s.2 i) p (cM F r))).2 i b = _
      rw [setP_at]
      unfold dropP
      rw [if_neg (by omega)]
      by_cases h : p ≤ b
      · rw [if_pos ⟨h, hb⟩, if_pos h]
      · rw [if_neg (fun q => h q.1), if_neg h]
    rw [eb]
    have hb2 : (if p ≤ b then b + 1 else b) < cM F r := by split <;> omega
    refine repMap_t (s := s) (fun c j k hc => (putV_ne (Or.inl hc)).trans rfl) (repMap_F (hw.2.2.1 _ hb2).2.1 (fun j hj => drops_map hr hb hj) (fun t ht' => ⟨drops_lo (by omega), drops_lo (by omega)⟩) (q.2.2.2.2.2.2 _ hb2))
set_option maxHeartbeats 4000000 in
set_option maxRecDepth 100000 in
theorem rep_front (hw : WFrouter F r) (hr : r < 4) (ht : cT F ≤ 8) (q : repRouter s i F r) (hp : p < cM F r) : repRouter (setP s i (frontP (s.2 i) p)) i (usesF F r p) r := by
  have w5 := hw.2.1
  have m0 := mA_eq r 0
  refine ⟨?_, ?_, ?_, ?_, ?_, ?_, fun b hb => ?_⟩
  · rw [uses_lo (by omega)]; exact q.1
  · rw [uses_lo (by omega)]; exact q.2.1
  · rw [uses_lo (by omega)]; exact q.2.2.1
  · rw [uses_lo (by omega)]; exact q.2.2.2.1
  · rw [uses_lo (by omega)]; exact q.2.2.2.2.1
  · rw [uses_lo (by omega)]; exact q.2.2.2.2.2.1
  · rw [uses_c] at hb
    have eb : (setP s i (frontP (s.2 i) p)).2 i b = s.2 i (if b = 0 then p else if b ≤ p then b - 1 else b) := by
      rw [setP_at]
      unfold frontP
      (repeat' split) <;> first | rfl | omega
    rw [eb]
    have hb2 : (if b = 0 then p else if b ≤ p then b - 1 else b) < cM F r := by (repeat' split) <;> omega
    exact repMap_t (s := s) (fun c j k hc => rfl) (repMap_F (hw.2.2.1 _ hb2).2.1 (fun j hj => uses_map hj) (fun t ht' => ⟨uses_lo (by omega), uses_lo (by omega)⟩) (q.2.2.2.2.2.2 _ hb2))
end CLS14
