/-! THE CLASS: acts of the text -/
section TXT4
variable {L : Nat} {xs : Nat → Int32} {f i k r p q j n B w m lo hi d t : Nat} {x y v z l name flow place : Int32} {s s' : St} {F G F' u : Fm} {T : Nat → Nat} {Q : Option MV → St → Prop}
set_option maxHeartbeats 4000000 in
set_option maxRecDepth 100000 in
theorem t_tail (ht : txtC s T n) {X : Nat → List MV → List MV → St → Prop} {call : Nat → List MV → St → (Option MV → St → Prop) → Prop} (hcall : ∀ (m : Nat) (as : List MV) (s : St) (Q : Option MV → St → Prop), wpM L xs codT retT (f + 2) m as s Q → call m as s Q) (hX : ∀ (n pc : Nat) (ls st : List MV) (s : St), wp call L xs (retT m_X0_readAct) Q X (codT m_X0_readAct) n (behind (fromPc (codT m_X0_readAct) pc)) ls st s → X pc ls st s) : ∀ u' p3, u' 2 = nI p3 → u' 3 = -1 → p3 ≤ 80 → (sgnB T n p3 59 = true → Q (some (.inl (nI 1))) (setB s (putF u' 2 (nI (p3 + 1))))) → (sgnB T n p3 59 = false → Q (some (.inl (nI 0))) (setB s (putF u' 3 (nI p3)))) → X 127 [.inr (0, 0)] [] (setB s u') := by
  intro u' p3 e2 e3 h8 k1 k0
  cases e : sgnB T n p3 59 with
  | true =>
    have h := k1 e
    have g3 : (setB s (putF u' 2 (nI (p3 + 1)))).1 0 0 3 = -1 := by rw [setB_x (by omega), putF_ne _ _ (by omega)]; exact e3
    clear k1 k0
    refine hX 1000 127 _ _ _ ?_
    repeat' (first | (intro hc) | (refine And.intro ?_ ?_) | (exact absurd nI_0 ‹cmpF 0 (nI 0) 0›) | (exact absurd ‹cmpT 0 (nI 1) 0› nI1_ne) | (exact absurd nI_0 ‹cmpT 1 (nI 0) 0›) | (exact absurd ‹cmpF 1 (nI 1) 0› nI1_ne) | (show wp _ _ _ _ _ _ _ _ _ _ _ _; conv => whnf) | (simp (disch := omega) only [nI_add, nI_mul, setN_now, setN_put, nI_cl, Nat.add_zero]) | (refine hcall _ _ _ _ ?_; first | (refine t_sign_1 ht e2 e3 h8 (by omega) e ?_) | fail))
    all_goals first
      | exact Or.inr rfl
      | exact Or.inl rfl
      | exact h
      | (exfalso; exact (by assumption : ¬ (setB s (putF u' 2 (nI (p3 + 1)))).1 0 0 3 = -1) g3)
  | false =>
    have h := k0 e
    have g3 : ¬ (setB s (putF u' 3 (nI p3))).1 0 0 3 = -1 := by rw [setB_x (by omega), putF_at]; exact nI_m1n (by omega)
    clear k1 k0
    refine hX 1000 127 _ _ _ ?_
    repeat' (first | (intro hc) | (refine And.intro ?_ ?_) | (exact absurd nI_0 ‹cmpF 0 (nI 0) 0›) | (exact absurd ‹cmpT 0 (nI 1) 0› nI1_ne) | (exact absurd nI_0 ‹cmpT 1 (nI 0) 0›) | (exact absurd ‹cmpF 1 (nI 1) 0› nI1_ne) | (show wp _ _ _ _ _ _ _ _ _ _ _ _; conv => whnf) | (simp (disch := omega) only [nI_add, nI_mul, setN_now, setN_put, nI_cl, Nat.add_zero]) | (refine hcall _ _ _ _ ?_; first | (refine t_sign_0 ht e2 e3 h8 (by omega) e ?_) | fail))
    all_goals first
      | exact Or.inr rfl
      | exact Or.inl rfl
      | exact h
      | (exfalso; exact g3 (by assumption))
set_option maxHeartbeats 4000000 in
set_option maxRecDepth 100000 in
theorem t_tailf {X : Nat → List MV → List MV → St → Prop} {call : Nat → List MV → St → (Option MV → St → Prop) → Prop} (hcall : ∀ (m : Nat) (as : List MV) (s : St) (Q : Option MV → St → Prop), wpM L xs codT retT (f + 2) m as s Q → call m as s Q) (hX : ∀ (n pc : Nat) (ls st : List MV) (s : St), wp call L xs (retT m_X0_readAct) Q X (codT m_X0_readAct) n (behind (fromPc (codT m_X0_readAct) pc)) ls st s → X pc ls st s) : ∀ u', ¬ u' 3 = -1 → Q (some (.inl (nI 0))) (setB s u') → X 127 [.inr (0, 0)] [] (setB s u') := by
  intro u' e3 h
  have g3 : ¬ (setB s u').1 0 0 3 = -1 := fun q => e3 ((setB_x (by omega)).symm.trans q)
  refine hX 1000 127 _ _ _ ?_
  repeat' (first | (intro hc) | (refine And.intro ?_ ?_) | (exact absurd nI_0 ‹cmpF 0 (nI 0) 0›) | (exact absurd ‹cmpT 0 (nI 1) 0› nI1_ne) | (exact absurd nI_0 ‹cmpT 1 (nI 0) 0›) | (exact absurd ‹cmpF 1 (nI 1) 0› nI1_ne) | (show wp _ _ _ _ _ _ _ _ _ _ _ _; conv => whnf) | (simp (disch := omega) only [nI_add, nI_mul, setN_now, setN_put, nI_cl, Nat.add_zero]) | (refine hcall _ _ _ _ ?_; first | (refine t_sign_f e3 ?_) | fail))
  all_goals first
    | exact Or.inr rfl
    | exact Or.inl rfl
    | exact h
    | (exfalso; exact g3 (by assumption))
set_option maxHeartbeats 4000000 in
set_option maxRecDepth 100000 in
theorem t_act_s (ht : txtC s T n) (hp : u 2 = nI p) (h3 : u 3 = -1) (hs : sgnB T n p 115 = true) (h0 : ∀ q u', actR T n p = .inl q → u' 3 = nI q → Q (some (.inl (nI 0))) (setB s u')) (h1 : ∀ t a b c q u', actR T n p = .inr ((t, a, b, c), q) → u' 2 = nI q → u' 3 = -1 → u' 4 = nI t → u' 5 = nI a → (t = 115 → u' 6 = nI b ∧ u' 7 = nI c) → Q (some (.inl (nI 1))) (setB s u')) : wpM L xs codT retT (f + 4) m_X0_readAct [.inr (0, 0)] (setB s u) Q := by
  obtain ⟨hT, hn, h8, hB⟩ := id ht
  obtain ⟨s1, s2⟩ := sgnB_1 hs
  have eb : byF T n p = nI 115 := by unfold byF; rw [if_pos s1, s2]
  have e4 : (putV (setB s u) 0 0 4 (byF T n p)).1 0 0 4 = nI 115 := putV_at.trans eb
  have g3 : (setB s u).1 0 0 3 = -1 := (setB_x (by omega)).trans h3
  clear hT hB
  intro call hcall X hX
  have tail := t_tail (f := f + 1) (L := L) (xs := xs) (Q := Q) ht hcall hX
  have tailf := t_tailf (f := f + 1) (L := L) (xs := xs) (Q := Q) (s := s) hcall hX
  cases e1 : letR T n (p + 1) with
  | inl q =>
    have eA : actR T n p = .inl q := by unfold actR; rw [if_pos hs, e1]
    have hq := letR_l (by omega) e1
    have tl := fun u1 (a1 : u1 3 = nI q) => tailf u1 (by rw [a1]; exact nI_m1n (by omega)) (h0 q u1 eA a1)
    refine hX 1000 0 _ _ _ ?_
    repeat' (first | (intro hc) | (refine And.intro ?_ ?_) | (exact absurd nI_0 ‹cmpF 0 (nI 0) 0›) | (exact absurd ‹cmpT 0 (nI 1) 0› nI1_ne) | (exact absurd nI_0 ‹cmpT 1 (nI 0) 0›) | (exact absurd ‹cmpF 1 (nI 1) 0› nI1_ne) | (show wp _ _ _ _ _ _ _ _ _ _ _ _; conv => whnf) | (rw [setB_put (by omega)]) | (simp (disch := omega) only [nI_add, nI_mul, setN_now, setN_put, nI_cl, Nat.add_zero]) | (refine hcall _ _ _ _ ?_; first | (refine t_byteHere ht hp (by omega) ?_) | (refine t_sending ht ((putF_ne _ _ (by omega)).trans hp) ((putF_ne _ _ (by omega)).trans h3) (by omega) hs (fun q' u1 e' a1 a4 => ?_) (fun a b c q' u1 e' a1 a2 a4 a5 a6 a7 => ?_)) | fail))
    all_goals first
      | (rw [e1] at e'; cases e'; exact tl _ a1)
      | (exfalso; rw [e1] at e'; cases e'; done)
      | exact absurd (e4.trans (ofN 115).symm) (by assumption)
      | exact absurd (e4.symm.trans ((by assumption : (putV (setB s u) 0 0 4 (byF T n p)).1 0 0 4 = Int32.ofNat 114).trans (ofN 114))) (nI_ne (by omega) (by omega) (by omega))
      | exact absurd (e4.symm.trans ((by assumption : (putV (setB s u) 0 0 4 (byF T n p)).1 0 0 4 = Int32.ofNat 116).trans (ofN 116))) (nI_ne (by omega) (by omega) (by omega))
      | exact absurd (e4.symm.trans ((by assumption : (putV (setB s u) 0 0 4 (byF T n p)).1 0 0 4 = Int32.ofNat 117).trans (ofN 117))) (nI_ne (by omega) (by omega) (by omega))
      | (exfalso; exact (by assumption : ¬ (setB s u).1 0 0 3 = -1) g3)
      | (exfalso; exact (by assumption : cmpT 1 ((setB s u).1 0 0 3) (-1)) g3)
      | (exfalso; clear hX hcall h0 h1 tail tailf e4 ht; simp (disch := omega) only [cmpT, cmpF, setB_x, setB_y, (id hp), (id hn), nI_toI] at * <;> omega)
  | inr w =>
    obtain ⟨⟨a, b, c⟩, p3⟩ := w
    have bl := letR_b e1
    have tl : ∀ u1, u1 2 = nI p3 → u1 3 = -1 → u1 4 = nI 115 → u1 5 = nI a → u1 6 = nI b → u1 7 = nI c → X 127 [.inr (0, 0)] [] (setB s u1) := by
      intro u1 a1 a2 a4 a5 a6 a7
      refine tail u1 p3 a1 a2 (by omega) (fun e2 => h1 115 a b c (p3 + 1) _ ?_ (putF_at _ _ _) ?_ ?_ ?_ (fun _ => ⟨?_, ?_⟩)) (fun e2 => h0 p3 _ ?_ (putF_at _ _ _))
      · unfold actR; rw [if_pos hs, e1]; show (if sgnB T n p3 59 = true then _ else _) = _; rw [e2]; rfl
      · simp (disch := omega) only [putF_ne, a2]
      · simp (disch := omega) only [putF_ne, a4]
      · simp (disch := omega) only [putF_ne, a5]
      · simp (disch := omega) only [putF_ne, a6]
      · simp (disch := omega) only [putF_ne, a7]
      · unfold actR; rw [if_pos hs, e1]; show (if sgnB T n p3 59 = true then _ else _) = _; rw [e2]; rfl
    refine hX 1000 0 _ _ _ ?_
    repeat' (first | (intro hc) | (refine And.intro ?_ ?_) | (exact absurd nI_0 ‹cmpF 0 (nI 0) 0›) | (exact absurd ‹cmpT 0 (nI 1) 0› nI1_ne) | (exact absurd nI_0 ‹cmpT 1 (nI 0) 0›) | (exact absurd ‹cmpF 1 (nI 1) 0› nI1_ne) | (show wp _ _ _ _ _ _ _ _ _ _ _ _; conv => whnf) | (rw [setB_put (by omega)]) | (simp (disch := omega) only [nI_add, nI_mul, setN_now, setN_put, nI_cl, Nat.add_zero]) | (refine hcall _ _ _ _ ?_; first | (refine t_byteHere ht hp (by omega) ?_) | (refine t_sending ht ((putF_ne _ _ (by omega)).trans hp) ((putF_ne _ _ (by omega)).trans h3) (by omega) hs (fun q' u1 e' a1 a4 => ?_) (fun a b c q' u1 e' a1 a2 a4 a5 a6 a7 => ?_)) | fail))
    all_goals first
      | (rw [e1] at e'; cases e'; exact tl _ a1 a2 (a4.trans ((putF_at _ _ _).trans eb)) a5 a6 a7)
      | (exfalso; rw [e1] at e'; cases e'; done)
      | exact absurd (e4.trans (ofN 115).symm) (by assumption)
      | exact absurd (e4.symm.trans ((by assumption : (putV (setB s u) 0 0 4 (byF T n p)).1 0 0 4 = Int32.ofNat 114).trans (ofN 114))) (nI_ne (by omega) (by omega) (by omega))
      | exact absurd (e4.symm.trans ((by assumption : (putV (setB s u) 0 0 4 (byF T n p)).1 0 0 4 = Int32.ofNat 116).trans (ofN 116))) (nI_ne (by omega) (by omega) (by omega))
      | exact absurd (e4.symm.trans ((by assumption : (putV (setB s u) 0 0 4 (byF T n p)).1 0 0 4 = Int32.ofNat 117).trans (ofN 117))) (nI_ne (by omega) (by omega) (by omega))
      | (exfalso; exact (by assumption : ¬ (setB s u).1 0 0 3 = -1) g3)
      | (exfalso; exact (by assumption : cmpT 1 ((setB s u).1 0 0 3) (-1)) g3)
      | (exfalso; clear hX hcall h0 h1 tail tailf e4 ht; simp (disch := omega) only [cmpT, cmpF, setB_x, setB_y, (id hp), (id hn), nI_toI] at * <;> omega)
set_option maxHeartbeats 4000000 in
set_option maxRecDepth 100000 in
theorem t_act_t (ht : txtC s T n) (hp : u 2 = nI p) (h3 : u 3 = -1) (hs : sgnB T n p 116 = true) (h0 : ∀ q u', actR T n p = .inl q → u' 3 = nI q → Q (some (.inl (nI 0))) (setB s u')) (h1 : ∀ t a b c q u', actR T n p = .inr ((t, a, b, c), q) → u' 2 = nI q → u' 3 = -1 → u' 4 = nI t → u' 5 = nI a → (t = 115 → u' 6 = nI b ∧ u' 7 = nI c) → Q (some (.inl (nI 1))) (setB s u')) : wpM L xs codT retT (f + 4) m_X0_readAct [.inr (0, 0)] (setB s u) Q := by
  obtain ⟨hT, hn, h8, hB⟩ := id ht
  obtain ⟨s1, s2⟩ := sgnB_1 hs
  have eb : byF T n p = nI 116 := by unfold byF; rw [if_pos s1, s2]
  have e4 : (putV (setB s u) 0 0 4 (byF T n p)).1 0 0 4 = nI 116 := putV_at.trans eb
  have g3 : (setB s u).1 0 0 3 = -1 := (setB_x (by omega)).trans h3
  clear hT hB
  intro call hcall X hX
  have tail := t_tail (f := f + 1) (L := L) (xs := xs) (Q := Q) ht hcall hX
  have tailf := t_tailf (f := f + 1) (L := L) (xs := xs) (Q := Q) (s := s) hcall hX
  have hno115 : ¬ sgnB T n p 115 = true := sgnB_n (by omega)
  have eO : actR T n p = oneR T n p 116 1 99 := by unfold actR; rw [if_neg hno115, if_pos hs]
  have u2 : putF u 4 (byF T n p) 2 = nI p := (putF_ne _ _ (by omega)).trans hp
  cases e1 : numR T n (p + 1) 1 99 with
  | inl q =>
    have eA : actR T n p = .inl q := by rw [eO]; unfold oneR; rw [e1]
    have hq := numR_l e1
    have tl := fun u1 (a1 : u1 3 = nI q) => tailf u1 (by rw [a1]; exact nI_m1n (by omega)) (h0 q u1 eA a1)
    refine hX 1000 0 _ _ _ ?_
    repeat' (first | (intro hc) | (refine And.intro ?_ ?_) | (exact absurd nI_0 ‹cmpF 0 (nI 0) 0›) | (exact absurd ‹cmpT 0 (nI 1) 0› nI1_ne) | (exact absurd nI_0 ‹cmpT 1 (nI 0) 0›) | (exact absurd ‹cmpF 1 (nI 1) 0› nI1_ne) | (show wp _ _ _ _ _ _ _ _ _ _ _ _; conv => whnf) | (rw [setB_put (by omega)]) | (rw [setB_x (by omega)]) | (rw [u2]) | (rw [nI_add]) | (simp (disch := omega) only [nI_add, nI_mul, setN_now, setN_put, nI_cl, Nat.add_zero]) | (refine hcall _ _ _ _ ?_; first | (refine t_byteHere ht hp (by omega) ?_) | (refine t_num_l ht (putF_at _ _ _) ((putF_ne _ _ (by omega)).trans ((putF_ne _ _ (by omega)).trans h3)) (by omega) (by omega) (by omega) e1 (fun x1 u1 a1 a3 => ?_)) | fail))
    all_goals first
      | exact tl _ ((putF_ne _ _ (by omega)).trans a1)
      | exact absurd (e4.trans (ofN 116).symm) (by assumption)
      | exact absurd (e4.symm.trans ((by assumption : (putV (setB s u) 0 0 4 (byF T n p)).1 0 0 4 = Int32.ofNat 114).trans (ofN 114))) (nI_ne (by omega) (by omega) (by omega))
      | exact absurd (e4.symm.trans ((by assumption : (putV (setB s u) 0 0 4 (byF T n p)).1 0 0 4 = Int32.ofNat 115).trans (ofN 115))) (nI_ne (by omega) (by omega) (by omega))
      | exact absurd (e4.symm.trans ((by assumption : (putV (setB s u) 0 0 4 (byF T n p)).1 0 0 4 = Int32.ofNat 117).trans (ofN 117))) (nI_ne (by omega) (by omega) (by omega))
      | (exfalso; exact (by assumption : ¬ (setB s u).1 0 0 3 = -1) g3)
      | (exfalso; exact (by assumption : cmpT 1 ((setB s u).1 0 0 3) (-1)) g3)
      | (exfalso; clear hX hcall h0 h1 tail tailf e4 ht; simp (disch := omega) only [cmpT, cmpF, setB_x, setB_y, (id hp), (id hn), nI_toI] at * <;> omega)
  | inr w =>
    obtain ⟨a, p3⟩ := w
    have bl := numR_b e1
    have tl : ∀ u1, u1 2 = nI p3 → u1 3 = -1 → u1 4 = nI 116 → u1 5 = nI a → X 127 [.inr (0, 0)] [] (setB s u1) := by
      intro u1 a1 a2 a4 a5
      refine tail u1 p3 a1 a2 (by omega) (fun e2 => h1 116 a 0 0 (p3 + 1) _ ?_ (putF_at _ _ _) ?_ ?_ ?_ (fun q0 => absurd q0 (by omega))) (fun e2 => h0 p3 _ ?_ (putF_at _ _ _))
      · rw [eO]; unfold oneR; rw [e1]; show (if sgnB T n p3 59 = true then _ else _) = _; rw [e2]; rfl
      · simp (disch := omega) only [putF_ne, a2]
      · simp (disch := omega) only [putF_ne, a4]
      · simp (disch := omega) only [putF_ne, a5]
      · rw [eO]; unfold oneR; rw [e1]; show (if sgnB T n p3 59 = true then _ else _) = _; rw [e2]; rfl
    refine hX 1000 0 _ _ _ ?_
    repeat' (first | (intro hc) | (refine And.intro ?_ ?_) | (exact absurd nI_0 ‹cmpF 0 (nI 0) 0›) | (exact absurd ‹cmpT 0 (nI 1) 0› nI1_ne) | (exact absurd nI_0 ‹cmpT 1 (nI 0) 0›) | (exact absurd ‹cmpF 1 (nI 1) 0› nI1_ne) | (show wp _ _ _ _ _ _ _ _ _ _ _ _; conv => whnf) | (rw [setB_put (by omega)]) | (rw [setB_x (by omega)]) | (rw [u2]) | (rw [nI_add]) | (simp (disch := omega) only [nI_add, nI_mul, setN_now, setN_put, nI_cl, Nat.add_zero]) | (refine hcall _ _ _ _ ?_; first | (refine t_byteHere ht hp (by omega) ?_) | (refine t_num_r ht (putF_at _ _ _) ((putF_ne _ _ (by omega)).trans ((putF_ne _ _ (by omega)).trans h3)) (by omega) (by omega) (by omega) e1 (fun u1 a1 a2 a3 => ?_)) | fail))
    all_goals first
      | (refine tl _ ?_ ?_ ?_ ?_ <;> simp (disch := omega) only [putF_ne, putF_at, a1, a2, a3, eb])
      | exact absurd (e4.trans (ofN 116).symm) (by assumption)
      | exact absurd (e4.symm.trans ((by assumption : (putV (setB s u) 0 0 4 (byF T n p)).1 0 0 4 = Int32.ofNat 114).trans (ofN 114))) (nI_ne (by omega) (by omega) (by omega))
      | exact absurd (e4.symm.trans ((by assumption : (putV (setB s u) 0 0 4 (byF T n p)).1 0 0 4 = Int32.ofNat 115).trans (ofN 115))) (nI_ne (by omega) (by omega) (by omega))
      | exact absurd (e4.symm.trans ((by assumption : (putV (setB s u) 0 0 4 (byF T n p)).1 0 0 4 = Int32.ofNat 117).trans (ofN 117))) (nI_ne (by omega) (by omega) (by omega))
      | (exfalso; exact (by assumption : ¬ (setB s u).1 0 0 3 = -1) g3)
      | (exfalso; exact (by assumption : cmpT 1 ((setB s u).1 0 0 3) (-1)) g3)
      | (exfalso; clear hX hcall h0 h1 tail tailf e4 ht; simp (disch := omega) only [cmpT, cmpF, setB_x, setB_y, (id hp), (id hn), nI_toI] at * <;> omega)
set_option maxHeartbeats 4000000 in
set_option maxRecDepth 100000 in
theorem t_act_r (ht : txtC s T n) (hp : u 2 = nI p) (h3 : u 3 = -1) (hs : sgnB T n p 114 = true) (h0 : ∀ q u', actR T n p = .inl q → u' 3 = nI q → Q (some (.inl (nI 0))) (setB s u')) (h1 : ∀ t a b c q u', actR T n p = .inr ((t, a, b, c), q) → u' 2 = nI q → u' 3 = -1 → u' 4 = nI t → u' 5 = nI a → (t = 115 → u' 6 = nI b ∧ u' 7 = nI c) → Q (some (.inl (nI 1))) (setB s u')) : wpM L xs codT retT (f + 4) m_X0_readAct [.inr (0, 0)] (setB s u) Q := by
  obtain ⟨hT, hn, h8, hB⟩ := id ht
  obtain ⟨s1, s2⟩ := sgnB_1 hs
  have eb : byF T n p = nI 114 := by unfold byF; rw [if_pos s1, s2]
  have e4 : (putV (setB s u) 0 0 4 (byF T n p)).1 0 0 4 = nI 114 := putV_at.trans eb
  have g3 : (setB s u).1 0 0 3 = -1 := (setB_x (by omega)).trans h3
  clear hT hB
  intro call hcall X hX
  have tail := t_tail (f := f + 1) (L := L) (xs := xs) (Q := Q) ht hcall hX
  have tailf := t_tailf (f := f + 1) (L := L) (xs := xs) (Q := Q) (s := s) hcall hX
  have hno115 : ¬ sgnB T n p 115 = true := sgnB_n (by omega)
  have hno116 : ¬ sgnB T n p 116 = true := sgnB_n (by omega)
  have eO : actR T n p = oneR T n p 114 0 7 := by unfold actR; rw [if_neg hno115, if_neg hno116, if_pos hs]
  have u2 : putF u 4 (byF T n p) 2 = nI p := (putF_ne _ _ (by omega)).trans hp
  cases e1 : numR T n (p + 1) 0 7 with
  | inl q =>
    have eA : actR T n p = .inl q := by rw [eO]; unfold oneR; rw [e1]
    have hq := numR_l e1
    have tl := fun u1 (a1 : u1 3 = nI q) => tailf u1 (by rw [a1]; exact nI_m1n (by omega)) (h0 q u1 eA a1)
    refine hX 1000 0 _ _ _ ?_
    repeat' (first | (intro hc) | (refine And.intro ?_ ?_) | (exact absurd nI_0 ‹cmpF 0 (nI 0) 0›) | (exact absurd ‹cmpT 0 (nI 1) 0› nI1_ne) | (exact absurd nI_0 ‹cmpT 1 (nI 0) 0›) | (exact absurd ‹cmpF 1 (nI 1) 0› nI1_ne) | (show wp _ _ _ _ _ _ _ _ _ _ _ _; conv => whnf) | (rw [setB_put (by omega)]) | (rw [setB_x (by omega)]) | (rw [u2]) | (rw [nI_add]) | (simp (disch := omega) only [nI_add, nI_mul, setN_now, setN_put, nI_cl, Nat.add_zero]) | (refine hcall _ _ _ _ ?_; first | (refine t_byteHere ht hp (by omega) ?_) | (refine t_num_l ht (putF_at _ _ _) ((putF_ne _ _ (by omega)).trans ((putF_ne _ _ (by omega)).trans h3)) (by omega) (by omega) (by omega) e1 (fun x1 u1 a1 a3 => ?_)) | fail))
    all_goals first
      | exact tl _ ((putF_ne _ _ (by omega)).trans a1)
      | exact absurd (e4.trans (ofN 114).symm) (by assumption)
      | exact absurd (e4.symm.trans ((by assumption : (putV (setB s u) 0 0 4 (byF T n p)).1 0 0 4 = Int32.ofNat 115).trans (ofN 115))) (nI_ne (by omega) (by omega) (by omega))
      | exact absurd (e4.symm.trans ((by assumption : (putV (setB s u) 0 0 4 (byF T n p)).1 0 0 4 = Int32.ofNat 116).trans (ofN 116))) (nI_ne (by omega) (by omega) (by omega))
      | exact absurd (e4.symm.trans ((by assumption : (putV (setB s u) 0 0 4 (byF T n p)).1 0 0 4 = Int32.ofNat 117).trans (ofN 117))) (nI_ne (by omega) (by omega) (by omega))
      | (exfalso; exact (by assumption : ¬ (setB s u).1 0 0 3 = -1) g3)
      | (exfalso; exact (by assumption : cmpT 1 ((setB s u).1 0 0 3) (-1)) g3)
      | (exfalso; clear hX hcall h0 h1 tail tailf e4 ht; simp (disch := omega) only [cmpT, cmpF, setB_x, setB_y, (id hp), (id hn), nI_toI] at * <;> omega)
  | inr w =>
    obtain ⟨a, p3⟩ := w
    have bl := numR_b e1
    have tl : ∀ u1, u1 2 = nI p3 → u1 3 = -1 → u1 4 = nI 114 → u1 5 = nI a → X 127 [.inr (0, 0)] [] (setB s u1) := by
      intro u1 a1 a2 a4 a5
      refine tail u1 p3 a1 a2 (by omega) (fun e2 => h1 114 a 0 0 (p3 + 1) _ ?_ (putF_at _ _ _) ?_ ?_ ?_ (fun q0 => absurd q0 (by omega))) (fun e2 => h0 p3 _ ?_ (putF_at _ _ _))
      · rw [eO]; unfold oneR; rw [e1]; show (if sgnB T n p3 59 = true then _ else _) = _; rw [e2]; rfl
      · simp (disch := omega) only [putF_ne, a2]
      · simp (disch := omega) only [putF_ne, a4]
      · simp (disch := omega) only [putF_ne, a5]
      · rw [eO]; unfold oneR; rw [e1]; show (if sgnB T n p3 59 = true then _ else _) = _; rw [e2]; rfl
    refine hX 1000 0 _ _ _ ?_
    repeat' (first | (intro hc) | (refine And.intro ?_ ?_) | (exact absurd nI_0 ‹cmpF 0 (nI 0) 0›) | (exact absurd ‹cmpT 0 (nI 1) 0› nI1_ne) | (exact absurd nI_0 ‹cmpT 1 (nI 0) 0›) | (exact absurd ‹cmpF 1 (nI 1) 0› nI1_ne) | (show wp _ _ _ _ _ _ _ _ _ _ _ _; conv => whnf) | (rw [setB_put (by omega)]) | (rw [setB_x (by omega)]) | (rw [u2]) | (rw [nI_add]) | (simp (disch := omega) only [nI_add, nI_mul, setN_now, setN_put, nI_cl, Nat.add_zero]) | (refine hcall _ _ _ _ ?_; first | (refine t_byteHere ht hp (by omega) ?_) | (refine t_num_r ht (putF_at _ _ _) ((putF_ne _ _ (by omega)).trans ((putF_ne _ _ (by omega)).trans h3)) (by omega) (by omega) (by omega) e1 (fun u1 a1 a2 a3 => ?_)) | fail))
    all_goals first
      | (refine tl _ ?_ ?_ ?_ ?_ <;> simp (disch := omega) only [putF_ne, putF_at, a1, a2, a3, eb])
      | exact absurd (e4.trans (ofN 114).symm) (by assumption)
      | exact absurd (e4.symm.trans ((by assumption : (putV (setB s u) 0 0 4 (byF T n p)).1 0 0 4 = Int32.ofNat 115).trans (ofN 115))) (nI_ne (by omega) (by omega) (by omega))
      | exact absurd (e4.symm.trans ((by assumption : (putV (setB s u) 0 0 4 (byF T n p)).1 0 0 4 = Int32.ofNat 116).trans (ofN 116))) (nI_ne (by omega) (by omega) (by omega))
      | exact absurd (e4.symm.trans ((by assumption : (putV (setB s u) 0 0 4 (byF T n p)).1 0 0 4 = Int32.ofNat 117).trans (ofN 117))) (nI_ne (by omega) (by omega) (by omega))
      | (exfalso; exact (by assumption : ¬ (setB s u).1 0 0 3 = -1) g3)
      | (exfalso; exact (by assumption : cmpT 1 ((setB s u).1 0 0 3) (-1)) g3)
      | (exfalso; clear hX hcall h0 h1 tail tailf e4 ht; simp (disch := omega) only [cmpT, cmpF, setB_x, setB_y, (id hp), (id hn), nI_toI] at * <;> omega)
set_option maxHeartbeats 4000000 in
set_option maxRecDepth 100000 in
theorem t_act_u (ht : txtC s T n) (hp : u 2 = nI p) (h3 : u 3 = -1) (hs : sgnB T n p 117 = true) (h0 : ∀ q u', actR T n p = .inl q → u' 3 = nI q → Q (some (.inl (nI 0))) (setB s u')) (h1 : ∀ t a b c q u', actR T n p = .inr ((t, a, b, c), q) → u' 2 = nI q → u' 3 = -1 → u' 4 = nI t → u' 5 = nI a → (t = 115 → u' 6 = nI b ∧ u' 7 = nI c) → Q (some (.inl (nI 1))) (setB s u')) : wpM L xs codT retT (f + 4) m_X0_readAct [.inr (0, 0)] (setB s u) Q := by
  obtain ⟨hT, hn, h8, hB⟩ := id ht
  obtain ⟨s1, s2⟩ := sgnB_1 hs
  have eb : byF T n p = nI 117 := by unfold byF; rw [if_pos s1, s2]
  have e4 : (putV (setB s u) 0 0 4 (byF T n p)).1 0 0 4 = nI 117 := putV_at.trans eb
  have g3 : (setB s u).1 0 0 3 = -1 := (setB_x (by omega)).trans h3
  clear hT hB
  intro call hcall X hX
  have tail := t_tail (f := f + 1) (L := L) (xs := xs) (Q := Q) ht hcall hX
  have tailf := t_tailf (f := f + 1) (L := L) (xs := xs) (Q := Q) (s := s) hcall hX
  have hno115 : ¬ sgnB T n p 115 = true := sgnB_n (by omega)
  have hno116 : ¬ sgnB T n p 116 = true := sgnB_n (by omega)
  have hno114 : ¬ sgnB T n p 114 = true := sgnB_n (by omega)
  have eO : actR T n p = oneR T n p 117 0 7 := by unfold actR; rw [if_neg hno115, if_neg hno116, if_neg hno114, if_pos hs]
  have u2 : putF u 4 (byF T n p) 2 = nI p := (putF_ne _ _ (by omega)).trans hp
  cases e1 : numR T n (p + 1) 0 7 with
  | inl q =>
    have eA : actR T n p = .inl q := by rw [eO]; unfold oneR; rw [e1]
    have hq := numR_l e1
    have tl := fun u1 (a1 : u1 3 = nI q) => tailf u1 (by rw [a1]; exact nI_m1n (by omega)) (h0 q u1 eA a1)
    refine hX 1000 0 _ _ _ ?_
    repeat' (first | (intro hc) | (refine And.intro ?_ ?_) | (exact absurd nI_0 ‹cmpF 0 (nI 0) 0›) | (exact absurd ‹cmpT 0 (nI 1) 0› nI1_ne) | (exact absurd nI_0 ‹cmpT 1 (nI 0) 0›) | (exact absurd ‹cmpF 1 (nI 1) 0› nI1_ne) | (show wp _ _ _ _ _ _ _ _ _ _ _ _; conv => whnf) | (rw [setB_put (by omega)]) | (rw [setB_x (by omega)]) | (rw [u2]) | (rw [nI_add]) | (simp (disch := omega) only [nI_add, nI_mul, setN_now, setN_put, nI_cl, Nat.add_zero]) | (refine hcall _ _ _ _ ?_; first | (refine t_byteHere ht hp (by omega) ?_) | (refine t_num_l ht (putF_at _ _ _) ((putF_ne _ _ (by omega)).trans ((putF_ne _ _ (by omega)).trans h3)) (by omega) (by omega) (by omega) e1 (fun x1 u1 a1 a3 => ?_)) | fail))
    all_goals first
      | exact tl _ ((putF_ne _ _ (by omega)).trans a1)
      | exact absurd (e4.trans (ofN 117).symm) (by assumption)
      | exact absurd (e4.symm.trans ((by assumption : (putV (setB s u) 0 0 4 (byF T n p)).1 0 0 4 = Int32.ofNat 114).trans (ofN 114))) (nI_ne (by omega) (by omega) (by omega))
      | exact absurd (e4.symm.trans ((by assumption : (putV (setB s u) 0 0 4 (byF T n p)).1 0 0 4 = Int32.ofNat 115).trans (ofN 115))) (nI_ne (by omega) (by omega) (by omega))
      | exact absurd (e4.symm.trans ((by assumption : (putV (setB s u) 0 0 4 (byF T n p)).1 0 0 4 = Int32.ofNat 116).trans (ofN 116))) (nI_ne (by omega) (by omega) (by omega))
      | (exfalso; exact (by assumption : ¬ (setB s u).1 0 0 3 = -1) g3)
      | (exfalso; exact (by assumption : cmpT 1 ((setB s u).1 0 0 3) (-1)) g3)
      | (exfalso; clear hX hcall h0 h1 tail tailf e4 ht; simp (disch := omega) only [cmpT, cmpF, setB_x, setB_y, (id hp), (id hn), nI_toI] at * <;> omega)
  | inr w =>
    obtain ⟨a, p3⟩ := w
    have bl := numR_b e1
    have tl : ∀ u1, u1 2 = nI p3 → u1 3 = -1 → u1 4 = nI 117 → u1 5 = nI a → X 127 [.inr (0, 0)] [] (setB s u1) := by
      intro u1 a1 a2 a4 a5
      refine tail u1 p3 a1 a2 (by omega) (fun e2 => h1 117 a 0 0 (p3 + 1) _ ?_ (putF_at _ _ _) ?_ ?_ ?_ (fun q0 => absurd q0 (by omega))) (fun e2 => h0 p3 _ ?_ (putF_at _ _ _))
      · rw [eO]; unfold oneR; rw [e1]; show (if sgnB T n p3 59 = true then _ else _) = _; rw [e2]; rfl
      · simp (disch := omega) only [putF_ne, a2]
      · simp (disch := omega) only [putF_ne, a4]
      · simp (disch := omega) only [putF_ne, a5]
      · rw [eO]; unfold oneR; rw [e1]; show (if sgnB T n p3 59 = true then _ else _) = _; rw [e2]; rfl
    refine hX 1000 0 _ _ _ ?_
    repeat' (first | (intro hc) | (refine And.intro ?_ ?_) | (exact absurd nI_0 ‹cmpF 0 (nI 0) 0›) | (exact absurd ‹cmpT 0 (nI 1) 0› nI1_ne) | (exact absurd nI_0 ‹cmpT 1 (nI 0) 0›) | (exact absurd ‹cmpF 1 (nI 1) 0› nI1_ne) | (show wp _ _ _ _ _ _ _ _ _ _ _ _; conv => whnf) | (rw [setB_put (by omega)]) | (rw [setB_x (by omega)]) | (rw [u2]) | (rw [nI_add]) | (simp (disch := omega) only [nI_add, nI_mul, setN_now, setN_put, nI_cl, Nat.add_zero]) | (refine hcall _ _ _ _ ?_; first | (refine t_byteHere ht hp (by omega) ?_) | (refine t_num_r ht (putF_at _ _ _) ((putF_ne _ _ (by omega)).trans ((putF_ne _ _ (by omega)).trans h3)) (by omega) (by omega) (by omega) e1 (fun u1 a1 a2 a3 => ?_)) | fail))
    all_goals first
      | (refine tl _ ?_ ?_ ?_ ?_ <;> simp (disch := omega) only [putF_ne, putF_at, a1, a2, a3, eb])
      | exact absurd (e4.trans (ofN 117).symm) (by assumption)
      | exact absurd (e4.symm.trans ((by assumption : (putV (setB s u) 0 0 4 (byF T n p)).1 0 0 4 = Int32.ofNat 114).trans (ofN 114))) (nI_ne (by omega) (by omega) (by omega))
      | exact absurd (e4.symm.trans ((by assumption : (putV (setB s u) 0 0 4 (byF T n p)).1 0 0 4 = Int32.ofNat 115).trans (ofN 115))) (nI_ne (by omega) (by omega) (by omega))
      | exact absurd (e4.symm.trans ((by assumption : (putV (setB s u) 0 0 4 (byF T n p)).1 0 0 4 = Int32.ofNat 116).trans (ofN 116))) (nI_ne (by omega) (by omega) (by omega))
      | (exfalso; exact (by assumption : ¬ (setB s u).1 0 0 3 = -1) g3)
      | (exfalso; exact (by assumption : cmpT 1 ((setB s u).1 0 0 3) (-1)) g3)
      | (exfalso; clear hX hcall h0 h1 tail tailf e4 ht; simp (disch := omega) only [cmpT, cmpF, setB_x, setB_y, (id hp), (id hn), nI_toI] at * <;> omega)
end TXT4
