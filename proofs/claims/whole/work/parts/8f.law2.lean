/-! THE LAW: text, undo, saves, totals, rehearsals -/
section LAW2
variable {L : Nat} {xs : Nat → Int32} {f i n m j r p B : Nat} {x y v a z l name flow : Int32} {s s1 : St} {F G : Fm} {T : Nat → Nat} {Q : Option MV → St → Prop} {Q0 : Option MV → St → Prop} {X : Nat → List MV → List MV → St → Prop} {call : Nat → List MV → St → (Option MV → St → Prop) → Prop}
theorem iN_of2 {v : Int32} {j : Nat} (hj : j < 2) (h : v = nI j) : iN v 2 := by
  subst h
  unfold iN
  rw [nI_toI (n := j) (by omega)]
  omega
theorem nI_eqq {a b : Nat} (ha : a < 1000) (hb : b < 1000) (h : nI a = nI b) : a = b := (nI_inj (by omega) (by omega)).mp h
theorem Oth_frT (hf : FrT s s1) (h : Oth s n m T) : Oth s1 n m T := ⟨(hf.1 10 0 3 (by omega)).trans h.1, fun j hj => by
  rw [hf.1 18 0 j (by omega), hf.1 22 0 j (by omega)]
  exact h.2.1 j hj, hf.txt h.2.2.1, txtR_of (fun i => hf.1 23 0 i (by omega)) (hf.1 10 0 5 (by omega)) h.2.2.2⟩
theorem Rel.NKT (h : Rel s F G n m T B) (hf : FrT s s1) : setN (setK s1 G) F = s1 := NK_self ((funext fun i => hf.1 20 0 i (by omega)).trans h.2.1.1) ((funext fun i => hf.1 21 0 i (by omega)).trans h.2.1.2.1)
theorem Rel.n1 (h : Rel s F G n m T B) : s.1 3 0 2 = nI n := by
  obtain ⟨o, hh⟩ := h.1.2.2.1
  exact hh.2.2.2.1
theorem Rel.tc (h : Rel s F G n m T B) : txtC s T m := h.2.2.2.1
theorem Rel.tr (h : Rel s F G n m T B) : txtR s T m := h.2.2.2.2
theorem Rel.m8 (h : Rel s F G n m T B) : m ≤ 80 := h.2.2.2.1.2.2.1
theorem Rel_of (hC : CL s F G n B) (h20 : s.1 20 0 = F) (h21 : s.1 21 0 = G) (h : Oth s n m T) : Rel s F G n m T B := ⟨hC, ⟨h20, h21, h.1⟩, h.2⟩
theorem KC_B (hR : Rel s F G n m T B) {u u' : Fm} : Rel (setA (setB s u) u') F G n m T B := by
  refine Rel_of (CL_kc KC_A (CL_B hR.1)) ((funext fun i => (setA_o (by omega)).trans (setB_o (by omega))).trans hR.2.1.1) ((funext fun i => (setA_o (by omega)).trans (setB_o (by omega))).trans hR.2.1.2.1) (Oth_A (Oth_frT FrT_B hR.oth))
theorem y_total (hR : Rel s F G n m T B) (h : Q (some (.inl (totA F (nI n) (nI m) v))) s) : wpM L xs codT retT (f + 6) m_X9_total [.inr (9, 0), .inl v] s Q := by
  refine c_total hR.hw hR.1.2.1.1 ?_
  rw [hR.n1, hR.tc.2.1]
  exact h
theorem q_total (hR : Rel s F G n m T B) (h : Q (some (.inl (totA F (nI n) (nI m) v))) s) : wpM L xs codT retT (f + 7) m_X10_total [.inr (10, 0), .inl v] s Q := by
  have e := hR.N
  have h1 : s.1 10 0 3 = nI n := hR.2.1.2.2
  have h2 : s.1 10 0 5 = nI m := hR.tr.2.1
  rw [← e] at h ⊢
  exact r_total hR.hw h1 h2 h
theorem q_wouldReach (hR : Rel s F G n m T B) (hf : Fr s s1) (h : ∀ G' F', (∀ i, i < 509 → F' i = F i) → (∀ i, i < 3563 → G' i = G i) → Q (some (.inl (reachA F v name flow x))) (setN (setK s1 G') F')) : wpM L xs codT retT (f + 8) m_X10_wouldReach [.inr (10, 0), .inl v, .inl name, .inl flow, .inl x] s1 Q := by
  rw [← hR.NK hf]
  refine r_wouldReach hR.hw hR.1.2.1.2.2 h
theorem q_wouldAsk (hR : Rel s F G n m T B) (hf : Fr s s1) (h : ∀ G' F', (∀ i, i < 509 → F' i = F i) → (∀ i, i < 3563 → G' i = G i) → Q (some (.inl (askA F v name flow))) (setN (setK s1 G') F')) : wpM L xs codT retT (f + 8) m_X10_wouldAsk [.inr (10, 0), .inl v, .inl name, .inl flow] s1 Q := by
  rw [← hR.NK hf]
  refine r_wouldAsk hR.hw hR.1.2.1.2.2 h
theorem q_undo (hR : Rel s F G n m T B) (hf : Fr s s1) (h0 : n = 0 → Q (some (.inl (-3))) s1) (h : 0 < n → Q (some (.inl (nI (n - 1)))) (setN (setK (putV s1 10 0 3 (nI (n - 1))) G) (mixF F (fun k => G (509 * (n - 1) + k))))) : wpM L xs codT retT (f + 2) m_X10_undo [.inr (10, 0)] s1 Q := by
  rw [← hR.NK hf] at h0 ⊢
  exact r_undo hR.hn (hR.hs hf) h0 h
theorem q_save (hR : Rel s F G n m T B) (h20 : s1.1 20 0 = s.1 20 0) (h21 : s1.1 21 0 = s.1 21 0) (h0 : ¬ iN v 2 → Q (some (.inl (-1))) s1) (h : ∀ j, j < 2 → v = nI j → Q (some (.inl (F 0))) (setN (setK (putV s1 22 0 j (nI 1)) (keepG G F (5 + j))) F)) : wpM L xs codT retT (f + 2) m_X10_save [.inr (10, 0), .inl v] s1 Q := by
  have e : setN (setK s1 G) F = s1 := NK_self (h20.trans hR.2.1.1) (h21.trans hR.2.1.2.1)
  rw [← e] at h0 ⊢
  exact r_save h0 h
theorem q_restore (hR : Rel s F G n m T B) (hf : Fr s s1) (h0 : ¬ iN v 2 → Q (some (.inl (-1))) s1) (h1 : ∀ j, j < 2 → v = nI j → s1.1 22 0 j = 0 → Q (some (.inl (-3))) s1) (h : ∀ j, j < 2 → v = nI j → ¬ s1.1 22 0 j = 0 → Q (some (.inl (rowG G (5 + j) 0))) (setN (setK (putV s1 10 0 3 (nI (recN n))) (recG G F n)) (mixF F (fun k => recG G F n (509 * (5 + j) + k))))) : wpM L xs codT retT (f + 3) m_X10_restore [.inr (10, 0), .inl v] s1 Q := by
  have e := hR.NK hf
  have hs := hR.hs hf
  have h : ∀ j, j < 2 → v = nI j → ¬ s1.1 22 0 j = 0 → Q (some (.inl (mixF F (fun k => recG G F n (509 * (5 + j) + k)) 0))) (setN (setK (putV s1 10 0 3 (nI (recN n))) (recG G F n)) (mixF F (fun k => recG G F n (509 * (5 + j) + k)))) := fun j hj hv h2 => by
    have e2 : mixF F (fun k => recG G F n (509 * (5 + j) + k)) 0 = rowG G (5 + j) 0 := (if_pos (by omega)).trans (rec_sav (k := 0) (G := G) (F0 := F) hR.hn hj)
    rw [e2]
    exact h j hj hv h2
  generalize hs1 : s1 = t at *
  rw [← e]
  exact r_restore hR.hn hs (fun q => by rw [e]; exact h0 q) (fun j a b c => by rw [e]; exact h1 j a b c) h
theorem q_run (hR : Rel s F G n m T B) (hf : FrT s s1) (h0 : fltF T m ≠ none → ∀ u', Q (some (.inl (-3))) (setN (setK (setA s1 u') G) F)) (h1 : fltF T m = none → ∀ u', Q (some (.inl (nI (runF T m 81 0 F 0).1))) (setN (setK (setA (putV s1 10 0 3 (nI (recN n))) u') (recG G F n)) (runF T m 81 0 F 0).2)) : wpM L xs codT retT (f + 9) m_X10_run [.inr (10, 0)] s1 Q := by
  have e := hR.NKT hf
  have ho := Oth_frT hf hR.oth
  have e2 : setN (setK (setA s1 (s1.1 10 0)) G) F = s1 := by rw [setA_self]; exact e
  have := r_run (s := s1) (u := s1.1 10 0) (G := G) (L := L) (xs := xs) (f := f) (Q := Q) hR.1.2.1.2 hR.hn ho.1 ho.2.2.2 h0 h1
  rw [e2] at this
  exact this
set_option maxHeartbeats 4000000 in
set_option maxRecDepth 100000 in
theorem r_faultPos (ht : txtR s T n) (h : ∀ u', Q (some (.inl (optI (fltF T n) (-5)))) (setA s u')) : wpM L xs codT retT (f + 7) m_X10_faultPosition [.inr (10, 0)] s Q := by
  have e : setA s (s.1 10 0) = s := setA_self
  rw [← e]
  intro call hcall X hX; refine hX 1000 0 _ _ _ ?_
  repeat' (first | (intro hc) | (refine And.intro ?_ ?_) | (exact absurd nI_0 ‹cmpF 0 (nI 0) 0›) | (exact absurd ‹cmpT 0 (nI 1) 0› nI1_ne) | (exact absurd nI_0 ‹cmpT 1 (nI 0) 0›) | (exact absurd ‹cmpF 1 (nI 1) 0› nI1_ne) | (show wp _ _ _ _ _ _ _ _ _ _ _ _; conv => whnf) | (simp (disch := omega) only [nI_add, nI_mul, setN_now, setN_put, nI_cl, Nat.add_zero]) | (refine hcall _ _ _ _ ?_; first | (refine r_faultOf ht (fun u' => ?_)) | fail))
  all_goals exact h _
theorem Oth_txtR (ho : Oth s n m T) : txtR s T m := ho.2.2.2
set_option maxHeartbeats 4000000 in
set_option maxRecDepth 100000 in
theorem law_total (hX : walkL call L xs Q0 X) (hcall : callL call L xs f) (hR : Rel s F G n m T B) (hB1 : 1 ≤ B) (hB2 : B < 1000) (hi : i + 6 ≤ L) (hL : L ≤ 3072) (h : ∀ s' F' G' n' m' T', Rel s' F' G' n' m' T' (B + 1) → X 1058 (lsL i) [] s') : X 906 (lsL i) [] s := by
  refine hX 1000 906 _ _ _ ?_
  repeat' (first | (intro hc) | (refine And.intro ?_ ?_) | (exact absurd nI_0 ‹cmpF 0 (nI 0) 0›) | (exact absurd ‹cmpT 0 (nI 1) 0› nI1_ne) | (exact absurd nI_0 ‹cmpT 1 (nI 0) 0›) | (exact absurd ‹cmpF 1 (nI 1) 0› nI1_ne) | (show wp _ _ _ _ _ _ _ _ _ _ _ _; conv => whnf) | (simp (disch := omega) only [nI_add, nI_mul, setN_now, setN_put, nI_cl, Nat.add_zero]) | (refine hcall _ _ _ _ ?_; first | (refine y_total hR ?_) | (refine q_total hR ?_) | fail))
  all_goals first
    | exact h _ _ _ _ _ _ (Rel_B hR (by omega))
    | (exfalso; exact (by assumption : cmpF 0 _ _) rfl)
    | (clear h hX hcall; simp (disch := omega) only [nI_toI, nI_cl, nI_add]; omega)
    | (exfalso; omega)
set_option maxHeartbeats 4000000 in
set_option maxRecDepth 100000 in
theorem law_wouldReach (hX : walkL call L xs Q0 X) (hcall : callL call L xs f) (hR : Rel s F G n m T B) (hB1 : 1 ≤ B) (hB2 : B < 1000) (hi : i + 6 ≤ L) (hL : L ≤ 3072) (h : ∀ s' F' G' n' m' T', Rel s' F' G' n' m' T' (B + 1) → X 1058 (lsL i) [] s') : X 929 (lsL i) [] s := by
  refine hX 1000 929 _ _ _ ?_
  repeat' (first | (intro hc) | (refine And.intro ?_ ?_) | (exact absurd nI_0 ‹cmpF 0 (nI 0) 0›) | (exact absurd ‹cmpT 0 (nI 1) 0› nI1_ne) | (exact absurd nI_0 ‹cmpT 1 (nI 0) 0›) | (exact absurd ‹cmpF 1 (nI 1) 0› nI1_ne) | (show wp _ _ _ _ _ _ _ _ _ _ _ _; conv => whnf) | (simp (disch := omega) only [nI_add, nI_mul, setN_now, setN_put, nI_cl, Nat.add_zero]) | (refine hcall _ _ _ _ ?_; first | (refine x_wouldReach hR.1 (fun s1 f1 c1 => ?_)) | (refine q_wouldReach hR (by assumption) (fun G1 F1 g1 g2 => ?_)) | fail))
  all_goals first
    | exact h _ _ _ _ _ _ (Rel_B (Rel_NK (CL_fg g1 g2 c1) (Oth_fr f1 hR.oth)) (by omega))
    | (exfalso; exact (by assumption : cmpF 0 _ _) rfl)
    | (clear h hX hcall; simp (disch := omega) only [nI_toI, nI_cl, nI_add]; omega)
    | (exfalso; omega)
set_option maxHeartbeats 4000000 in
set_option maxRecDepth 100000 in
theorem law_wouldAsk (hX : walkL call L xs Q0 X) (hcall : callL call L xs f) (hR : Rel s F G n m T B) (hB1 : 1 ≤ B) (hB2 : B < 1000) (hi : i + 6 ≤ L) (hL : L ≤ 3072) (h : ∀ s' F' G' n' m' T', Rel s' F' G' n' m' T' (B + 1) → X 1058 (lsL i) [] s') : X 982 (lsL i) [] s := by
  refine hX 1000 982 _ _ _ ?_
  repeat' (first | (intro hc) | (refine And.intro ?_ ?_) | (exact absurd nI_0 ‹cmpF 0 (nI 0) 0›) | (exact absurd ‹cmpT 0 (nI 1) 0› nI1_ne) | (exact absurd nI_0 ‹cmpT 1 (nI 0) 0›) | (exact absurd ‹cmpF 1 (nI 1) 0› nI1_ne) | (show wp _ _ _ _ _ _ _ _ _ _ _ _; conv => whnf) | (simp (disch := omega) only [nI_add, nI_mul, setN_now, setN_put, nI_cl, Nat.add_zero]) | (refine hcall _ _ _ _ ?_; first | (refine x_wouldAsk hR.1 (fun s1 f1 c1 => ?_)) | (refine q_wouldAsk hR (by assumption) (fun G1 F1 g1 g2 => ?_)) | fail))
  all_goals first
    | exact h _ _ _ _ _ _ (Rel_B (Rel_NK (CL_fg g1 g2 c1) (Oth_fr f1 hR.oth)) (by omega))
    | (exfalso; exact (by assumption : cmpF 0 _ _) rfl)
    | (clear h hX hcall; simp (disch := omega) only [nI_toI, nI_cl, nI_add]; omega)
    | (exfalso; omega)
set_option maxHeartbeats 4000000 in
set_option maxRecDepth 100000 in
theorem law_undo (hX : walkL call L xs Q0 X) (hcall : callL call L xs f) (hR : Rel s F G n m T B) (hB1 : 1 ≤ B) (hB2 : B < 1000) (hi : i + 6 ≤ L) (hL : L ≤ 3072) (h : ∀ s' F' G' n' m' T', Rel s' F' G' n' m' T' (B + 1) → X 1058 (lsL i) [] s') : X 583 (lsL i) [] s := by
  refine hX 1000 583 _ _ _ ?_
  repeat' (first | (intro hc) | (refine And.intro ?_ ?_) | (exact absurd nI_0 ‹cmpF 0 (nI 0) 0›) | (exact absurd ‹cmpT 0 (nI 1) 0› nI1_ne) | (exact absurd nI_0 ‹cmpT 1 (nI 0) 0›) | (exact absurd ‹cmpF 1 (nI 1) 0› nI1_ne) | (show wp _ _ _ _ _ _ _ _ _ _ _ _; conv => whnf) | (simp (disch := omega) only [nI_add, nI_mul, setN_now, setN_put, nI_cl, Nat.add_zero]) | (refine hcall _ _ _ _ ?_; first | (refine x_undo hR.1 (fun e0 => ?_) (fun e1 s1 f1 c1 => ?_)) | (refine q_undo hR (by first | assumption | exact Fr.refl) (fun g0 => ?_) (fun g1 => ?_)) | fail))
  all_goals first
    | (exfalso; omega)
    | exact h _ _ _ _ _ _ (Rel_B hR (by omega))
    | exact h _ _ _ _ _ _ (Rel_B (Rel_undo (Oth_fr f1 hR.oth) g1 c1) (by omega))
    | (exfalso; exact (by assumption : cmpF 0 _ _) rfl)
    | (clear h hX hcall; simp (disch := omega) only [nI_toI, nI_cl, nI_add]; omega)
    | (exfalso; omega)
set_option maxHeartbeats 4000000 in
set_option maxRecDepth 100000 in
theorem law_save (hX : walkL call L xs Q0 X) (hcall : callL call L xs f) (hR : Rel s F G n m T B) (hB1 : 1 ≤ B) (hB2 : B < 1000) (hi : i + 6 ≤ L) (hL : L ≤ 3072) (h : ∀ s' F' G' n' m' T', Rel s' F' G' n' m' T' (B + 1) → X 1058 (lsL i) [] s') : X 596 (lsL i) [] s := by
  refine hX 1000 596 _ _ _ ?_
  repeat' (first | (intro hc) | (refine And.intro ?_ ?_) | (exact absurd nI_0 ‹cmpF 0 (nI 0) 0›) | (exact absurd ‹cmpT 0 (nI 1) 0› nI1_ne) | (exact absurd nI_0 ‹cmpT 1 (nI 0) 0›) | (exact absurd ‹cmpF 1 (nI 1) 0› nI1_ne) | (show wp _ _ _ _ _ _ _ _ _ _ _ _; conv => whnf) | (simp (disch := omega) only [nI_add, nI_mul, setN_now, setN_put, nI_cl, Nat.add_zero]) | (refine hcall _ _ _ _ ?_; first | (refine x_save hR.1 (fun e0 => ?_) (fun j1 e1 e2 s1 f1 a1 c1 => ?_)) | (refine q_save hR (by first | rfl | exact funext fun k => f1 20 0 k (by omega)) (by first | rfl | exact funext fun k => f1 21 0 k (by omega)) (fun g0 => ?_) (fun j2 g1 g2 => ?_)) | fail))
  all_goals first
    | exact h _ _ _ _ _ _ (Rel_B hR (by omega))
    | (exfalso; exact e0 (iN_of2 (by assumption) (by assumption)))
    | (exfalso; exact g0 (iN_of2 (by assumption) (by assumption)))
    | (have e : j2 = j1 := nI_eqq (by omega) (by omega) (g2.symm.trans e2); subst e; exact h _ _ _ _ _ _ (Rel_B (Rel_save hR.oth g1 a1.1 a1.2 f1 c1) (by omega)))
    | (exfalso; exact (by assumption : cmpF 0 _ _) rfl)
    | (clear h hX hcall; simp (disch := omega) only [nI_toI, nI_cl, nI_add]; omega)
    | (exfalso; omega)
set_option maxHeartbeats 4000000 in
set_option maxRecDepth 100000 in
theorem law_restore (hX : walkL call L xs Q0 X) (hcall : callL call L xs f) (hR : Rel s F G n m T B) (hB1 : 1 ≤ B) (hB2 : B < 1000) (hi : i + 6 ≤ L) (hL : L ≤ 3072) (h : ∀ s' F' G' n' m' T', Rel s' F' G' n' m' T' (B + 1) → X 1058 (lsL i) [] s') : X 619 (lsL i) [] s := by
  refine hX 1000 619 _ _ _ ?_
  repeat' (first | (intro hc) | (refine And.intro ?_ ?_) | (exact absurd nI_0 ‹cmpF 0 (nI 0) 0›) | (exact absurd ‹cmpT 0 (nI 1) 0› nI1_ne) | (exact absurd nI_0 ‹cmpT 1 (nI 0) 0›) | (exact absurd ‹cmpF 1 (nI 1) 0› nI1_ne) | (show wp _ _ _ _ _ _ _ _ _ _ _ _; conv => whnf) | (simp (disch := omega) only [nI_add, nI_mul, setN_now, setN_put, nI_cl, Nat.add_zero]) | (refine hcall _ _ _ _ ?_; first | (refine x_restore hR.1 (fun e0 => ?_) (fun j1 e1 e2 e3 => ?_) (fun j1 e1 e2 e3 s1 f1 c1 => ?_)) | (refine q_restore hR (by first | assumption | exact Fr.refl) (fun g0 => ?_) (fun j2 g1 g2 g3 => ?_) (fun j2 g1 g2 g3 => ?_)) | fail))
  all_goals first
    | exact h _ _ _ _ _ _ (Rel_B hR (by omega))
    | (exfalso; exact e0 (iN_of2 (by assumption) (by assumption)))
    | (exfalso; exact g0 (iN_of2 (by assumption) (by assumption)))
    | (exfalso; have e : j2 = j1 := nI_eqq (by omega) (by omega) (g2.symm.trans e2); subst e; exact g3 ((hR.2.2.1 _ g1).mp e3))
    | (exfalso; have e : j2 = j1 := nI_eqq (by omega) (by omega) (g2.symm.trans e2); subst e; exact e3 ((hR.2.2.1 _ g1).mpr ((f1 22 0 _ (by omega)).symm.trans g3)))
    | (have e : j2 = j1 := nI_eqq (by omega) (by omega) (g2.symm.trans e2); subst e; first | exact h _ _ _ _ _ _ (Rel_B (Rel_restore (Oth_fr f1 hR.oth) hR.hn g1 c1) (by omega)) | (exfalso; exact (by assumption : cmpF 0 _ _) rfl))
    | (exfalso; exact (by assumption : cmpF 0 _ _) rfl)
    | (clear h hX hcall; simp (disch := omega) only [nI_toI, nI_cl, nI_add]; omega)
    | (exfalso; omega)
set_option maxHeartbeats 4000000 in
set_option maxRecDepth 100000 in
theorem law_run (hX : walkL call L xs Q0 X) (hcall : callL call L xs f) (hR : Rel s F G n m T B) (hB1 : 1 ≤ B) (hB2 : B < 1000) (hi : i + 6 ≤ L) (hL : L ≤ 3072) (h : ∀ s' F' G' n' m' T', Rel s' F' G' n' m' T' (B + 1) → X 1058 (lsL i) [] s') : X 570 (lsL i) [] s := by
  refine hX 1000 570 _ _ _ ?_
  repeat' (first | (intro hc) | (refine And.intro ?_ ?_) | (exact absurd nI_0 ‹cmpF 0 (nI 0) 0›) | (exact absurd ‹cmpT 0 (nI 1) 0› nI1_ne) | (exact absurd nI_0 ‹cmpT 1 (nI 0) 0›) | (exact absurd ‹cmpF 1 (nI 1) 0› nI1_ne) | (show wp _ _ _ _ _ _ _ _ _ _ _ _; conv => whnf) | (simp (disch := omega) only [nI_add, nI_mul, setN_now, setN_put, nI_cl, Nat.add_zero]) | (refine hcall _ _ _ _ ?_; first | (refine x_run hR.1 hR.tc (fun e0 s1 f1 c1 => ?_) (fun e0 s1 f1 c1 => ?_)) | (refine q_run hR (by assumption) (fun g0 u1 => ?_) (fun g0 u1 => ?_)) | fail))
  all_goals first
    | (exfalso; exact g0 e0)
    | (exfalso; exact e0 g0)
    | exact h _ _ _ _ _ _ (Rel_B (Rel_NK (CL_kc KC_A c1) (Oth_A (Oth_frT f1 hR.oth))) (by omega))
    | exact h _ _ _ _ _ _ (Rel_B (Rel_NK (CL_kc ((KC_put (by omega)).trans KC_A) c1) (Oth_A (Oth_put (Oth_frT f1 hR.oth)))) (by omega))
    | (exfalso; exact (by assumption : cmpF 0 _ _) rfl)
    | (clear h hX hcall; simp (disch := omega) only [nI_toI, nI_cl, nI_add]; omega)
    | (exfalso; omega)
set_option maxHeartbeats 4000000 in
set_option maxRecDepth 100000 in
theorem law_faultPosition (hX : walkL call L xs Q0 X) (hcall : callL call L xs f) (hR : Rel s F G n m T B) (hB1 : 1 ≤ B) (hB2 : B < 1000) (hi : i + 6 ≤ L) (hL : L ≤ 3072) (h : ∀ s' F' G' n' m' T', Rel s' F' G' n' m' T' (B + 1) → X 1058 (lsL i) [] s') : X 557 (lsL i) [] s := by
  refine hX 1000 557 _ _ _ ?_
  repeat' (first | (intro hc) | (refine And.intro ?_ ?_) | (exact absurd nI_0 ‹cmpF 0 (nI 0) 0›) | (exact absurd ‹cmpT 0 (nI 1) 0› nI1_ne) | (exact absurd nI_0 ‹cmpT 1 (nI 0) 0›) | (exact absurd ‹cmpF 1 (nI 1) 0› nI1_ne) | (show wp _ _ _ _ _ _ _ _ _ _ _ _; conv => whnf) | (simp (disch := omega) only [nI_add, nI_mul, setN_now, setN_put, nI_cl, Nat.add_zero]) | (refine hcall _ _ _ _ ?_; first | (refine x_faultPosition hR.tc (fun u1 => ?_)) | (refine r_faultPos (Oth_frT FrT_B hR.oth).2.2.2 (fun u2 => ?_)) | fail))
  all_goals first
    | exact h _ _ _ _ _ _ (Rel_B (KC_B hR) (by omega))
    | (exfalso; exact (by assumption : cmpF 0 _ _) rfl)
    | (clear h hX hcall; simp (disch := omega) only [nI_toI, nI_cl, nI_add]; omega)
    | (exfalso; omega)
theorem y_clearText (hR : Rel s F G n m T B) (h : Q (some (.inl (nI m))) (putV s 0 0 1 (nI 0))) : wpM L xs codT retT (f + 1) m_X9_clearText [.inr (9, 0)] s Q := by
  refine x_clearText ?_
  rw [hR.tc.2.1]
  exact h
theorem q_clearText (hR : Rel s F G n m T B) (h : Q (some (.inl (nI m))) (putV (putV s 0 0 1 (nI 0)) 10 0 5 (nI 0))) : wpM L xs codT retT (f + 1) m_X10_clearText [.inr (10, 0)] (putV s 0 0 1 (nI 0)) Q := by
  refine r_clearText ?_
  have e : (putV s 0 0 1 (nI 0)).1 10 0 5 = nI m := (putV_ne (by omega)).trans hR.tr.2.1
  rw [e]
  exact h
set_option maxHeartbeats 4000000 in
set_option maxRecDepth 100000 in
theorem law_clearText (hX : walkL call L xs Q0 X) (hcall : callL call L xs f) (hR : Rel s F G n m T B) (hB1 : 1 ≤ B) (hB2 : B < 1000) (hi : i + 6 ≤ L) (hL : L ≤ 3072) (h : ∀ s' F' G' n' m' T', Rel s' F' G' n' m' T' (B + 1) → X 1058 (lsL i) [] s') : X 544 (lsL i) [] s := by
  refine hX 1000 544 _ _ _ ?_
  repeat' (first | (intro hc) | (refine And.intro ?_ ?_) | (exact absurd nI_0 ‹cmpF 0 (nI 0) 0›) | (exact absurd ‹cmpT 0 (nI 1) 0› nI1_ne) | (exact absurd nI_0 ‹cmpT 1 (nI 0) 0›) | (exact absurd ‹cmpF 1 (nI 1) 0› nI1_ne) | (show wp _ _ _ _ _ _ _ _ _ _ _ _; conv => whnf) | (simp (disch := omega) only [nI_add, nI_mul, setN_now, setN_put, nI_cl, Nat.add_zero]) | (refine hcall _ _ _ _ ?_; first | (refine y_clearText hR ?_) | (refine q_clearText hR ?_) | fail))
  all_goals first
    | exact h _ _ _ _ _ _ (Rel_B (Rel_clear hR) (by omega))
    | (exfalso; exact (by assumption : cmpF 0 _ _) rfl)
    | (clear h hX hcall; simp (disch := omega) only [nI_toI, nI_cl, nI_add]; omega)
    | (exfalso; omega)
theorem txtR_app (h : txtR s T m) : txtR (putV (putV s 19 0 m x) 0 0 1 y) T m := txtR_of (fun i => (putV_ne (by omega)).trans (putV_ne (by omega))) ((putV_ne (by omega)).trans (putV_ne (by omega))) h
set_option maxHeartbeats 4000000 in
set_option maxRecDepth 100000 in
theorem law_append (hX : walkL call L xs Q0 X) (hcall : callL call L xs f) (hR : Rel s F G n m T B) (hB1 : 1 ≤ B) (hB2 : B < 1000) (hi : i + 6 ≤ L) (hL : L ≤ 3072) (h : ∀ s' F' G' n' m' T', Rel s' F' G' n' m' T' (B + 1) → X 1058 (lsL i) [] s') : X 521 (lsL i) [] s := by
  refine hX 1000 521 _ _ _ ?_
  repeat' (first | (intro hc) | (refine And.intro ?_ ?_) | (exact absurd nI_0 ‹cmpF 0 (nI 0) 0›) | (exact absurd ‹cmpT 0 (nI 1) 0› nI1_ne) | (exact absurd nI_0 ‹cmpT 1 (nI 0) 0›) | (exact absurd ‹cmpF 1 (nI 1) 0› nI1_ne) | (show wp _ _ _ _ _ _ _ _ _ _ _ _; conv => whnf) | (simp (disch := omega) only [nI_add, nI_mul, setN_now, setN_put, nI_cl, Nat.add_zero]) | (refine hcall _ _ _ _ ?_; first | (refine x_append hR.tc (fun e0 => ?_) (fun e0 e1 => ?_) (fun d1 e0 e1 e2 e3 => ?_)) | (refine r_append hR.tr (fun g0 => ?_) (fun g0 g1 => ?_) (fun d2 g0 g1 g2 g3 => ?_)) | (refine r_append (txtR_app hR.tr) (fun g0 => ?_) (fun g0 g1 => ?_) (fun d2 g0 g1 g2 g3 => ?_)) | fail))
  all_goals first
    | exact h _ _ _ _ _ _ (Rel_B hR (by omega))
    | (have e : d2 = d1 := nI_eqq (by omega) (by omega) (g0.symm.trans e0); subst e; exact h _ _ _ _ _ _ (Rel_B (Rel_add hR (by omega) (by omega)) (by omega)))
    | (exfalso; clear h hX hcall; have e5 := hR.m8; simp (disch := omega) only [e0, nI_toI] at *; omega)
    | (exfalso; clear h hX hcall; have e5 := hR.m8; simp (disch := omega) only [g0, nI_toI] at *; omega)
    | (exfalso; exact (by assumption : cmpF 0 _ _) rfl)
    | (clear h hX hcall; simp (disch := omega) only [nI_toI, nI_cl, nI_add]; omega)
    | (exfalso; omega)
end LAW2
