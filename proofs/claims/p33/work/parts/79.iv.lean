/-! THE WORLD THAT THE LAW SEES: the class's, with its counts; what a turn does to it -/
section IVS
variable {L : Nat} {xs : Nat → Int32} {i j k n r w a0 B : Nat} {x y v a b : Int32} {s s' : St} {F G F' G' : Fm} {b0 : Nat → Int32}
theorem CL_fg (hF : ∀ i, i < 509 → F' i = F i) (hG : ∀ i, i < 3563 → G' i = G i) (h : CL s F G n B) : CL s F' G' n B := by
  obtain ⟨hp, ⟨hR, hW⟩, ⟨q, h1, h2, h3, h4, h5⟩, hs⟩ := h
  have hg : ∀ c, c < 7 → ∀ k, k < 509 → rowG G' c k = rowG G c k := fun c hc7 k hk => hG _ (by omega)
  refine ⟨hp, ⟨RepW_F hW.1 hF hR, WFh_F hF hW⟩, ⟨q, h1, h2, h3, h4, fun i hi => ?_⟩, fun j hj => ⟨(hs j hj).1, fun e => ?_⟩⟩
  · exact ⟨RepW_F (h5 i hi).2.1 (hg i (by omega)) (h5 i hi).1, WFh_F (hg i (by omega)) (h5 i hi).2⟩
  · exact ⟨RepW_F ((hs j hj).2 e).2.1 (hg (5 + j) (by omega)) ((hs j hj).2 e).1, WFh_F (hg (5 + j) (by omega)) ((hs j hj).2 e).2⟩
def IV (s : St) (F G : Fm) (n B : Nat) : Prop := CL s F G n B ∧ CN F B ∧ (∀ i, i < n → CN (rowG G i) B) ∧ ∀ j, j < 2 → ¬ s.1 18 0 j = 0 → CN (rowG G (5 + j)) B
theorem CL.n5 (h : CL s F G n B) : n ≤ 5 := by
  obtain ⟨-, -, ⟨o, h1, h2, -⟩, -⟩ := h
  exact h2
theorem CL.cnt (h : CL s F G n B) : s.1 3 0 2 = nI n := by
  obtain ⟨-, -, ⟨o, h1, h2, h3, h4, -⟩, -⟩ := h
  exact h4
theorem CL.hrow (h : CL s F G n B) (hi : i < n) : WF (rowG G i) B := by
  obtain ⟨-, -, ⟨o, h1, h2, h3, h4, h5⟩, -⟩ := h
  exact (h5 i hi).2.1
theorem CL.hsav (h : CL s F G n B) (hj : j < 2) (e : ¬ s.1 18 0 j = 0) : WFh (rowG G (5 + j)) B := ((h.2.2.2 j hj).2 e).2
theorem IV.cl (h : IV s F G n B) : CL s F G n B := h.1
theorem IV.hw (h : IV s F G n B) : WF F B := h.1.2.1.2.1
theorem IV.hR (h : IV s F G n B) : RepW s 0 F := h.1.2.1.1
theorem sav_eq (hn : n ≤ 5) (hj : j < 2) : rowG (recG G F n) (5 + j) = rowG G (5 + j) := funext fun k => rec_sav hn hj
theorem rows_cn (h : IV s F G n B) (hi : i < recN n) : CN (rowG (recG G F n) i) B := by
  have hn := h.1.n5
  by_cases e : i + 1 = recN n
  · exact CN_cg h.hw (fun k hk => by rw [rec_row hn hi hk, if_pos e]) h.2.1
  · by_cases e5 : n = 5
    · have hi5 : i + 1 < n := by unfold recN at hi e; rw [if_pos e5] at hi e; omega
      exact CN_cg (h.1.hrow hi5) (fun k hk => by rw [rec_row hn hi hk, if_neg e, if_pos e5]) (h.2.2.1 _ hi5)
    · have hin : i < n := by unfold recN at hi e; rw [if_neg e5] at hi e; omega
      exact CN_cg (h.1.hrow hin) (fun k hk => by rw [rec_row hn hi hk, if_neg e, if_neg e5]) (h.2.2.1 _ hin)
theorem IV_B (h : IV s F G n B) {B' : Nat} (hB : B ≤ B') : IV s F G n B' := ⟨CL_mono h.1 hB, CN_mono hB h.2.1, fun i hi => CN_mono hB (h.2.2.1 i hi), fun j hj e => CN_mono hB (h.2.2.2 j hj e)⟩
/-- behind a call that is recorded -/
theorem IV_pos {o : Int32 × Fm} (h : IV s F G n B) (hf : Fr s s') (hC : CL s' (nxF F o) (nxG G F n o) (nxN n o) (B + 1)) (h0 : 0 ≤ o.1.toInt) (ho : CN o.2 (B + 1)) : IV s' o.2 (recG G F n) (recN n) (B + 1) := by
  have hn := h.1.n5
  unfold nxF nxG nxN at hC
  rw [if_neg (by omega), if_neg (by omega), if_neg (by omega)] at hC
  refine ⟨hC, ho, fun i hi => CN_mono (by omega) (rows_cn h hi), fun j hj e => ?_⟩
  rw [sav_eq hn hj]
  rw [hf 18 0 j (by omega)] at e
  exact CN_mono (by omega) (h.2.2.2 j hj e)
theorem IV_neg {o : Int32 × Fm} (h : IV s F G n B) (hf : Fr s s') (hC : CL s' (nxF F o) (nxG G F n o) (nxN n o) (B + 1)) (h0 : o.1.toInt < 0) : IV s' F G n (B + 1) := by
  unfold nxF nxG nxN at hC
  rw [if_pos h0, if_pos h0, if_pos h0] at hC
  refine ⟨hC, CN_mono (by omega) h.2.1, fun i hi => CN_mono (by omega) (h.2.2.1 i hi), fun j hj e => ?_⟩
  rw [hf 18 0 j (by omega)] at e
  exact CN_mono (by omega) (h.2.2.2 j hj e)
/-- undo behind a call that is recorded: the world as before -/
theorem IV_undo {F1 : Fm} (h : IV s F1 G n B) (hn : 0 < n) (hF : ∀ k, k < 509 → rowG G (n - 1) k = F k) (hf : Fr s s') (hC : CL s' (rowG G (n - 1)) G (n - 1) B) : IV s' F G (n - 1) B := by
  refine ⟨CL_fg (fun i hi => (hF i hi).symm) (fun _ _ => rfl) hC, CN_cg (h.1.hrow (by omega)) (fun i hi => (hF i hi).symm) (h.2.2.1 _ (by omega)), fun i hi => h.2.2.1 i (by omega), fun j hj e => ?_⟩
  rw [hf 18 0 j (by omega)] at e
  exact h.2.2.2 j hj e
theorem rec_last (hn : n ≤ 5) : ∀ k, k < 509 → rowG (recG G F n) (recN n - 1) k = F k := by
  intro k hk
  have h1 : 1 ≤ recN n := by unfold recN; split <;> omega
  rw [rec_row hn (by omega) hk, if_pos (by omega)]
theorem recN_pos : 1 ≤ recN n := by unfold recN; split <;> omega
theorem recN_le (h : n ≤ 5) : recN n ≤ 5 := by unfold recN; split <;> omega
theorem recN_again (h : n ≤ 5) : recN (recN n - 1) = recN n := by
  unfold recN
  by_cases e : n = 5
  · rw [if_pos e]
    rw [if_neg (by omega)]
  · rw [if_neg e, if_neg (by omega)]
    omega
/-- a turn is a call that is recorded -/
theorem turn_op (hk : k < 16) : isOp F (turnF b0 G F k a b) ∨ (k = 15 ∧ nn (b &&& nI 7) = 6 ∧ turnF b0 G F k a b = restO b0 G F a) := by
  have hk : k = 0 ∨ k = 1 ∨ k = 2 ∨ k = 3 ∨ k = 4 ∨ k = 5 ∨ k = 6 ∨ k = 7 ∨ k = 8 ∨ k = 9 ∨ k = 10 ∨ k = 11 ∨ k = 12 ∨ k = 13 ∨ k = 14 ∨ k = 15 := by omega
  rcases hk with rfl | rfl | rfl | rfl | rfl | rfl | rfl | rfl | rfl | rfl | rfl | rfl | rfl | rfl | rfl | rfl
  · exact Or.inl (Or.inl ⟨_, _, _, rfl⟩)
  · exact Or.inl (Or.inr (Or.inl ⟨_, _, _, rfl⟩))
  · exact Or.inl (Or.inr (Or.inr (Or.inl rfl)))
  · exact Or.inl (Or.inr (Or.inr (Or.inr (Or.inl ⟨_, _, _, _, _, rfl⟩))))
  · exact Or.inl (Or.inr (Or.inr (Or.inr (Or.inl ⟨_, _, _, _, _, rfl⟩))))
  · exact Or.inl (Or.inr (Or.inr (Or.inr (Or.inr (Or.inl ⟨_, _, rfl⟩)))))
  · exact Or.inl (Or.inr (Or.inr (Or.inr (Or.inr (Or.inr (Or.inl ⟨_, rfl⟩))))))
  · exact Or.inl (Or.inr (Or.inr (Or.inr (Or.inr (Or.inr (Or.inl ⟨_, rfl⟩))))))
  · left
    show isOp F (if b &&& nI 1 = 0 then unregF F (upV a (nI 5)) else lifeF F (nI 1 + upV (shV b 1) (nI 20)))
    split
    · exact (Or.inr (Or.inr (Or.inr (Or.inr (Or.inr (Or.inr (Or.inl ⟨_, rfl⟩)))))))
    · exact (Or.inr (Or.inr (Or.inr (Or.inr (Or.inr (Or.inr (Or.inr (Or.inl ⟨_, rfl⟩))))))))
  · left
    show isOp F (if b &&& nI 7 = 0 then forgetF F (upV a (nI 3)) else passF F (nI 1 + upV b (nI 6)))
    split
    · exact (Or.inr (Or.inr (Or.inr (Or.inr (Or.inr (Or.inr (Or.inr (Or.inr (Or.inr (Or.inl ⟨_, rfl⟩))))))))))
    · exact (Or.inr (Or.inr (Or.inr (Or.inr (Or.inr (Or.inr (Or.inr (Or.inr (Or.inl ⟨_, rfl⟩)))))))))
  · exact Or.inl (Or.inr (Or.inr (Or.inr (Or.inr (Or.inr (Or.inr (Or.inr (Or.inr (Or.inr (Or.inr ⟨_, _, _, rfl⟩))))))))))
  · exact Or.inl (Or.inr (Or.inr (Or.inr (Or.inr (Or.inr (Or.inr (Or.inr (Or.inr (Or.inr (Or.inr ⟨_, _, _, rfl⟩))))))))))
  · exact Or.inl (Or.inr (Or.inr (Or.inr (Or.inr (Or.inr (Or.inr (Or.inr (Or.inr (Or.inr (Or.inr ⟨_, _, _, rfl⟩))))))))))
  · exact Or.inl (Or.inr (Or.inr (Or.inr (Or.inr (Or.inr (Or.inr (Or.inr (Or.inr (Or.inr (Or.inr ⟨_, _, _, rfl⟩))))))))))
  · exact Or.inl (Or.inr (Or.inr (Or.inr (Or.inr (Or.inr (Or.inr (Or.inr (Or.inr (Or.inr (Or.inr ⟨_, _, _, rfl⟩))))))))))
  · obtain ⟨j, hj, e⟩ := and7 b
    have en : nn (b &&& nI 7) = j := by rw [e]; exact nI_cl (by omega)
    show isOp F (anyF b0 G F (nn (b &&& nI 7)) a b) ∨ (15 = 15 ∧ nn (b &&& nI 7) = 6 ∧ anyF b0 G F (nn (b &&& nI 7)) a b = restO b0 G F a)
    rw [en]
    have hj : j = 0 ∨ j = 1 ∨ j = 2 ∨ j = 3 ∨ j = 4 ∨ j = 5 ∨ j = 6 ∨ j = 7 := by omega
    rcases hj with rfl | rfl | rfl | rfl | rfl | rfl | rfl | rfl
    · exact Or.inl (Or.inl ⟨_, _, _, rfl⟩)
    · exact Or.inl (Or.inr (Or.inl ⟨_, _, _, rfl⟩))
    · exact Or.inl (Or.inr (Or.inr (Or.inr (Or.inl ⟨_, _, _, _, _, rfl⟩))))
    · exact Or.inl (Or.inr (Or.inr (Or.inr (Or.inr (Or.inl ⟨_, _, rfl⟩)))))
    · exact Or.inl (Or.inr (Or.inr (Or.inr (Or.inr (Or.inr (Or.inr (Or.inr (Or.inr (Or.inr (Or.inr ⟨_, _, _, rfl⟩))))))))))
    · exact Or.inl (Or.inr (Or.inr (Or.inr (Or.inr (Or.inr (Or.inr (Or.inr (Or.inr (Or.inl ⟨_, rfl⟩)))))))))
    · exact Or.inr ⟨rfl, rfl, rfl⟩
    · exact Or.inl (Or.inr (Or.inr (Or.inr (Or.inr (Or.inr (Or.inr (Or.inr (Or.inl ⟨_, rfl⟩))))))))
theorem turn_sv (h : ∀ j, j < 2 → rowG G' (5 + j) = rowG G (5 + j)) (hk : k < 16) : turnF b0 G' F k a b = turnF b0 G F k a b := by
  have e : restO b0 G' F a = restO b0 G F a := by
    unfold restO
    by_cases hv : iN a 2
    · obtain ⟨j, hj, hj2⟩ := iN_nn hv (by omega)
      have en : nn a = j := by rw [hj]; exact nI_cl (by omega)
      rw [en, h j hj2]
    · rw [if_pos hv, if_pos hv]
  have hk : k = 0 ∨ k = 1 ∨ k = 2 ∨ k = 3 ∨ k = 4 ∨ k = 5 ∨ k = 6 ∨ k = 7 ∨ k = 8 ∨ k = 9 ∨ k = 10 ∨ k = 11 ∨ k = 12 ∨ k = 13 ∨ k = 14 ∨ k = 15 := by omega
  rcases hk with rfl | rfl | rfl | rfl | rfl | rfl | rfl | rfl | rfl | rfl | rfl | rfl | rfl | rfl | rfl | rfl
  · rfl
  · rfl
  · rfl
  · rfl
  · rfl
  · rfl
  · rfl
  · rfl
  · rfl
  · rfl
  · rfl
  · rfl
  · rfl
  · rfl
  · rfl
  · obtain ⟨j, hj, e2⟩ := and7 b
    have en : nn (b &&& nI 7) = j := by rw [e2]; exact nI_cl (by omega)
    show anyF b0 G' F (nn (b &&& nI 7)) a b = anyF b0 G F (nn (b &&& nI 7)) a b
    rw [en]
    have hj : j = 0 ∨ j = 1 ∨ j = 2 ∨ j = 3 ∨ j = 4 ∨ j = 5 ∨ j = 6 ∨ j = 7 := by omega
    rcases hj with rfl | rfl | rfl | rfl | rfl | rfl | rfl | rfl
    · rfl
    · rfl
    · rfl
    · rfl
    · rfl
    · rfl
    · exact e
    · rfl
theorem turn_cn (h : IV s F G n B) (hB : B < 1000000) (hk : k < 16) (h0 : 0 ≤ (turnF (s.1 18 0) G F k a b).1.toInt) : CN (turnF (s.1 18 0) G F k a b).2 (B + 1) := by
  rcases turn_op (b0 := s.1 18 0) (F := F) (G := G) (a := a) (b := b) hk with h1 | ⟨-, -, h1⟩
  · exact (cn_op h.hw hB h.2.1 h1 h0).1
  · rw [h1] at h0 ⊢
    unfold restO at h0 ⊢
    by_cases hv : iN a 2
    · rw [if_neg (fun q => q hv)] at h0 ⊢
      obtain ⟨j, hj, hj2⟩ := iN_nn hv (by omega)
      have en : nn a = j := by rw [hj]; exact nI_cl (by omega)
      rw [en] at h0 ⊢
      by_cases e : s.1 18 0 j = 0
      · rw [if_pos e] at h0
        exact absurd h0 n3
      · rw [if_neg e]
        exact CN_mono (by omega) (h.2.2.2 j hj2 e)
    · rw [if_pos hv] at h0
      exact absurd h0 n1
theorem turn_mon (h : IV s F G n B) (hB : B < 1000000) (hk : k < 16) (h0 : 0 ≤ (turnF (s.1 18 0) G F k a b).1.toInt) (hn : ¬ (k = 15 ∧ nn (b &&& nI 7) = 6)) : MON (turnF (s.1 18 0) G F k a b).2 F := by
  rcases turn_op (b0 := s.1 18 0) (F := F) (G := G) (a := a) (b := b) hk with h1 | ⟨h1, h2, -⟩
  · exact (cn_op h.hw hB h.2.1 h1 h0).2
  · exact absurd ⟨h1, h2⟩ hn
/-! sums over routers -/
def sI (F : Fm) (w : Nat) : Nat → Int
  | 0 => 0
  | n + 1 => sI F w n + ct F n w
theorem sum_I {M : Int} (hM : M ≤ 400000000) : ∀ n, n ≤ 4 → (∀ r, r < n → 0 ≤ ct F r w ∧ ct F r w ≤ M) → (sumN F w n).toInt = sI F w n ∧ 0 ≤ sI F w n ∧ sI F w n ≤ (n : Int) * M
  | 0, _, _ => ⟨rfl, Int.le_refl _, by show (0 : Int) ≤ ((0 : Nat) : Int) * M; simp⟩
  | n + 1, hn, h => by
    obtain ⟨h1, h2, h3⟩ := sum_I hM n (by omega) (fun r hr => h r (by omega))
    obtain ⟨g1, g2⟩ := h n (by omega)
    have e : ((n + 1 : Nat) : Int) * M = (n : Int) * M + M := by
      rw [Int.natCast_add, Int.add_mul]; simp
    have hb : (n : Int) * M ≤ 4 * 400000000 := by
      have m0 : 0 ≤ M := by omega
      have a1 : (n : Int) * M ≤ 4 * M := Int.mul_le_mul_of_nonneg_right (by omega) m0
      omega
    show (sumN F w n + F (165 + 6 * n + w)).toInt = sI F w n + ct F n w ∧ 0 ≤ sI F w n + ct F n w ∧ sI F w n + ct F n w ≤ _
    rw [e]
    refine ⟨?_, by omega, by omega⟩
    rw [Int32.toInt_add, h1]
    unfold ct at g1 g2 ⊢
    apply Int.bmod_eq_of_le <;> omega
theorem sI_mono : ∀ n, (∀ r, r < n → ct F r w ≤ ct F' r w) → sI F w n ≤ sI F' w n
  | 0, _ => Int.le_refl _
  | n + 1, h => by
    have h1 := sI_mono n (fun r hr => h r (by omega))
    have h2 := h n (by omega)
    show sI F w n + ct F n w ≤ sI F' w n + ct F' n w
    omega
theorem sI_more : ∀ d n, (∀ r, r < n + d → 0 ≤ ct F r w) → sI F w n ≤ sI F w (n + d)
  | 0, n, _ => Int.le_refl _
  | d + 1, n, h => by
    have h1 := sI_more d n (fun r hr => h r (by omega))
    have h2 := h (n + d) (by omega)
    show sI F w n ≤ sI F w (n + d) + ct F (n + d) w
    omega
theorem tot_mono {B' : Nat} (hw : WF F B) (hw' : WF F' B') (hB : B < 1000000) (hB' : B' < 1000000) (hc : CN F B) (hc' : CN F' B') (hm : MON F' F) : (totW F 7).toInt ≤ (totW F' 7).toInt ∧ (totW F 6).toInt ≤ (totW F' 6).toInt := by
  have h4 := hw.r2
  have h4' := hw'.r2
  have key : ∀ w, (w = 1 ∨ w = 3) → (sumN F w (cR F)).toInt ≤ (sumN F' w (cR F')).toInt := by
    intro w hw13
    have b1 : ∀ r, r < cR F → 0 ≤ ct F r w ∧ ct F r w ≤ 400000000 := fun r hr => by
      obtain ⟨⟨q1, q2, q3, q4, q5, q6, q7, q8⟩, -⟩ := hc r hr
      rcases hw13 with rfl | rfl <;> omega
    have b2 : ∀ r, r < cR F' → 0 ≤ ct F' r w ∧ ct F' r w ≤ 400000000 := fun r hr => by
      obtain ⟨⟨q1, q2, q3, q4, q5, q6, q7, q8⟩, -⟩ := hc' r hr
      rcases hw13 with rfl | rfl <;> omega
    rw [(sum_I (Int.le_refl _) _ h4 b1).1, (sum_I (Int.le_refl _) _ h4' b2).1]
    have m1 : sI F w (cR F) ≤ sI F' w (cR F) := sI_mono _ (fun r hr => by
      rcases hw13 with rfl | rfl
      · exact (hm.2 r hr).1
      · exact (hm.2 r hr).2)
    have m2 := sI_more (F := F') (w := w) (cR F' - cR F) (cR F) (fun r hr => (b2 r (by have := hm.1; omega)).1)
    rw [show cR F + (cR F' - cR F) = cR F' by have := hm.1; omega] at m2
    omega
  exact ⟨key 3 (Or.inr rfl), key 1 (Or.inl rfl)⟩
end IVS
