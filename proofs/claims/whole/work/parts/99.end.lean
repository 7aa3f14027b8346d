/-! BOTH SIDES: after a call -/
def Oth (s : St) (n m : Nat) (T : Nat → Nat) : Prop := s.1 10 0 3 = nI n ∧ (∀ j, j < 2 → (s.1 18 0 j = 0 ↔ s.1 22 0 j = 0)) ∧ txtC s T m ∧ txtR s T m
section REL2
variable {i j k n n' m w d B : Nat} {s s' s1 : St} {F F' G G' u : Fm} {T : Nat → Nat} {o : Int32 × Fm} {x : Int32}
theorem txtC_of (h : ∀ i, s'.1 19 0 i = s.1 19 0 i) (h2 : s'.1 0 0 1 = s.1 0 0 1) (ht : txtC s T m) : txtC s' T m := ⟨fun i hi => (h i).trans (ht.1 i hi), h2.trans ht.2.1, ht.2.2⟩
theorem Oth_kc (hk : KC s s') (h10 : s'.1 10 0 3 = nI n') (h5 : s'.1 10 0 5 = s.1 10 0 5) (h22 : ∀ j, j < 2 → s'.1 22 0 j = s.1 22 0 j) (h23 : ∀ i, s'.1 23 0 i = s.1 23 0 i) (h : Oth s n m T) : Oth s' n' m T := ⟨h10, fun j hj => by
  rw [hk.1 18 0 j (by omega) (by omega), h22 j hj]
  exact h.2.1 j hj, txtC_of (fun i => hk.1 19 0 i (by omega) (by omega)) (hk.1 0 0 1 (by omega) (by omega)) h.2.2.1, txtR_of h23 h5 h.2.2.2⟩
theorem Oth_NK (h : Oth s n m T) : Oth (setN (setK s G) F) n m T := Oth_kc KC_NK ((NK_o (by omega) (by omega)).trans h.1) (NK_o (by omega) (by omega)) (fun j _ => NK_o (by omega) (by omega)) (fun i => NK_o (by omega) (by omega)) h
theorem Oth_A (h : Oth s n m T) : Oth (setA s u) n m T := Oth_kc KC_A ((setA_y (by omega)).trans h.1) (setA_y (by omega)) (fun j _ => setA_o (by omega)) (fun i => setA_o (by omega)) h
theorem Oth_put (h : Oth s n m T) : Oth (putV s 10 0 3 (nI n')) n' m T := Oth_kc (KC_put (by omega)) putV_at (putV_ne (by omega)) (fun j _ => putV_ne (by omega)) (fun i => putV_ne (by omega)) h
theorem Rel_NK (hC : CL s F G n B) (h : Oth s n m T) : Rel (setN (setK s G) F) F G n m T B := ⟨CL_kc KC_NK hC, ⟨NK_20, NK_21, (Oth_NK h).1⟩, (Oth_NK h).2⟩
theorem Rel.oth (h : Rel s F G n m T B) : Oth s n m T := ⟨h.2.1.2.2, h.2.2⟩
theorem Oth_fr (hf : Fr s s') (h : Oth s n m T) : Oth s' n m T := ⟨(hf 10 0 3 (by omega)).trans h.1, fun j hj => by
  rw [hf 18 0 j (by omega), hf 22 0 j (by omega)]
  exact h.2.1 j hj, (FrT_of hf).txt h.2.2.1, txtR_of (fun i => hf 23 0 i (by omega)) (hf 10 0 5 (by omega)) h.2.2.2⟩
theorem Rel.NK (h : Rel s F G n m T B) (hf : Fr s s') : setN (setK s' G) F = s' := NK_self ((hf.row (by omega)).trans h.2.1.1) ((hf.row (by omega)).trans h.2.1.2.1)
theorem Rel_rec (h : Oth s n m T) (hC : CL s (nxF F o) (nxG G F n o) (nxN n o) B) : Rel (doneS s G F n o) (nxF F o) (nxG G F n o) (nxN n o) m T B := by
  unfold doneS nxF nxG nxN at *
  by_cases q : o.1.toInt < 0
  · simp only [if_pos q] at *
    exact Rel_NK hC h
  · simp only [if_neg q] at *
    exact Rel_NK (CL_kc (KC_put (by omega)) hC) (Oth_put h)
theorem Rel_B (h : Rel s F G n m T B) {B' : Nat} (hB : B ≤ B') : Rel s F G n m T B' := ⟨CL_mono h.1 hB, h.2⟩
theorem Rel_undo (h : Oth s n m T) (hn : 0 < n) (hC : CL s (rowG G (n - 1)) G (n - 1) B) : Rel (setN (setK (putV s 10 0 3 (nI (n - 1))) G) (mixF F (fun k => G (509 * (n - 1) + k)))) (mixF F (fun k => G (509 * (n - 1) + k))) G (n - 1) m T B := Rel_NK (CL_kc (KC_put (by omega)) (CL_fg (fun i hi => if_pos hi) (fun _ _ => rfl) hC)) (Oth_put h)
theorem Rel_restore (h : Oth s n m T) (hn : n ≤ 5) (hj : j < 2) (hC : CL s (rowG G (5 + j)) (recG G F n) (recN n) B) : Rel (setN (setK (putV s 10 0 3 (nI (recN n))) (recG G F n)) (mixF F (fun k => recG G F n (509 * (5 + j) + k)))) (mixF F (fun k => recG G F n (509 * (5 + j) + k))) (recG G F n) (recN n) m T B := Rel_NK (CL_kc (KC_put (by omega)) (CL_fg (fun i hi => (if_pos hi).trans (rec_sav (k := i) (G := G) (F0 := F) hn hj)) (fun _ _ => rfl) hC)) (Oth_put h)
theorem Rel_save (h : Oth s n m T) (hj : j < 2) (a1 : s'.1 18 0 j = nI 1) (a2 : ∀ k, k ≠ j → s'.1 18 0 k = s.1 18 0 k) (hf : ∀ c i k, (c = 0 ∨ c = 19 ∨ c = 10 ∨ 20 ≤ c) → s'.1 c i k = s.1 c i k) (hC : CL s' F (keepG G F (5 + j)) n B) : Rel (setN (setK (putV s' 22 0 j (nI 1)) (keepG G F (5 + j))) F) F (keepG G F (5 + j)) n m T B := by
  refine Rel_NK (CL_kc (KC_put (by omega)) hC) ⟨(putV_ne (by omega)).trans ((hf 10 0 3 (by omega)).trans h.1), fun i hi => ?_, txtC_of (fun i => (putV_ne (by omega)).trans (hf 19 0 i (by omega))) ((putV_ne (by omega)).trans (hf 0 0 1 (by omega))) h.2.2.1, txtR_of (fun i => (putV_ne (by omega)).trans (hf 23 0 i (by omega))) ((putV_ne (by omega)).trans (hf 10 0 5 (by omega))) h.2.2.2⟩
  rw [putV_ne (by omega)]
  by_cases q : i = j
  · subst q
    rw [putV_at, a1]
  · rw [putV_ne (by omega), a2 i q, hf 22 0 i (by omega)]
    exact h.2.1 i hi
theorem Rel_add (h : Rel s F G n m T B) (hm : m < 80) (hd : d < 128) : Rel (putV (putV (putV (putV s 19 0 m (nI d)) 0 0 1 (nI (m + 1))) 23 0 m (nI d)) 10 0 5 (nI (m + 1))) F G n (m + 1) (fun i => if i = m then d else T i) B := by
  obtain ⟨hC, ⟨a, b, c⟩, e, t1, t2⟩ := h
  have o : ∀ c i k, c ≠ 19 → (c ≠ 0 ∨ k ≠ 1) → c ≠ 23 → (c ≠ 10 ∨ k ≠ 5) → (putV (putV (putV (putV s 19 0 m (nI d)) 0 0 1 (nI (m + 1))) 23 0 m (nI d)) 10 0 5 (nI (m + 1))).1 c i k = s.1 c i k := fun c i k p1 p2 p3 p4 => ((putV_ne (by omega)).trans (putV_ne (by omega))).trans ((putV_ne (by omega)).trans (putV_ne (by omega)))
  refine ⟨CL_k0 ⟨fun c i k p1 p2 p3 => o c i k (by omega) (by omega) (by omega) (by omega), fun _ _ => rfl⟩ hC, ⟨(funext fun i => o 20 0 i (by omega) (by omega) (by omega) (by omega)).trans a, (funext fun i => o 21 0 i (by omega) (by omega) (by omega) (by omega)).trans b, (o 10 0 3 (by omega) (by omega) (by omega) (by omega)).trans c⟩, fun j hj => ?_, ⟨fun i hi => ?_, ?_, by omega, fun i => ?_⟩, ⟨fun i hi => ?_, putV_at, by omega, fun i => ?_⟩⟩
  · rw [o 18 0 j (by omega) (by omega) (by omega) (by omega), o 22 0 j (by omega) (by omega) (by omega) (by omega)]
    exact e j hj
  · show _ = nI (if i = m then d else T i)
    rw [putV_ne (by omega), putV_ne (by omega), putV_ne (by omega)]
    by_cases q : i = m
    · subst q
      rw [putV_at, if_pos rfl]
    · rw [putV_ne (by omega), if_neg q]
      exact t1.1 i (by omega)
  · rw [putV_ne (by omega), putV_ne (by omega), putV_at]
  · show (if i = m then d else T i) < 128
    by_cases q : i = m
    · rw [if_pos q]; exact hd
    · rw [if_neg q]; exact t1.2.2.2 i
  · show _ = nI (if i = m then d else T i)
    rw [putV_ne (by omega)]
    by_cases q : i = m
    · subst q
      rw [putV_at, if_pos rfl]
    · rw [putV_ne (by omega), putV_ne (by omega), putV_ne (by omega), if_neg q]
      exact t2.1 i (by omega)
  · show (if i = m then d else T i) < 128
    by_cases q : i = m
    · rw [if_pos q]; exact hd
    · rw [if_neg q]; exact t2.2.2.2 i
theorem Rel_clear (h : Rel s F G n m T B) : Rel (putV (putV s 0 0 1 (nI 0)) 10 0 5 (nI 0)) F G n 0 T B := by
  obtain ⟨hC, ⟨a, b, c⟩, e, t1, t2⟩ := h
  have o : ∀ c i k, (c ≠ 0 ∨ k ≠ 1) → (c ≠ 10 ∨ k ≠ 5) → (putV (putV s 0 0 1 (nI 0)) 10 0 5 (nI 0)).1 c i k = s.1 c i k := fun c i k p1 p2 => (putV_ne (by omega)).trans (putV_ne (by omega))
  refine ⟨CL_k0 ⟨fun c i k p1 p2 p3 => o c i k (by omega) (by omega), fun _ _ => rfl⟩ hC, ⟨(funext fun i => o 20 0 i (by omega) (by omega)).trans a, (funext fun i => o 21 0 i (by omega) (by omega)).trans b, (o 10 0 3 (by omega) (by omega)).trans c⟩, fun j hj => ?_, ⟨fun i hi => by omega, ?_, by omega, t1.2.2.2⟩, ⟨fun i hi => by omega, putV_at, by omega, t2.2.2.2⟩⟩
  · rw [o 18 0 j (by omega) (by omega), o 22 0 j (by omega) (by omega)]
    exact e j hj
  · rw [putV_ne (by omega), putV_at]
end REL2

theorem i_vc : Claimed_1_1 ∧ Claimed_1_2 := sorry
