/-! BOTH SIDES IN ONE STORE -/
def KC (s s' : St) : Prop := (∀ c i k, c < 20 → c ≠ 10 → s'.1 c i k = s.1 c i k) ∧ ∀ i j, s'.2 i j = s.2 i j
def KC0 (s s' : St) : Prop := (∀ c i k, c < 19 → c ≠ 10 → c ≠ 0 → s'.1 c i k = s.1 c i k) ∧ ∀ i j, s'.2 i j = s.2 i j
def Rel (s : St) (F G : Fm) (n m : Nat) (T : Nat → Nat) (B : Nat) : Prop := CL s F G n B ∧ (s.1 20 0 = F ∧ s.1 21 0 = G ∧ s.1 10 0 3 = nI n) ∧ (∀ j, j < 2 → (s.1 18 0 j = 0 ↔ s.1 22 0 j = 0)) ∧ txtC s T m ∧ txtR s T m
theorem ownW_k {c i : Nat} (h : ownW c i < 10) : c < 19 ∧ c ≠ 10 ∧ c ≠ 0 := by
  unfold ownW at h
  split at h <;> first
    | exact ⟨by decide, by decide, by decide⟩
    | exact absurd h (by decide)
section REL1
variable {i j k n m w d B : Nat} {s s' s1 : St} {F F' G G' : Fm} {T : Nat → Nat} {o : Int32 × Fm} {x : Int32}
theorem RepW_kc (hw : WF F B) (hp : permOk s) (h10 : w < 10) (hk : KC0 s s') (hR : RepW s w F) : RepW s' w F := RepW_cg hw hp h10 ⟨fun c i k e => hk.1 c i k (ownW_k (by omega : ownW c i < 10)).1 (ownW_k (by omega : ownW c i < 10)).2.1 (ownW_k (by omega : ownW c i < 10)).2.2, fun i j _ => hk.2 i j⟩ hR
theorem CL_k0 (hk : KC0 s s') (h : CL s F G n B) : CL s' F G n B := by
  obtain ⟨hp, ⟨hR, hW⟩, ⟨q, h1, h2, h3, h4, h5⟩, hs⟩ := h
  refine ⟨permOk_of hk.2 hp, ⟨RepW_kc hW.1 hp (by omega) hk hR, hW⟩, ⟨q, h1, h2, (hk.1 3 0 1 (by omega) (by omega) (by omega)).trans h3, (hk.1 3 0 2 (by omega) (by omega) (by omega)).trans h4, fun i hi => ?_⟩, fun j hj => ?_⟩
  · have hm : (q + i) % 6 < 6 := Nat.mod_lt _ (by omega)
    exact ⟨RepW_kc (h5 i hi).2.1 hp (by omega) hk (h5 i hi).1, (h5 i hi).2⟩
  · rw [hk.1 18 0 j (by omega) (by omega) (by omega)]
    exact ⟨(hs j hj).1, fun e => ⟨RepW_kc ((hs j hj).2 e).2.1 hp (by omega) hk ((hs j hj).2 e).1, ((hs j hj).2 e).2⟩⟩
theorem CL_kc (hk : KC s s') (h : CL s F G n B) : CL s' F G n B := CL_k0 ⟨fun c i k a b _ => hk.1 c i k (by omega) b, hk.2⟩ h
theorem CL_fg (hF : ∀ i, i < 509 → F' i = F i) (hG : ∀ i, i < 3563 → G' i = G i) (h : CL s F G n B) : CL s F' G' n B := by
  obtain ⟨hp, ⟨hR, hW⟩, ⟨q, h1, h2, h3, h4, h5⟩, hs⟩ := h
  have hg : ∀ c, c < 7 → ∀ k, k < 509 → rowG G' c k = rowG G c k := fun c hc7 k hk => hG _ (by omega)
  refine ⟨hp, ⟨RepW_F hW.1 hF hR, WFh_F hF hW⟩, ⟨q, h1, h2, h3, h4, fun i hi => ?_⟩, fun j hj => ⟨(hs j hj).1, fun e => ?_⟩⟩
  · exact ⟨RepW_F (h5 i hi).2.1 (hg i (by omega)) (h5 i hi).1, WFh_F (hg i (by omega)) (h5 i hi).2⟩
  · exact ⟨RepW_F ((hs j hj).2 e).2.1 (hg (5 + j) (by omega)) ((hs j hj).2 e).1, WFh_F (hg (5 + j) (by omega)) ((hs j hj).2 e).2⟩
theorem KC.trans {t : St} (h1 : KC s s') (h2 : KC s' t) : KC s t := ⟨fun c i k a b => (h2.1 c i k a b).trans (h1.1 c i k a b), fun i j => (h2.2 i j).trans (h1.2 i j)⟩
theorem KC_N : KC s (setN s F) := ⟨fun c i k a b => setN_o (by omega), fun _ _ => rfl⟩
theorem KC_K : KC s (setK s G) := ⟨fun c i k a b => setK_o (by omega), fun _ _ => rfl⟩
theorem KC_A : KC s (setA s F) := ⟨fun c i k a b => setA_o (by omega), fun _ _ => rfl⟩
theorem KC_put {c : Nat} (h : c = 10 ∨ 20 ≤ c) : KC s (putV s c i k x) := ⟨fun c' i' k' a b => putV_ne (by omega), fun _ _ => rfl⟩
theorem KC_NK : KC s (setN (setK s G) F) := KC_K.trans KC_N
theorem setK_self : setK s (s.1 21 0) = s := by
  have e : (setK s (s.1 21 0)).1 = s.1 := by
    funext a b d
    show (if a = 21 ∧ b = 0 then s.1 21 0 d else s.1 a b d) = _
    by_cases q : a = 21 ∧ b = 0
    · rw [if_pos q, q.1, q.2]
    · rw [if_neg q]
  exact congrArg (fun z => (z, s.2)) e
theorem setA_self : setA s (s.1 10 0) = s := by
  have e : (setA s (s.1 10 0)).1 = s.1 := by
    funext a b d
    show (if a = 10 ∧ b = 0 ∧ 6 ≤ d then s.1 10 0 d else s.1 a b d) = _
    by_cases q : a = 10 ∧ b = 0 ∧ 6 ≤ d
    · rw [if_pos q, q.1, q.2.1]
    · rw [if_neg q]
  exact congrArg (fun z => (z, s.2)) e
theorem NK_self (h1 : s.1 20 0 = F) (h2 : s.1 21 0 = G) : setN (setK s G) F = s := by
  subst h1 h2
  rw [setK_self]
  exact setN_self s
theorem NK_20 : (setN (setK s G) F).1 20 0 = F := funext fun i => setN_now _ _ _
theorem NK_21 : (setN (setK s G) F).1 21 0 = G := funext fun i => (setN_o (by omega)).trans setK_k
theorem NK_o {a b d : Nat} (h : a ≠ 20) (h2 : a ≠ 21) : (setN (setK s G) F).1 a b d = s.1 a b d := (setN_o h).trans (setK_o h2)
theorem Fr.row (h : Fr s s') {c : Nat} (q : 20 ≤ c) : s'.1 c 0 = s.1 c 0 := funext fun i => h c 0 i (by omega)
theorem txtR_of (h : ∀ i, s'.1 23 0 i = s.1 23 0 i) (h2 : s'.1 10 0 5 = s.1 10 0 5) (ht : txtR s T m) : txtR s' T m := ⟨fun i hi => (h i).trans (ht.1 i hi), h2.trans ht.2.1, ht.2.2⟩
theorem Rel.fr (h : Rel s F G n m T B) (hf : Fr s s') (hC : CL s' F' G' n B) : s'.1 20 0 = F ∧ s'.1 21 0 = G ∧ s'.1 10 0 3 = nI n ∧ (∀ j, j < 2 → (s'.1 18 0 j = 0 ↔ s'.1 22 0 j = 0)) ∧ txtC s' T m ∧ txtR s' T m := by
  obtain ⟨_, ⟨a, b, c⟩, e, t1, t2⟩ := h
  refine ⟨(hf.row (by omega)).trans a, (hf.row (by omega)).trans b, (hf 10 0 3 (by omega)).trans c, fun j hj => ?_, (FrT_of hf).txt t1, txtR_of (fun i => hf 23 0 i (by omega)) (hf 10 0 5 (by omega)) t2⟩
  rw [hf 18 0 j (by omega), hf 22 0 j (by omega)]
  exact e j hj
end REL1
