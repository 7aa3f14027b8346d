/-! WHAT SENDING COUNTS, and where letters go -/
/-- outside of router r nothing is changed -/
def OUT (G F : Fm) (r : Nat) : Prop := ∀ i, (i < 165 + 6 * r ∨ 165 + 6 * r + 6 ≤ i) → (i < mA r 0 ∨ mA r 5 ≤ i) → G i = F i
/-- router r counts as before -/
def CTR (G F : Fm) (r : Nat) : Prop := ∀ j, 1 ≤ j → j < 6 → G (165 + 6 * r + j) = F (165 + 6 * r + j)
/-- each map of router r was one before -/
def SUB (G F : Fm) (r : Nat) : Prop := ∀ q, q < cM G r → ∃ p, p < cM F r ∧ G (mA r q) = F (mA r p) ∧ G (mA r q + 1) = F (mA r p + 1)
def KEEP (G F : Fm) (r : Nat) : Prop := OUT G F r ∧ CTR G F r ∧ SUB G F r
/-- no map of router r is newer than its site -/
def VM (F : Fm) (r : Nat) : Prop := ∀ p, p < cM F r → (F (mA r p + 1)).toInt ≤ (F (29 + 17 * nn (F (mA r p)) + 3)).toInt
/-- a letter to a name goes to a place of a site that is up and has it, or by the proxy, without an answer -/
def PL (F : Fm) (name v : Int32) : Prop := (∃ k, k < cT F ∧ upF F k ∧ hasF F k name ∧ ∃ j, j < 3 ∧ F (29 + 17 * k + 5 + 4 * j) = nI 1 ∧ F (29 + 17 * k + 5 + 4 * j + 1) = v) ∨ (ansF F name = none ∧ v = proxF name)
section SND1
variable {f i k r p q c j n B b : Nat} {x y v a z name flow place : Int32} {F G H F' : Fm}
theorem OUT.trans (h1 : OUT G F r) (h2 : OUT H G r) : OUT H F r := fun i a b => (h2 i a b).trans (h1 i a b)
theorem KEEP.rf : KEEP F F r := ⟨fun _ _ _ => rfl, fun _ _ _ => rfl, fun q hq => ⟨q, hq, rfl, rfl⟩⟩
theorem KEEP.trans (h1 : KEEP G F r) (h2 : KEEP H G r) : KEEP H F r := ⟨h1.1.trans h2.1, fun j a b => (h2.2.1 j a b).trans (h1.2.1 j a b), fun q hq => by
  obtain ⟨p, hp, e1, e2⟩ := h2.2.2 q hq
  obtain ⟨p', hp', e3, e4⟩ := h1.2.2 p hp
  exact ⟨p', hp', e1.trans e3, e2.trans e4⟩⟩
theorem OUT.lo (h : OUT G F r) (hi : i < 165) : G i = F i := h i (by omega) (by have := mA_eq r 0; omega)
theorem VM_sub (h : SUB G F r) (hl : ∀ i, i < 165 → G i = F i) (hw : WF F B) (hr : r < cR F) (hv : VM F r) : VM G r := by
  intro q hq
  obtain ⟨p, hp, e1, e2⟩ := h q hq
  have hm := (hw.router hr).2.2.1 p hp
  have ht := hw.t2
  rw [e1, e2, hl _ (by have := hm.2.1; omega)]
  exact hv p hp
theorem drops_keep (hw : WF F B) (hr : r < cR F) (hp : p < cM F r) : KEEP (dropsF F r p) F r := by
  have h4 := hw.r2
  have w := hw.router hr
  have h5 := w.2.1
  obtain ⟨e1, e2⟩ := drops_c (p := p) w (by omega)
  refine ⟨fun i a b => drops_o (by omega) (by omega) h5 b, fun j a b => drops_o (by omega) (by omega) h5 (by have := mA_eq r 0; omega), fun q hq => ?_⟩
  refine ⟨if p ≤ q then q + 1 else q, by split <;> omega, ?_, ?_⟩
  · exact drops_map (j := 0) (by omega) (by omega) (by omega)
  · exact drops_map (j := 1) (by omega) (by omega) (by omega)
theorem uses_keep (hw : WF F B) (hr : r < cR F) (hp : p < cM F r) : KEEP (usesF F r p) F r := by
  have h4 := hw.r2
  have h5 := (hw.router hr).2.1
  have m5 := mA_eq r 5
  have mp := mA_eq r (p + 1)
  refine ⟨fun i a b => uses_o (by omega), fun j a b => uses_lo (by omega), fun q hq => ?_⟩
  rw [uses_c] at hq
  refine ⟨if q = 0 then p else if q ≤ p then q - 1 else q, by split; exact hp; split <;> omega, ?_, ?_⟩
  · exact uses_map (j := 0) (by omega)
  · exact uses_map (j := 1) (by omega)
theorem end_keep : ∀ n F, n ≤ cM F r → WF F B → r < cR F → KEEP (endF r n F) F r := by
  intro n
  induction n with
  | zero => intro F _ hw hr; exact KEEP.rf
  | succ n ih =>
    intro F hn hw hr
    have h4 := hw.r2
    unfold endF
    by_cases h : (F (mA r n + 2)).toInt ≤ (F 0).toInt
    · rw [if_pos h]
      have w := WF_drop hw hr (p := n) (by omega)
      obtain ⟨e1, e2⟩ := drops_c (p := n) (hw.router hr) (by omega)
      have e3 : cR (dropsF F r n) = cR F := by unfold cR; rw [drops_lo (by omega)]
      exact (drops_keep hw hr (by omega)).trans (ih (dropsF F r n) (by omega) w (by omega))
    · rw [if_neg h]
      exact ih F (by omega) hw hr
theorem purge_keep : ∀ n F, n ≤ cM F r → WF F B → r < cR F → KEEP (purgeF r k n F) F r := by
  intro n
  induction n with
  | zero => intro F _ hw hr; exact KEEP.rf
  | succ n ih =>
    intro F hn hw hr
    have h4 := hw.r2
    unfold purgeF
    by_cases h : F (mA r n) = nI k
    · rw [if_pos h]
      have w := WF_drop hw hr (p := n) (by omega)
      obtain ⟨e1, e2⟩ := drops_c (p := n) (hw.router hr) (by omega)
      have e3 : cR (dropsF F r n) = cR F := by unfold cR; rw [drops_lo (by omega)]
      exact (drops_keep hw hr (by omega)).trans (ih (dropsF F r n) (by omega) w (by omega))
    · rw [if_neg h]
      exact ih F (by omega) hw hr
theorem cut_keep (hw : WF F B) (hr : r < cR F) : KEEP (cutF F r k) F r := by
  have h4 := hw.r2
  obtain ⟨g1, g2, g3⟩ := purge_le (k := k) (cM F r) F (Nat.le_refl _) hw hr
  have e3 : cR (purgeF r k (cM F r) F) = cR F := by unfold cR; rw [g3 3 (by omega)]
  have g := purge_keep (k := k) (cM F r) F (Nat.le_refl _) hw hr
  unfold cutF
  split
  · exact g.trans (drops_keep g1 (by omega) (by omega))
  · exact g
/-- asking, as far as it is counted -/
theorem asked_1 : askedF F r name (165 + 6 * r + 1) = F (165 + 6 * r + 1) + nI 1 := if_pos rfl
theorem asked_2 : askedF F r name (165 + 6 * r + 2) = F (165 + 6 * r + 2) + nI (wayF F (homeF F name (nI 1))) := by
  unfold askedF
  rw [if_neg (by omega), if_pos rfl]
theorem way_le : ∀ n k, wayN F n k ≤ n := by
  intro n
  induction n with
  | zero => intro k; exact Nat.le_refl _
  | succ n ih =>
    intro k
    unfold wayN
    split
    · omega
    · have := ih (nn (F (5 + 3 * k)))
      omega
theorem way_8 (k : Nat) : 1 ≤ wayF F k ∧ wayF F k ≤ 8 := by
  refine ⟨?_, way_le 8 k⟩
  unfold wayF wayN
  split <;> omega
theorem new_slot (hw : WF F B) (hr : r < cR F) (hk : k < cT F) (hj : j < 3) (ht : i < 4) : newF F r k (mA r 0 + 4 + 4 * j + i) = F (29 + 17 * k + 5 + 4 * j + i) := by
  have h4 := hw.r2
  have h8 := hw.t2
  obtain ⟨g1, g2, g3, g4⟩ := cut_ok (k := k) hw hr
  rw [newF_eq, show mA r 0 + 4 + 4 * j + i = mA r 0 + (4 + 4 * j + i) by omega, fr_0 (by omega) (by omega) (by omega)]
  unfold newM
  rw [if_neg (by omega), if_neg (by omega), if_neg (by omega), if_neg (by omega), g3 _ (by omega), show 29 + 17 * k + 5 + (4 + 4 * j + i - 4) = 29 + 17 * k + 5 + 4 * j + i by omega]
theorem new_out (hw : WF F B) (hr : r < cR F) (hk : k < cT F) : OUT (newF F r k) F r ∧ CTR (newF F r k) F r ∧ (VM F r → VM (newF F r k) r) ∧ newF F r k (mA r 0) = nI k := by
  have h4 := hw.r2
  have h8 := hw.t2
  obtain ⟨g1, g2, g3, g4⟩ := cut_ok (k := k) hw hr
  have kp := cut_keep (k := k) hw hr
  have e3 : cR (cutF F r k) = cR F := by unfold cR; rw [g3 3 (by omega)]
  have m0 := mA_eq r 0
  have m5 := mA_eq r 5
  have mc := mA_eq r (cM (cutF F r k) r + 1)
  have e0 : newF F r k (mA r 0) = nI k := fr_0 (j := 0) (by omega) (by omega) (by omega)
  refine ⟨fun i a b => ?_, fun j a b => ?_, fun hv => ?_, e0⟩
  · rw [newF_eq, fr_o (by omega) (by omega) (by omega)]
    exact kp.1 i a b
  · rw [newF_eq, fr_o (by omega) (by omega) (by omega)]
    exact kp.2.1 j a b
  · have hv2 := VM_sub kp.2.2 (fun i hi => g3 i hi) hw hr hv
    intro q hq
    rw [(new_cM (k := k) hw hr).1] at hq
    by_cases h0 : q = 0
    · subst h0
      have e1 : newF F r k (mA r 0 + 1) = F (29 + 17 * k + 3) := by
        rw [newF_eq, fr_0 (by omega) (by omega) (by omega)]
        unfold newM
        rw [if_neg (by omega), if_pos rfl, g3 _ (by omega)]
      rw [e0, e1, show nn (nI k) = k from nI_cl (by omega), new_lo hw hr (by omega)]
      omega
    · have em : ∀ j, j < 16 → newF F r k (mA r q + j) = cutF F r k (mA r (q - 1) + j) := fun j hj => by rw [newF_eq]; exact fr_m (by omega) (by omega) (by omega) hj
      have em0 := em 0 (by omega)
      rw [Nat.add_zero, Nat.add_zero] at em0
      have hm := (g1.router (r := r) (by omega)).2.2.1 (q - 1) (by omega)
      have eT : cT (cutF F r k) = cT F := by unfold cT; rw [g3 2 (by omega)]
      have hq1 : q - 1 < cM (cutF F r k) r := by omega
      have := hv2 (q - 1) hq1
      rw [em 1 (by omega), em0, new_lo hw hr (by have := hm.2.1; omega)]
      rw [g3 (29 + 17 * nn (cutF F r k (mA r (q - 1))) + 3) (by have := hm.2.1; omega)] at this
      exact this
/-- what asking does -/
theorem asks_all (hw : WF F B) (hr : r < cR F) : OUT (asksF F r name).2 F r ∧ (VM F r → VM (asksF F r name).2 r) ∧ (asksF F r name).2 (165 + 6 * r + 1) = F (165 + 6 * r + 1) + nI 1 ∧ (asksF F r name).2 (165 + 6 * r + 2) = F (165 + 6 * r + 2) + nI (wayF F (homeF F name (nI 1))) ∧ (∀ j, 3 ≤ j → j < 6 → (asksF F r name).2 (165 + 6 * r + j) = F (165 + 6 * r + j)) ∧ ((asksF F r name).1 = false → ansF F name = none) ∧ ((asksF F r name).1 = true → ∃ k, ansF F name = some k ∧ (asksF F r name).2 (mA r 0) = nI k ∧ ∀ j i, j < 3 → i < 4 → (asksF F r name).2 (mA r 0 + 4 + 4 * j + i) = F (29 + 17 * k + 5 + 4 * j + i)) := by
  have h4 := hw.r2
  have h8 := hw.t2
  have hwA := WF_asked (name := name) hw (show r < 4 by omega)
  have hrA : r < cR (askedF F r name) := by unfold cR; rw [asked_o (by omega) (by omega)]; exact hr
  have lo : ∀ i, i < 165 → askedF F r name i = F i := fun i hi => asked_o (by omega) (by omega)
  have cA := asked_cM (F := F) (name := name) (r := r) (by omega)
  have oA : OUT (askedF F r name) F r := fun i a b => asked_o (by omega) (by omega)
  have ea : ansF (askedF F r name) name = ansF F name := ansF_cg hw lo
  have m0 := mA_eq r 0
  have vA : VM F r → VM (askedF F r name) r := fun hv => VM_sub (fun q hq => ⟨q, by omega, asked_o (by have := mA_eq r q; omega) (by have := mA_eq r q; omega), asked_o (by have := mA_eq r q; omega) (by have := mA_eq r q; omega)⟩) lo hw hr hv
  have cA3 : ∀ j, 3 ≤ j → j < 6 → askedF F r name (165 + 6 * r + j) = F (165 + 6 * r + j) := fun j a b => asked_o (by omega) (by omega)
  unfold asksF
  cases ho : ansF (askedF F r name) name with
  | none => exact ⟨oA, vA, asked_1, asked_2, cA3, fun _ => ea.symm.trans ho, fun h => (nomatch h)⟩
  | some k =>
    have hk := ansF_lt ho
    have hkF : k < cT F := by have e : cT (askedF F r name) = cT F := by { unfold cT; rw [lo 2 (by omega)] }; omega
    obtain ⟨n1, n2, n3, n4⟩ := new_out hwA hrA hk
    refine ⟨oA.trans n1, fun hv => n3 (vA hv), (n2 1 (by omega) (by omega)).trans asked_1, (n2 2 (by omega) (by omega)).trans asked_2, fun j a b => (n2 j (by omega) (by omega)).trans (cA3 j a b), fun h => (nomatch h), fun _ => ⟨k, ea.symm.trans ho, n4, fun j i hj hi => ?_⟩⟩
    show newF _ _ _ _ = _
    rw [new_slot hwA hrA hk hj hi, lo _ (by omega)]
theorem PL_lo (hw : WF F B) (h : ∀ i, i < 165 → G i = F i) (q : PL G name v) : PL F name v := by
  have h8 := hw.t2
  have eT : cT G = cT F := by unfold cT; rw [h 2 (by omega)]
  rcases q with ⟨k, hk, hu, hh, j, hj, e1, e2⟩ | ⟨h1, h2⟩
  · left
    refine ⟨k, by omega, (upF_cg h (by omega)).mp hu, ?_, j, hj, ?_, ?_⟩
    · unfold hasF at hh ⊢
      rw [h _ (by omega), h _ (by omega)] at hh
      exact hh
    · rw [← h _ (by omega)]; exact e1
    · rw [← h _ (by omega)]; exact e2
  · exact Or.inr ⟨by rw [← ansF_cg hw h]; exact h1, h2⟩
/-- an answer's place -/
theorem asks_PL (hw : WF F B) (hr : r < cR F) (hf : 0 ≤ flow.toInt) (h1 : (asksF F r name).1 = true) : PL F name (choF (asksF F r name).2 (mA r 0 + 4) flow) := by
  obtain ⟨a1, a2, a3, a4⟩ := asks_ok (name := name) hw hr
  have a3 := a3 h1
  have wA := a1.router (r := r) (by rw [cR_of a2]; exact hr)
  obtain ⟨-, -, -, hs⟩ := wA.2.2.1 0 (by omega)
  obtain ⟨-, -, -, -, -, -, h7⟩ := asks_all (name := name) hw hr
  obtain ⟨k, ho, -, hsl⟩ := h7 h1
  obtain ⟨hup, hha⟩ := ansN_up _ _ ho
  left
  refine ⟨k, ansF_lt ho, hup, hha, ?_⟩
  have ex : ∃ j, j < 3 ∧ F (29 + 17 * k + 5 + 4 * j) = nI 1 := by
    rcases hup.2 with h | h | h
    · exact ⟨0, by omega, h⟩
    · exact ⟨1, by omega, h⟩
    · exact ⟨2, by omega, h⟩
  have s0 : ∀ j, j < 3 → (asksF F r name).2 (mA r 0 + 4 + 4 * j) = F (29 + 17 * k + 5 + 4 * j) := fun j hj => hsl j 0 hj (by omega)
  rcases choF_cases (b := mA r 0 + 4) hs hf with h | h
  · obtain ⟨j, hj, hq⟩ := ex
    have := h.1 j hj
    rw [s0 j hj, hq] at this
    exact absurd this.symm nI01
  · obtain ⟨j, hj, hq, hv⟩ := h.2
    refine ⟨j, hj, by rw [← s0 j hj]; exact hq, ?_⟩
    rw [hv, hsl j 1 hj (by omega)]
end SND1
