/-! THE LAW'S SMALL METHODS: up, size, cell, name -/
def shV (x : Int32) (k : Nat) : Int32 := x >>> (nI k &&& 31)
def upV (x m : Int32) : Int32 := (x &&& nI 2147483647) - (x &&& nI 2147483647) / m * m
def sizV (x : Int32) : Int32 := nI 1 <<< (x &&& nI 7 &&& 31)
def celV (L : Nat) (xs : Nat → Int32) (k : Int32) : Int32 := if k.toInt < (L : Int) then xs k.toNatClampNeg else nI 763049417 * (k + nI 3)
theorem and_pos (x : Int32) : 0 ≤ (x &&& nI 2147483647).toInt := by
  have h : (x &&& nI 2147483647).toBitVec.msb = false := by
    rw [Int32.toBitVec_and, BitVec.msb_and]
    have : (nI 2147483647).toBitVec.msb = false := by decide +kernel
    rw [this, Bool.and_false]
  have e : (x &&& nI 2147483647).toInt = (x &&& nI 2147483647).toBitVec.toInt := rfl
  rw [e, BitVec.toInt_eq_toNat_of_msb h]
  omega
theorem up_ok {x m : Int32} (h : 1 ≤ m.toInt) : 0 ≤ (upV x m).toInt ∧ (upV x m).toInt < m.toInt := by
  have h1 := and_pos x
  unfold upV
  rw [rem_ok h1 h]
  exact ⟨Int.emod_nonneg _ (by omega), Int.emod_lt_of_pos _ (by omega)⟩
theorem up_iN {x : Int32} {m : Nat} (h1 : 1 ≤ m) (h2 : m < 1000) : iN (upV x (nI m)) m := by
  have h := up_ok (x := x) (m := nI m) (by rw [nI_toI (by omega)]; omega)
  rw [nI_toI (by omega)] at h
  exact h
theorem and7 (x : Int32) : ∃ j, j < 8 ∧ x &&& nI 7 = nI j := by
  refine ⟨(x &&& nI 7).toBitVec.toNat, ?_, ?_⟩
  · rw [Int32.toBitVec_and, BitVec.toNat_and]
    have e : (nI 7).toBitVec.toNat = 2 ^ 3 - 1 := by decide +kernel
    rw [e, Nat.and_two_pow_sub_one_eq_mod]
    exact Nat.mod_lt _ (by decide)
  · apply Int32.toBitVec_inj.mp
    have e : (nI (x &&& nI 7).toBitVec.toNat).toBitVec = BitVec.ofNat 32 (x &&& nI 7).toBitVec.toNat := rfl
    rw [e, BitVec.ofNat_toNat, BitVec.setWidth_eq]
theorem and15 (x : Int32) : ∃ j, j < 16 ∧ x &&& nI 15 = nI j := by
  refine ⟨(x &&& nI 15).toBitVec.toNat, ?_, ?_⟩
  · rw [Int32.toBitVec_and, BitVec.toNat_and]
    have e : (nI 15).toBitVec.toNat = 2 ^ 4 - 1 := by decide +kernel
    rw [e, Nat.and_two_pow_sub_one_eq_mod]
    exact Nat.mod_lt _ (by decide)
  · apply Int32.toBitVec_inj.mp
    have e : (nI (x &&& nI 15).toBitVec.toNat).toBitVec = BitVec.ofNat 32 (x &&& nI 15).toBitVec.toNat := rfl
    rw [e, BitVec.ofNat_toNat, BitVec.setWidth_eq]
theorem and1 (x : Int32) : ∃ j, j < 2 ∧ x &&& nI 1 = nI j := by
  refine ⟨(x &&& nI 1).toBitVec.toNat, ?_, ?_⟩
  · rw [Int32.toBitVec_and, BitVec.toNat_and]
    have e : (nI 1).toBitVec.toNat = 2 ^ 1 - 1 := by decide +kernel
    rw [e, Nat.and_two_pow_sub_one_eq_mod]
    exact Nat.mod_lt _ (by decide)
  · apply Int32.toBitVec_inj.mp
    have e : (nI (x &&& nI 1).toBitVec.toNat).toBitVec = BitVec.ofNat 32 (x &&& nI 1).toBitVec.toNat := rfl
    rw [e, BitVec.ofNat_toNat, BitVec.setWidth_eq]
theorem siz_all : ∀ j, j < 8 → 1 ≤ (nI 1 <<< (nI j &&& 31)).toInt ∧ (nI 1 <<< (nI j &&& 31)).toInt ≤ 128 ∧ 1 ≤ (nI 256 / (nI 1 <<< (nI j &&& 31))).toInt := by decide +kernel
theorem siz_ok (x : Int32) : 1 ≤ (sizV x).toInt ∧ (sizV x).toInt ≤ 128 ∧ 1 ≤ (nI 256 / sizV x).toInt := by
  obtain ⟨j, hj, e⟩ := and7 x
  unfold sizV
  rw [e]
  exact siz_all j hj
theorem ne0_of {m : Int32} (h : 1 ≤ m.toInt) : ¬ m = 0 := by
  intro e
  rw [e] at h
  exact absurd h (by decide)
section LW1
variable {L : Nat} {xs : Nat → Int32} {f i n B : Nat} {x y v a b m : Int32} {s : St} {F G : Fm} {Q : Option MV → St → Prop}
set_option maxHeartbeats 4000000 in
set_option maxRecDepth 100000 in
theorem l_up (hm : ¬ m = 0) (h : Q (some (.inl (upV x m))) s) : wpM L xs codT retT (f + 1) m_L_up [.inl x, .inl m] s Q := by
  intro call hcall X hX; refine hX 1000 0 _ _ _ ?_
  repeat' (first | (intro hc) | (refine And.intro ?_ ?_) | (exact absurd nI_0 ‹cmpF 0 (nI 0) 0›) | (exact absurd ‹cmpT 0 (nI 1) 0› nI1_ne) | (exact absurd nI_0 ‹cmpT 1 (nI 0) 0›) | (exact absurd ‹cmpF 1 (nI 1) 0› nI1_ne) | (show wp _ _ _ _ _ _ _ _ _ _ _ _; conv => whnf))
  all_goals first
    | exact hm (by assumption)
    | exact h
set_option maxHeartbeats 4000000 in
set_option maxRecDepth 100000 in
theorem l_size (h : Q (some (.inl (sizV x))) s) : wpM L xs codT retT (f + 1) m_L_size [.inl x] s Q := by
  intro call hcall X hX; refine hX 1000 0 _ _ _ ?_
  repeat' (first | (intro hc) | (refine And.intro ?_ ?_) | (exact absurd nI_0 ‹cmpF 0 (nI 0) 0›) | (exact absurd ‹cmpT 0 (nI 1) 0› nI1_ne) | (exact absurd nI_0 ‹cmpT 1 (nI 0) 0›) | (exact absurd ‹cmpF 1 (nI 1) 0› nI1_ne) | (show wp _ _ _ _ _ _ _ _ _ _ _ _; conv => whnf))
  all_goals exact h
set_option maxHeartbeats 4000000 in
set_option maxRecDepth 100000 in
theorem l_cell (hL : L < 1000000) (h0 : 0 ≤ x.toInt) (h : Q (some (.inl (celV L xs x))) s) : wpM L xs codT retT (f + 1) m_L_cell [.inr (24, 0), .inl x] s Q := by
  have eL : (Int32.ofNat L).toInt = (L : Int) := nI_toI (n := L) (by omega)
  unfold celV at h
  intro call hcall X hX; refine hX 1000 0 _ _ _ ?_
  repeat' (first | (intro hc) | (refine And.intro ?_ ?_) | (exact absurd nI_0 ‹cmpF 0 (nI 0) 0›) | (exact absurd ‹cmpT 0 (nI 1) 0› nI1_ne) | (exact absurd nI_0 ‹cmpT 1 (nI 0) 0›) | (exact absurd ‹cmpF 1 (nI 1) 0› nI1_ne) | (show wp _ _ _ _ _ _ _ _ _ _ _ _; conv => whnf))
  all_goals first
    | exact h0
    | (rw [if_pos (by have q := ‹cmpF 3 x (Int32.ofNat L)›; simp only [cmpF] at q; omega)] at h; exact h)
    | (rw [if_neg (by have q := ‹cmpT 3 x (Int32.ofNat L)›; simp only [cmpT] at q; omega)] at h; exact h)
    | (have q := ‹cmpF 3 x (Int32.ofNat L)›; simp only [cmpF] at q; omega)
end LW1
