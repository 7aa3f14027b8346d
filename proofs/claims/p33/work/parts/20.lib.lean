/-! words for the methods -/
def bI (b : Prop) [Decidable b] : Int32 := if b then nI 1 else nI 0
theorem bI_1 {b : Prop} [Decidable b] {Q : Option MV → St → Prop} {s : St} (h : Q (some (.inl (bI b))) s) (hb : b) : Q (some (.inl (nI 1))) s := by
  have e : bI b = nI 1 := if_pos hb
  rwa [e] at h
theorem bI_0 {b : Prop} [Decidable b] {Q : Option MV → St → Prop} {s : St} (h : Q (some (.inl (bI b))) s) (hb : ¬ b) : Q (some (.inl (nI 0))) s := by
  have e : bI b = nI 0 := if_neg hb
  rwa [e] at h
theorem bI_eq0 {b : Prop} [Decidable b] : bI b = 0 ↔ ¬ b := by
  unfold bI
  split
  · exact ⟨fun h => absurd h (by decide), fun h => absurd ‹b› h⟩
  · exact ⟨fun _ => ‹¬ b›, fun _ => rfl⟩
theorem bI_01 (b : Prop) [Decidable b] : bI b = 0 ∨ bI b = 1 := by
  unfold bI
  split
  · exact Or.inr rfl
  · exact Or.inl rfl
theorem nI_toI {n : Nat} (h : n < 2147483648) : (nI n).toInt = (n : Int) := nI_toInt h

theorem nI_mul (a b : Nat) : nI a * nI b = nI (a * b) := (Int32.ofNat_mul a b).symm
theorem nI_inj {a b : Nat} (ha : a < 2147483648) (hb : b < 2147483648) : nI a = nI b ↔ a = b :=
  ⟨fun h => by have := congrArg Int32.toInt h; rw [nI_toI ha, nI_toI hb] at this; omega, fun h => by rw [h]⟩
theorem nI_cl {n : Nat} (h : n < 2147483648) : (nI n).toNatClampNeg = n := nI_clamp h
theorem nI_ex {x : Int32} (h : 0 ≤ x.toInt) : ∃ n : Nat, x = nI n ∧ (n : Int) = x.toInt ∧ n < 2147483648 := by
  have h2 : x.toInt < 2147483648 := x.toInt_lt
  refine ⟨x.toInt.toNat, ?_, by omega, by omega⟩
  apply Int32.toInt_inj.mp
  rw [nI_toI (by omega)]
  omega
theorem nI_subI {a b : Nat} (ha : a < 1073741824) (hb : b < 1073741824) : (nI a - nI b).toInt = (a : Int) - (b : Int) := by
  rw [Int32.toInt_sub, nI_toI (by omega), nI_toI (by omega)]
  apply Int.bmod_eq_of_le <;> omega
theorem nI_sub {a b : Nat} (ha : a < 1073741824) (hb : b ≤ a) : nI a - nI b = nI (a - b) := by
  apply Int32.toInt_inj.mp
  rw [nI_subI ha (by omega), nI_toI (by omega)]
  omega
theorem bI_ne0 {b : Prop} [Decidable b] : ¬ bI b = 0 ↔ b := by rw [bI_eq0]; exact Classical.not_not

theorem nI1_ne : ¬ nI 1 = 0 := by decide
theorem bI_same {a b : Prop} [Decidable a] [Decidable b] (e : a ↔ b) : bI a = bI b := by
  unfold bI
  by_cases h1 : a
  · rw [if_pos h1, if_pos (e.mp h1)]
  · rw [if_neg h1, if_neg (fun q => h1 (e.mpr q))]
theorem nI_m1 {a : Nat} (ha : a < 1073741824) (h : 1 ≤ a) : nI a + -1 = nI (a - 1) := by
  rw [← nI_sub ha h, Int32.sub_eq_add_neg]
  rfl
theorem nI_dec (a : Nat) : nI a + -1 = nI a - nI 1 := by
  rw [Int32.sub_eq_add_neg]
  rfl
