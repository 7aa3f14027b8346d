/-! THE REFERENCE: room, use, choice -/
def rmK (F : Fm) (r c j : Nat) : Fm := fun i => if mA r c + 16 - j ≤ i ∧ i < mA r c + 16 then F (i - 16) else F i
section REF4
variable {L : Nat} {xs : Nat → Int32} {f k r p c j B b : Nat} {x y v a z name flow place : Int32} {s : St} {F : Fm} {Q : Option MV → St → Prop}
theorem rmK_0 : rmK F r c 0 = F := by
  funext i
  simp only [rmK]
  (repeat' split) <;> first | rfl | omega | (exfalso; omega) | (congr 1; omega)
theorem rmK_s (hj : j < 16 * c) : putF (rmK F r c j) (mA r c + 15 - j) (rmK F r c j (mA r c + 15 - j - 16)) = rmK F r c (j + 1) := by
  have hm : 189 + 16 * c ≤ mA r c := by unfold mA; omega
  funext i
  simp only [rmK, putF]
  (repeat' split) <;> first | rfl | omega | (exfalso; omega) | (congr 1; omega)
theorem rmK_e : rmK F r c (16 * c) = roomF F r c := by
  have hm : mA r c = mA r 1 + 16 * c - 16 := by unfold mA; omega
  have hm2 : 189 + 16 ≤ mA r 1 := by unfold mA; omega
  funext i
  simp only [rmK, roomF]
  (repeat' split) <;> first | rfl | omega | (exfalso; omega) | (congr 1; omega)
def usK (F : Fm) (r p m : Nat) : Fm := fun i => if mA r m ≤ i ∧ i < mA r (m + 1) then F (i + 16 * (p - m)) else if mA r (m + 1) ≤ i ∧ i < mA r (p + 1) then F (i - 16) else F i
def swK (G : Fm) (r m k : Nat) : Fm := fun i => if mA r m ≤ i ∧ i < mA r m + k then G (i + 16) else if mA r (m + 1) ≤ i ∧ i < mA r (m + 1) + k then G (i - 16) else G i
theorem usK_p : usK F r p p = F := by
  have hm : mA r (p + 1) = mA r p + 16 := by unfold mA; omega
  funext i
  simp only [usK]
  (repeat' split) <;> first | rfl | omega | (exfalso; omega) | (congr 1; omega)
theorem usK_0 : usK F r p 0 = usesF F r p := by
  funext i
  simp only [usK, usesF]
  (repeat' split) <;> first | rfl | omega | (exfalso; omega) | (congr 1; omega)
theorem swK_0 {G : Fm} : swK G r k 0 = G := by
  funext i
  simp only [swK]
  (repeat' split) <;> first | rfl | omega | (exfalso; omega) | (congr 1; omega)
theorem swK_s {G : Fm} {m : Nat} (hk : k < 16) : putF (putF (swK G r m k) (mA r (m + 1) + k) (swK G r m k (mA r m + k))) (mA r m + k) (swK G r m k (mA r (m + 1) + k)) = swK G r m (k + 1) := by
  have hm : mA r (m + 1) = mA r m + 16 := by unfold mA; omega
  have hm2 : 189 ≤ mA r m := by unfold mA; omega
  funext i
  simp only [swK, putF]
  (repeat' split) <;> first | rfl | omega | (exfalso; omega) | (congr 1; omega)
theorem swK_e {m : Nat} (hm : m < p) : swK (usK F r p (m + 1)) r m 16 = usK F r p m := by
  have hm1 : mA r (m + 1) = mA r m + 16 := by unfold mA; omega
  have hm2 : mA r (m + 1 + 1) = mA r m + 32 := by unfold mA; omega
  have hm3 : mA r (p + 1) = mA r m + 16 * (p - m) + 16 := by unfold mA; omega
  have hm4 : 189 ≤ mA r m := by unfold mA; omega
  funext i
  simp only [swK, usK]
  (repeat' split) <;> first | rfl | omega | (exfalso; omega) | (congr 1; omega)
end REF4
