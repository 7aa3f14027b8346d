/-! THE REFERENCE: calls that change something -/
abbrev powB (z : Int32) : Prop := z = nI 1 ∨ z = nI 2 ∨ z = nI 4 ∨ z = nI 8 ∨ z = nI 16 ∨ z = nI 32 ∨ z = nI 64 ∨ z = nI 128 ∨ z = nI 256
abbrev blkB (a z : Int32) : Prop := powB z ∧ (0 ≤ a.toInt ∧ a.toInt ≤ 255) ∧ a - a / z * z = 0
abbrev iN (v : Int32) (n : Nat) : Prop := 0 ≤ v.toInt ∧ v.toInt < (n : Int)
abbrev meetF (F : Fm) (k : Nat) (a z : Int32) : Prop := a.toInt < (F (5 + 3 * k + 1) + F (5 + 3 * k + 2)).toInt ∧ (F (5 + 3 * k + 1)).toInt < (a + z).toInt
/-- a server of parent p meets the block -/
def anyM (F : Fm) (p a z : Int32) : Nat → Bool
  | 0 => false
  | n + 1 => anyM F p a z n || decide (1 ≤ n ∧ F (5 + 3 * n) = p ∧ meetF F n a z)
def serverF (F : Fm) (p a z : Int32) : Int32 × Fm :=
  if ¬ iN p (cS F) then (-1, F)
  else if ¬ (blkB a z ∧ holdF F (nn p) a z ∧ z.toInt < (F (5 + 3 * nn p + 2)).toInt) then (-2, F)
  else if anyM F p a z (cS F) = true then (-3, F)
  else if cS F = 8 then (-4, F)
  else (nI (cS F), fun i => if i = 5 + 3 * cS F then p else if i = 5 + 3 * cS F + 1 then a else if i = 5 + 3 * cS F + 2 then z else if i = 1 then F 1 + nI 1 else F i)
/-- a site has just this block -/
def anyS (F : Fm) (a z : Int32) : Nat → Bool
  | 0 => false
  | n + 1 => anyS F a z n || decide (F (29 + 17 * n) = a ∧ F (29 + 17 * n + 1) = z)
def siteF (F : Fm) (a z l : Int32) : Int32 × Fm :=
  if ¬ (blkB a z ∧ 1 ≤ l.toInt ∧ l.toInt ≤ 48) then (-2, F)
  else if anyS F a z (cT F) = true then (-3, F)
  else if cT F = 8 then (-4, F)
  else (nI (cT F), fun i => if i = 29 + 17 * cT F then a else if i = 29 + 17 * cT F + 1 then z else if i = 29 + 17 * cT F + 2 then l else if i = 29 + 17 * cT F + 3 then nI 1 else if 29 + 17 * cT F + 4 ≤ i ∧ i < 29 + 17 * cT F + 17 then nI 0 else if i = 2 then F 2 + nI 1 else F i)
def routerF (F : Fm) : Int32 × Fm :=
  if cR F = 4 then (-4, F)
  else (nI (cR F), fun i => if 165 + 6 * cR F ≤ i ∧ i < 165 + 6 * cR F + 6 then nI 0 else if i = 3 then F 3 + nI 1 else F i)
def fillSF (F : Fm) (k j v w x : Int32) : Int32 × Fm :=
  if ¬ (iN k (cT F) ∧ iN j 3) then (-1, F)
  else if ¬ (iN v 32 ∧ iN w 10 ∧ 1 ≤ x.toInt ∧ x.toInt ≤ 9) then (-2, F)
  else (F (29 + 17 * nn k + 3) + nI 1, fun i => if i = 29 + 17 * nn k + 5 + 4 * nn j then nI 1 else if i = 29 + 17 * nn k + 5 + 4 * nn j + 1 then v else if i = 29 + 17 * nn k + 5 + 4 * nn j + 2 then w else if i = 29 + 17 * nn k + 5 + 4 * nn j + 3 then x else if i = 29 + 17 * nn k + 3 then F i + nI 1 else F i)
def vacF (F : Fm) (k j : Int32) : Int32 × Fm :=
  if ¬ (iN k (cT F) ∧ iN j 3) then (-1, F)
  else if F (29 + 17 * nn k + 5 + 4 * nn j) = nI 0 then (-3, F)
  else (F (29 + 17 * nn k + 3) + nI 1, fun i => if i = 29 + 17 * nn k + 5 + 4 * nn j then nI 0 else if i = 29 + 17 * nn k + 3 then F i + nI 1 else F i)
def regF (F : Fm) (k : Int32) : Int32 × Fm :=
  if ¬ iN k (cT F) then (-1, F)
  else (F 0 + F (29 + 17 * nn k + 2), putF F (29 + 17 * nn k + 4) (F 0 + F (29 + 17 * nn k + 2)))
def unregF (F : Fm) (k : Int32) : Int32 × Fm :=
  if ¬ iN k (cT F) then (-1, F)
  else if ¬ (F 0).toInt < (F (29 + 17 * nn k + 4)).toInt then (-3, F)
  else (F (29 + 17 * nn k + 4) - F 0, putF F (29 + 17 * nn k + 4) (F 0))
def lifeF (F : Fm) (l : Int32) : Int32 × Fm :=
  if ¬ (1 ≤ l.toInt ∧ l.toInt ≤ 100) then (-2, F) else (F 4, putF F 4 l)
def passF (F : Fm) (h : Int32) : Int32 × Fm :=
  if ¬ (1 ≤ h.toInt ∧ h.toInt ≤ 99) then (-2, F)
  else if 9999 < (F 0 + h).toInt then (-3, F)
  else (F 0 + h, putF F 0 (F 0 + h))
def forgetF (F : Fm) (r : Int32) : Int32 × Fm :=
  if ¬ iN r (cR F) then (-1, F) else (F (165 + 6 * nn r), putF F (165 + 6 * nn r) (nI 0))
def letterF (F : Fm) (r name flow : Int32) : Int32 × Fm :=
  if ¬ iN r (cR F) then (-1, F)
  else if ¬ (iN name 256 ∧ iN flow 100) then (-2, F)
  else sendF F (nn r) name flow
/-- the store behind a call that is recorded -/
def recS (s : St) (G F : Fm) (n : Nat) (F' : Fm) : St := setN (setK (putV s 10 0 3 (nI (recN n))) (recG G F n)) F'
def doneS (s : St) (G F : Fm) (n : Nat) (o : Int32 × Fm) : St := if o.1.toInt < 0 then setN (setK s G) F else recS s G F n o.2
section REF10
variable {L : Nat} {xs : Nat → Int32} {f i k r p q c j n B b : Nat} {x y v a z name flow place : Int32} {s : St} {F G F' : Fm} {Q : Option MV → St → Prop}
theorem recS_eq {F' : Fm} : setN (recS s G F n F) F' = recS s G F n F' := setN_setN _ _ _
theorem recS_put : putV (recS s G F n F') 20 0 i x = recS s G F n (putF F' i x) := setN_put _ _ _ _
theorem recS_now : (recS s G F n F').1 20 0 i = F' i := setN_now _ _ _
theorem anyM_s (h : anyM F v a z n = true) : ∀ m, n ≤ m → anyM F v a z m = true := by
  intro m hm
  induction m with
  | zero => rw [show n = 0 by omega] at h; exact h
  | succ m ih =>
    by_cases e : n = m + 1
    · rw [← e]; exact h
    · show (_ || _) = true
      rw [ih (by omega)]
      rfl
theorem iN_nn (h : iN v n) (hn : n < 1000) : ∃ k : Nat, v = nI k ∧ k < n := by
  obtain ⟨k, e1, e2, e3⟩ := nI_ex h.1
  exact ⟨k, e1, by have := h.2; omega⟩
theorem iN_k (h : k < n) (hn : n < 1000) : iN (nI k) n := ⟨by rw [nI_toI (by omega)]; omega, by rw [nI_toI (by omega)]; omega⟩
theorem doneS_n {o : Int32 × Fm} (h : Q (some (.inl o.1)) (doneS s G F n o)) (e : o = (v, F')) (hv : v.toInt < 0) : Q (some (.inl v)) (setN (setK s G) F) := by
  subst e
  unfold doneS at h
  rw [if_pos hv] at h
  exact h
theorem doneS_p {o : Int32 × Fm} (h : Q (some (.inl o.1)) (doneS s G F n o)) (e : o = (v, F')) (hv : 0 ≤ v.toInt) : Q (some (.inl v)) (recS s G F n F') := by
  subst e
  unfold doneS at h
  rw [if_neg (show ¬ (v, F').1.toInt < 0 by dsimp only; omega)] at h
  exact h
theorem recS_go {P : Fm} {w : Int32} (h : Q (some (.inl v)) (recS s G F n F')) (hv : w = v) (hF : P = F') : Q (some (.inl w)) (setN (setK (putV s 10 0 3 (nI (recN n))) (recG G F n)) P) := by
  subst hv
  subst hF
  exact h
theorem loopD {P : Nat → Prop} (n : Nat) (step : ∀ k, k < n → P (k + 1) → P k) (last : P n) : ∀ k, k ≤ n → P k := fun k hk => loopN n step last k hk
end REF10
