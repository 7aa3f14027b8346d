/-! THE MAKING: the runs -/
def wbL : List Nat := [1, 141, 283, 423, 563, 703, 843, 983, 1124, 1264]
set_option maxRecDepth 1000000 in
theorem wrun_1 : isT (cex 4 46 [.inr (0, 1)] [.inl (8, blkF 8)] 2) (tm 1 140) = true := by decide +kernel
set_option maxRecDepth 1000000 in
theorem wrun_141 : isT (cex 4 46 [.inr (0, 141)] [.inl (8, blkF 8)] 142) (tm 141 140) = true := by decide +kernel
set_option maxRecDepth 1000000 in
theorem wrun_283 : isT (cex 4 46 [.inr (0, 283)] [.inl (8, blkF 8)] 284) (tm 283 140) = true := by decide +kernel
set_option maxRecDepth 1000000 in
theorem wrun_423 : isT (cex 4 46 [.inr (0, 423)] [.inl (8, blkF 8)] 424) (tm 423 140) = true := by decide +kernel
set_option maxRecDepth 1000000 in
theorem wrun_563 : isT (cex 4 46 [.inr (0, 563)] [.inl (8, blkF 8)] 564) (tm 563 140) = true := by decide +kernel
set_option maxRecDepth 1000000 in
theorem wrun_703 : isT (cex 4 46 [.inr (0, 703)] [.inl (8, blkF 8)] 704) (tm 703 140) = true := by decide +kernel
set_option maxRecDepth 1000000 in
theorem wrun_843 : isT (cex 4 46 [.inr (0, 843)] [.inl (8, blkF 8)] 844) (tm 843 140) = true := by decide +kernel
set_option maxRecDepth 1000000 in
theorem wrun_983 : isT (cex 4 46 [.inr (0, 983)] [.inl (8, blkF 8)] 984) (tm 983 140) = true := by decide +kernel
set_option maxRecDepth 1000000 in
theorem wrun_1124 : isT (cex 4 46 [.inr (0, 1124)] [.inl (8, blkF 8)] 1125) (tm 1124 140) = true := by decide +kernel
set_option maxRecDepth 1000000 in
theorem wrun_1264 : isT (cex 4 46 [.inr (0, 1264)] [.inl (8, blkF 8)] 1265) (tm 1264 140) = true := by decide +kernel
theorem wrun_all : ∀ k ∈ wbL, isT (cex 4 46 [.inr (0, k)] [.inl (8, blkF 8)] (k + 1)) (tm k 140) = true := List.forall_mem_cons.mpr ⟨wrun_1, List.forall_mem_cons.mpr ⟨wrun_141, List.forall_mem_cons.mpr ⟨wrun_283, List.forall_mem_cons.mpr ⟨wrun_423, List.forall_mem_cons.mpr ⟨wrun_563, List.forall_mem_cons.mpr ⟨wrun_703, List.forall_mem_cons.mpr ⟨wrun_843, List.forall_mem_cons.mpr ⟨wrun_983, List.forall_mem_cons.mpr ⟨wrun_1124, List.forall_mem_cons.mpr ⟨wrun_1264, fun _ h => absurd h List.not_mem_nil⟩⟩⟩⟩⟩⟩⟩⟩⟩⟩
/-- calls whose ends are known: a world's making, the history's -/
def orcW (b : Nat) (as : List MV) (σ : List CE) (n : Nat) : Option (List CE) := match σ with
  | [] => none
  | e :: σ => match n with
    | 0 => none
    | k + 1 => match as with
      | [.inr (_, i)] => if b = 46 ∧ i = k ∧ eqC e (.inl (8, blkF 8)) = true ∧ k ∈ wbL then some (tm k 140 ++ σ) else none
      | _ => none
def orcN (b : Nat) (as : List MV) (σ : List CE) (n : Nat) : Option (List CE) :=
  if b = 46 then orcW b as σ n
  else if b = 13 then (match σ with
    | [] => none
    | e :: σ => match as with
      | [.inr (_, i)] => if n = 282 ∧ i = 281 ∧ eqC e (.inl (3, blkF 3)) = true then some (tm 281 842 ++ σ) else none
      | _ => none)
  else cex 1 b as σ n
set_option maxRecDepth 1000000 in
theorem hist_run : isT (cgo orcW (mRow 13).2.2.2.2.1 (decide (13 ∈ initL)) (mcT 13).1 (mcT 13).2 282 (codT 13) 100000 (codT 13) [.inr (0, 281)] [] [.inl (3, blkF 3)] 0 0) (tm 281 842) = true := by decide +kernel
set_option maxRecDepth 1000000 in
theorem names_run : isT (cgo orcN (mRow 80).2.2.2.2.1 (decide (80 ∈ initL)) (mcT 80).1 (mcT 80).2 1 (codT 80) 100000 (codT 80) [.inr (0, 0)] [] [.inl (9, blkF 9)] 0 0) (tm 0 1407) = true := by decide +kernel
set_option maxRecDepth 1000000 in
theorem ends_row : (mRow 13).2.2.2.2.2.1 = 1 ∧ retT 13 = 2 ∧ (mRow 80).2.2.2.2.2.1 = 1 ∧ retT 80 = 2 := by decide +kernel
theorem tm_add (n a : Nat) : ∀ b : Nat, tm n (a + b) = tm (n + a) b ++ tm n a
  | 0 => rfl
  | b + 1 => by
    show fin (n + (a + b)) :: tm n (a + b) = fin (n + a + b) :: (tm (n + a) b ++ tm n a)
    rw [tm_add n a b, Nat.add_assoc]
theorem tm_get (n : Nat) : ∀ (len j : Nat), j < len → getE (tm n len) j = some (fin (n + len - 1 - j))
  | 0, _, h => absurd h (by omega)
  | len + 1, 0, _ => by
    show some (fin (n + len)) = some (fin (n + (len + 1) - 1 - 0))
    have : n + (len + 1) - 1 - 0 = n + len := by omega
    rw [this]
  | len + 1, j + 1, h => by
    show getE (tm n len) j = _
    rw [tm_get n len j (by omega)]
    have : n + len - 1 - j = n + (len + 1) - 1 - (j + 1) := by omega
    rw [this]
section MK6
variable {l : Launch} {D : va_G} {cA : Nat → ClassId} {A : Nat → Prop} {N0 : Nat} {τ : List CE}
theorem MetI_ad {f b n i q q2 : Nat} {σ σ' : List CE} (h : MetI l D cA A N0 f b [.inr (q, i)] n σ σ') : MetI l D cA A N0 f b [.inr (q2, i)] n σ σ' := h
theorem orcW_sound (hA : ∀ q, N0 ≤ q → A q) : ∀ b as σ n σ2, orcW b as σ n = some σ2 → MetI l D cA A N0 4 b as n (σ ++ τ) (σ2 ++ τ) := by
  intro b as σ n σ2 h
  match σ, n, as, h with
  | e :: σ, k + 1, [.inr (q, i)], h =>
    have h : (if b = 46 ∧ i = k ∧ eqC e (.inl (8, blkF 8)) = true ∧ k ∈ wbL then some (tm k 140 ++ σ) else none) = some σ2 := h
    obtain ⟨⟨h1, h2, h3, h4⟩, h5⟩ := ite_some h
    have he := eqC_ok h3
    subst h1 h2 he
    cases h5
    have hm := cex_sound (l := l) (D := D) (cA := cA) (A := A) (N0 := N0) (τ := σ ++ τ) hA 4 46 _ _ _ _ (isT_ok (wrun_all i h4))
    rw [List.append_assoc]
    exact MetI_ad hm
  | [], _, _, h => exact no_some h
  | _ :: _, 0, _, h => exact no_some h
  | _ :: _, _ + 1, [], h => exact no_some h
  | _ :: _, _ + 1, [.inl _], h => exact no_some h
  | _ :: _, _ + 1, .inl _ :: _ :: _, h => exact no_some h
  | _ :: _, _ + 1, .inr (_, _) :: _ :: _, h => exact no_some h
theorem hist_sound (hA : ∀ q, N0 ≤ q → A q) : MetI l D cA A N0 5 13 [.inr (0, 281)] 282 (.inl (3, blkF 3) :: τ) (tm 281 842 ++ τ) :=
  run_sound (f := 4) (σ := [.inl (3, blkF 3)]) hA (fun b as σ n σ2 hc => ⟨4, Nat.le_refl _, orcW_sound hA b as σ n σ2 hc⟩) ends_row.1.symm (by decide) ends_row.2.1 (isT_ok hist_run)
theorem orcN_sound (hA : ∀ q, N0 ≤ q → A q) : ∀ b as σ n σ2, orcN b as σ n = some σ2 → ∃ f', f' ≤ 5 ∧ MetI l D cA A N0 f' b as n (σ ++ τ) (σ2 ++ τ) := by
  intro b as σ n σ2 h
  unfold orcN at h
  by_cases h56 : b = 46
  · rw [if_pos h56] at h
    exact ⟨4, by decide, orcW_sound hA b as σ n σ2 h⟩
  · rw [if_neg h56] at h
    by_cases h22 : b = 13
    · rw [if_pos h22] at h
      match σ, as, h with
      | e :: σ, [.inr (q, i)], h =>
        have h : (if n = 282 ∧ i = 281 ∧ eqC e (.inl (3, blkF 3)) = true then some (tm 281 842 ++ σ) else none) = some σ2 := h
        obtain ⟨⟨h1, h2, h3⟩, h5⟩ := ite_some h
        have he := eqC_ok h3
        subst h1 h2 he h22
        cases h5
        refine ⟨5, by decide, ?_⟩
        rw [List.append_assoc]
        exact MetI_ad (hist_sound (τ := σ ++ τ) hA)
      | [], _, h => exact no_some h
      | _ :: _, [], h => exact no_some h
      | _ :: _, [.inl _], h => exact no_some h
      | _ :: _, .inl _ :: _ :: _, h => exact no_some h
      | _ :: _, .inr (_, _) :: _ :: _, h => exact no_some h
    · rw [if_neg h22] at h
      exact ⟨1, by decide, cex_sound hA 1 b as σ n σ2 h⟩
theorem names_sound (hA : ∀ q, N0 ≤ q → A q) : MetI l D cA A N0 6 80 [.inr (0, 0)] 1 [.inl (9, blkF 9)] (tm 0 1407) := by
  have h := run_sound (l := l) (D := D) (cA := cA) (f := 5) (b := 80) (n := 1) (as := [.inr (0, 0)]) (τ := []) (σ := [.inl (9, blkF 9)]) hA (fun b as σ n σ2 hc => orcN_sound (τ := []) hA b as σ n σ2 hc) ends_row.2.2.1.symm (by decide) ends_row.2.2.2 (isT_ok names_run)
  rw [List.append_nil, List.append_nil] at h
  exact h
end MK6
