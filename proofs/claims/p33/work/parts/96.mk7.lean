/-! THE MAKING: the table is the store -/
def posF (r : Nat × Nat) : Nat := ((List.range r.1).map cntK).sum + r.2
def chkPos : List (Nat × Nat) → Nat → Bool
  | [], _ => true
  | r :: l, n => decide (posF r = n) && chkPos l (n + 1)
theorem chkPos_at : ∀ (l : List (Nat × Nat)) (n i : Nat) (r : Nat × Nat), chkPos l n = true → l[i]? = some r → posF r = n + i
  | [], _, _, _, _, h => by cases h
  | x :: l, n, 0, r, hc, h => by
    cases h
    unfold chkPos at hc
    rw [Bool.and_eq_true, decide_eq_true_eq] at hc
    exact hc.1
  | x :: l, n, i + 1, r, hc, h => by
    unfold chkPos at hc
    rw [Bool.and_eq_true] at hc
    have := chkPos_at l (n + 1) i r hc.2 h
    omega
set_option maxRecDepth 1000000 in
theorem allR_pos : chkPos allR 0 = true := by decide +kernel
def adF (N0 b : Nat) (r : Nat × Nat) : Nat := if r.1 = 24 then b else N0 + ofs r
theorem allR_24 {r : Nat × Nat} (h : r ∈ allR) : r.1 ≠ 24 := by
  intro e
  obtain ⟨c, i⟩ := r
  have e : c = 24 := e
  subst e
  exact absurd (mem_allR.mp h) (Nat.not_lt_zero i)
theorem adF_at {N0 b : Nat} {r : Nat × Nat} (h : r.1 ≠ 24) : adF N0 b r = N0 + ofs r := if_neg h
theorem adOk_F {N0 b : Nat} : adOk (adF N0 b) (fun q => N0 ≤ q) := by
  have at' : ∀ (i : Nat) (p : Nat × va_E), (allR.map (fun r => (adF N0 b r, (.inr (0, []) : va_E))))[i]? = some p → ∃ r, allR[i]? = some r ∧ p.1 = N0 + ofs r ∧ unofs (ofs r) = r ∧ posF r = i := by
    intro i p hi
    rw [List.getElem?_map] at hi
    cases hr : allR[i]? with
    | none => rw [hr] at hi; cases hi
    | some r =>
      rw [hr] at hi
      have hm := List.mem_of_getElem? hr
      have hu : unofs (ofs r) = r := of_decide_eq_true (List.all_eq_true.mp unofs_ok r hm)
      have hp := chkPos_at allR 0 i r allR_pos hr
      refine ⟨r, rfl, ?_, hu, by omega⟩
      rw [← Option.some.inj hi]
      exact adF_at (allR_24 hm)
  refine ⟨fun i j p q hi hj e => ?_, fun k q hk => ?_⟩
  · obtain ⟨r, _, h1, h2, h3⟩ := at' i p hi
    obtain ⟨r', _, g1, g2, g3⟩ := at' j q hj
    have : ofs r = ofs r' := by omega
    have : r = r' := by rw [← h2, ← g2, this]
    subst this
    omega
  · obtain ⟨r, _, h1, _, _⟩ := at' k q hk
    omega
theorem lk_24 {c k i : Nat} {q : Nat × Nat} (h : lk c k i = some q) : q.1 ≠ 24 := by
  unfold lk at h
  split at h <;> first
    | (cases h; done)
    | (cases h; show (_ : Nat) ≠ 24; omega)
    | (split at h <;> first | (cases h; done) | (cases h; show (_ : Nat) ≠ 24; omega))
theorem el_24 {P : Nat → Nat → Nat} {c i j : Nat} : (el P c i j).1 ≠ 24 := by
  unfold el
  split <;> (show (_ : Nat) ≠ 24; omega)
theorem okP_z0 : okP z0 := fun i j hi hj => by
  show 5 * i + j < 200
  omega
set_option maxRecDepth 1000000 in
theorem ofs_lt : allR.all (fun r => decide (ofs r < 1407)) = true := by decide +kernel
theorem lkR_row (g : Nat → Nat) : ∀ (len j : Nat), j < len → lkR ((List.range len).reverse.map (fun j => (j, g j))) j = some (g j)
  | 0, _, h => absurd h (by omega)
  | len + 1, j, h => by
    rw [List.range_succ, List.reverse_append, List.reverse_singleton, List.singleton_append, List.map_cons]
    show (if j = len then some (g len) else lkR ((List.range len).reverse.map (fun j => (j, g j))) j) = some (g j)
    by_cases e : j = len
    · rw [if_pos e, e]
    · rw [if_neg e]
      exact lkR_row g len j (by omega)
theorem now_row (k : Nat) : lkI [(7, nI 256), (5, -5), (4, nI 10), (1, nI 1)] k = (match k with | 1 => (1 : Int32) | 4 => 10 | 5 => -5 | 7 => nI 256 | _ => 0) := by
  by_cases h7 : k = 7
  · subst h7; rfl
  by_cases h5 : k = 5
  · subst h5; rfl
  by_cases h4 : k = 4
  · subst h4; rfl
  by_cases h1 : k = 1
  · subst h1; rfl
  show (if k = 7 then nI 256 else if k = 5 then -5 else if k = 4 then nI 10 else if k = 1 then nI 1 else 0) = _
  rw [if_neg h7, if_neg h5, if_neg h4, if_neg h1]
  split <;> first | omega | rfl
theorem ak_3 : ∀ c, c < 24 → ¬ c < 11 → ¬ akind c = 3 → akind c < 3 := by decide
theorem made_Hp {D : va_G} {cA : Nat → ClassId} {N0 b : Nat} {H : Heap} (hH : HpK D cA N0 1407 (tm 0 1407) H) : Hp D cA (adF N0 b) z0 H := by
  refine ⟨fun k q hk => ?_, okP_z0⟩
  unfold smW at hk
  rw [List.getElem?_map] at hk
  cases hr : allR[k]? with
  | none => rw [hr] at hk; cases hk
  | some r =>
    rw [hr] at hk
    have hm := List.mem_of_getElem? hr
    have h1407 : ofs r < 1407 := of_decide_eq_true (List.all_eq_true.mp ofs_lt r hm)
    have hu : unofs (ofs r) = r := of_decide_eq_true (List.all_eq_true.mp unofs_ok r hm)
    rw [← Option.some.inj hk]
    show va_at D vwCl (adF N0 b r, cellD cA (adF N0 b) z0 r) H
    rw [adF_at (allR_24 hm)]
    have he : getE (tm 0 1407) (1407 - 1 - ofs r) = some (descR r) := by
      rw [tm_get 0 1407 _ (by omega)]
      have : 0 + 1407 - 1 - (1407 - 1 - ofs r) = ofs r := by omega
      rw [this]
      show some (descR (unofs (ofs r))) = _
      rw [hu]
    have ha := hH.2.2 _ _ (cell_at hH h1407 he)
    clear he hu hr hk
    obtain ⟨c, i⟩ := r
    have hi : i < cntK c := mem_allR.mp hm
    have hc24 : c < 24 := by
      rcases Nat.lt_or_ge c 24 with g | g
      · exact g
      · exfalso
        have : cntK c = 0 := by
          unfold cntK
          split <;> first | rfl | omega
        omega
    by_cases h1 : c < 10
    · have e : descR (c, i) = .inl (c, dF (c, i)) := if_pos h1
      rw [e] at ha
      rw [cell_obj h1]
      have hfs : (dF (c, i)).map (oV N0) = (List.range (nfK c)).map (fun k => trv (adF N0 b) (fv z0 c i k)) := by
        unfold dF
        rw [List.map_map]
        apply List.map_congr_left
        intro k _
        show oV N0 (some (match lk c k i with | some q => .inr (0, ofs q) | none => .inl (z0.1 c i k))) = trv (adF N0 b) (fv z0 c i k)
        unfold fv
        cases hl : lk c k i with
        | none => rfl
        | some q => exact congrArg Value.ref (adF_at (lk_24 hl)).symm
      have ha : va_at D vwCl (N0 + ofs (c, i), .inr (c, (dF (c, i)).map (oV N0))) H := ha
      rw [hfs] at ha
      exact ha
    · by_cases h3 : akind c = 3
      · have e : descR (c, i) = .inr (atyK c, alen c, .inr ((List.range (alen c)).reverse.map (fun j => (j, ofs (el z0.2 c i j))))) := (if_neg h1).trans (if_pos h3)
        rw [e] at ha
        rw [cell_refs h3]
        have ha : H[N0 + ofs (c, i)]? = some (arrV (cA (atyK c)) (alen c) (fun j => va_rf ((lkR ((List.range (alen c)).reverse.map (fun j => (j, ofs (el z0.2 c i j)))) j).map (fun k => N0 + k)))) := ha
        show H[N0 + ofs (c, i)]? = some (arrV (cA (atyK c)) (alen c) (fun j => va_rf (some (adF N0 b (el z0.2 c i j)))))
        rw [ha]
        refine congrArg some (arrV_ext fun j hj => ?_)
        rw [lkR_row (fun j => ofs (el z0.2 c i j)) (alen c) j hj, adF_at el_24]
        rfl
      · have e : descR (c, i) = .inr (atyK c, alen c, .inl (if c = 20 then [(7, nI 256), (5, -5), (4, nI 10), (1, nI 1)] else [])) := (if_neg h1).trans (if_neg h3)
        rw [e] at ha
        rw [cell_arr (ak_3 c hc24 (fun q => by have e : c = 10 := by { omega }; subst e; exact absurd hi (Nat.not_lt_zero i)) h3)]
        have ha : H[N0 + ofs (c, i)]? = some (arrV (cA (atyK c)) (alen c) (fun j => .int (lkI (if c = 20 then [(7, nI 256), (5, -5), (4, nI 10), (1, nI 1)] else []) j))) := ha
        show H[N0 + ofs (c, i)]? = some (arrV (cA (atyK c)) (alen c) (fun j => .int (z0.1 c i j)))
        rw [ha]
        refine congrArg some (arrV_ext fun j hj => congrArg Value.int ?_)
        by_cases h20 : c = 20
        · rw [if_pos h20]
          subst h20
          exact now_row j
        · rw [if_neg h20]
          show (0 : Int32) = ini1 c i j
          unfold ini1
          split <;> first | omega | rfl
