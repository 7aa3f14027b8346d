/-! letters: what sending leaves well, and that it tells a place -/
section REF23
variable {i k r p q c j n B b : Nat} {x y v a z lo left name flow place : Int32} {F G : Fm}
theorem ansN_up : ∀ n b, ansN F name n = some b → upF F b ∧ hasF F b name
  | 0, b, h => by cases h
  | n + 1, b, h => by
    unfold ansN at h
    split at h
    · rename_i hc
      cases h
      exact ⟨hc.1.1, hc.1.2.1⟩
    · exact ansN_up n b h
theorem slot_pl (hs : slotOk F (b + 4 * j)) (h : F (b + 4 * j) = nI 1) : 0 ≤ (F (b + 4 * j + 1)).toInt ∧ (F (b + 4 * j + 1)).toInt < 32 := (hs.2 h).1
set_option maxHeartbeats 4000000 in
set_option maxRecDepth 100000 in
theorem isAt_pos (hw : WF F B) (hk : k < cT F) (h : isAtF F k place) : 0 ≤ place.toInt ∧ place.toInt < 32 := by
  rcases h.1 with ⟨h1, h2⟩ | ⟨h1, h2⟩ | ⟨h1, h2⟩
  · have := ((hw.flag hk 0 (by omega)).2 h1).1
    rw [← h2]; exact this
  · have := ((hw.flag hk 1 (by omega)).2 h1).1
    rw [← h2]; exact this
  · have := ((hw.flag hk 2 (by omega)).2 h1).1
    rw [← h2]; exact this
set_option maxHeartbeats 4000000 in
set_option maxRecDepth 100000 in
theorem prox_nn (h : iN name 256) : 32 ≤ (proxF name).toInt ∧ (proxF name).toInt < 40 := by
  have e32 : (nI 32).toInt = 32 := by decide
  have e1 : (name / nI 32).toInt = name.toInt / 32 := by
    rw [Int32.toInt_div, e32, Int.tdiv_eq_ediv_of_nonneg h.1]
    apply Int.bmod_eq_of_le <;> omega
  unfold proxF
  rw [Int32.toInt_add, e1, e32]
  have : (32 + name.toInt / 32).bmod 4294967296 = 32 + name.toInt / 32 := by
    apply Int.bmod_eq_of_le <;> omega
  rw [this]
  omega
set_option maxHeartbeats 4000000 in
set_option maxRecDepth 100000 in
theorem asks_cho (hw : WF F B) (hr : r < cR F) (hf : 0 ≤ flow.toInt) (h1 : (asksF F r name).1 = true) : 0 ≤ (choF (asksF F r name).2 (mA r 0 + 4) flow).toInt ∧ (choF (asksF F r name).2 (mA r 0 + 4) flow).toInt < 32 := by
  have h4 := hw.r2
  obtain ⟨a1, a2, a3, a4⟩ := asks_ok (name := name) hw hr
  have a3 := a3 h1
  have wA := a1.router (r := r) (by rw [cR_of a2]; exact hr)
  obtain ⟨-, -, -, hs⟩ := wA.2.2.1 0 (by omega)
  have hwA := WF_asked (name := name) hw (show r < 4 by omega)
  have m0 := mA_eq r 0
  cases ho : ansF (askedF F r name) name with
  | none =>
    have e : asksF F r name = (false, askedF F r name) := by unfold asksF; rw [ho]
    rw [e] at h1
    cases h1
  | some k =>
    have e : asksF F r name = (true, newF (askedF F r name) r k) := by unfold asksF; rw [ho]
    have hup := (ansN_up _ _ ho).1
    have hk := ansF_lt ho
    have hrA : r < cR (askedF F r name) := by unfold cR; rw [asked_o (by omega) (by omega)]; exact hr
    have ht := hwA.t2
    obtain ⟨g1, g2, g3, g4⟩ := cut_ok (k := k) hwA hrA
    have hfl : ∃ j, j < 3 ∧ (asksF F r name).2 (mA r 0 + 4 + 4 * j) = nI 1 := by
      have ex : ∃ j, j < 3 ∧ askedF F r name (29 + 17 * k + 5 + 4 * j) = nI 1 := by
        rcases hup.2 with h | h | h
        · exact ⟨0, by omega, h⟩
        · exact ⟨1, by omega, h⟩
        · exact ⟨2, by omega, h⟩
      obtain ⟨j, hj, hq⟩ := ex
      refine ⟨j, hj, ?_⟩
      rw [e]
      show newF (askedF F r name) r k (mA r 0 + 4 + 4 * j) = nI 1
      rw [newF_eq, show mA r 0 + 4 + 4 * j = mA r 0 + (4 + 4 * j) by omega, fr_0 (by omega) (by omega) (by omega)]
      unfold newM
      rw [if_neg (by omega), if_neg (by omega), if_neg (by omega), if_neg (by omega), g3 _ (by omega), show 29 + 17 * k + 5 + (4 + 4 * j - 4) = 29 + 17 * k + 5 + 4 * j by omega]
      exact hq
    rcases choF_cases (b := mA r 0 + 4) hs hf with h | h
    · obtain ⟨j, hj, hq⟩ := hfl
      exact absurd ((h.1 j hj).symm.trans hq) nI01
    · obtain ⟨j, hj, hq, hv⟩ := h.2
      rw [hv]
      exact slot_pl (hs j hj) hq
set_option maxHeartbeats 4000000 in
set_option maxRecDepth 100000 in
theorem WF_mark (hw : WF F B) (hr : r < cR F) (hc : 0 < cM F r) : WF (fun i => if i = mA r 0 + 3 then nI 1 else F i) B := by
  have h4 := hw.r2
  have m0 := mA_eq r 0
  have hlo : ∀ i, i < 189 → (fun i => if i = mA r 0 + 3 then nI 1 else F i) i = F i := fun i hi => if_neg (by omega)
  refine WF_upd hw (fun i hi => hlo i (by omega)) (fun r' hr' => ?_)
  have hT : cT (fun i => if i = mA r 0 + 3 then nI 1 else F i) = cT F := by unfold cT; rw [hlo 2 (by omega)]
  have w := hw.router hr'
  have hC : cM (fun i => if i = mA r 0 + 3 then nI 1 else F i) r' = cM F r' := by unfold cM; rw [hlo _ (by omega)]
  have ne : ∀ q, mA r' q ≠ mA r 0 + 3 := fun q => by have := mA_eq r' q; omega
  refine ⟨by rw [hC, hlo _ (by omega)]; exact w.1, by rw [hC]; exact w.2.1, fun q hq => ?_, fun q1 q2 h1 h2 => ?_⟩
  · rw [hC] at hq
    obtain ⟨g1, g2, g3, g4⟩ := w.2.2.1 q hq
    have e0 : (fun i => if i = mA r 0 + 3 then nI 1 else F i) (mA r' q) = F (mA r' q) := if_neg (ne q)
    refine ⟨by rw [e0]; exact g1, by rw [e0, hT]; exact g2, ?_, fun j hj => slotOk_cg (fun i a b => if_neg (by have := mA_eq r' q; omega)) (g4 j hj)⟩
    show (if mA r' q + 3 = mA r 0 + 3 then nI 1 else F (mA r' q + 3)) = nI 0 ∨ (if mA r' q + 3 = mA r 0 + 3 then nI 1 else F (mA r' q + 3)) = nI 1
    split
    · exact Or.inr rfl
    · exact g3
  · rw [hC] at h1 h2
    show (if mA r' q1 = mA r 0 + 3 then nI 1 else F (mA r' q1)) = (if mA r' q2 = mA r 0 + 3 then nI 1 else F (mA r' q2)) → _
    rw [if_neg (ne q1), if_neg (ne q2)]
    exact w.2.2.2 q1 q2 h1 h2
set_option maxHeartbeats 4000000 in
set_option maxRecDepth 100000 in
theorem rest_ok (hG : WF G B) (hr : r < cR G) (hp : p < cM G r) (hn : iN name 256) (hf : 0 ≤ flow.toInt) : WF (restF G r p name flow).2 B ∧ (∀ i, i < 165 → (restF G r p name flow).2 i = G i) ∧ 0 ≤ (restF G r p name flow).1.toInt := by
  have h4 := hG.r2
  have m0 := mA_eq r 0
  have hU := WF_uses hG hr hp
  have uR : r < cR (usesF G r p) := by unfold cR; rw [uses_lo (by omega)]; exact hr
  have uC : cM (usesF G r p) r = cM G r := uses_c
  have uL : ∀ i, i < 165 → usesF G r p i = G i := fun i hi => uses_lo (by omega)
  unfold restF
  dsimp only
  generalize hU' : usesF G r p = U at *
  have wU := hU.router uR
  obtain ⟨m1, m2, -, -⟩ := wU.2.2.1 0 (by omega)
  have hV : WF (plusF U (165 + 6 * r + 5)) B := WF_cnt (r := r) hU (by omega) (fun i hi => plus_o (by omega))
  have vR : r < cR (plusF U (165 + 6 * r + 5)) := by unfold cR; rw [plus_o (by omega)]; exact uR
  have vC : cM (plusF U (165 + 6 * r + 5)) r = cM G r := by unfold cM; rw [plus_o (by omega)]; exact uC
  have hD := WF_drop hV vR (p := 0) (by omega)
  have dR : r < cR (dropsF (plusF U (165 + 6 * r + 5)) r 0) := by unfold cR; rw [drops_lo (by omega)]; exact vR
  have dL : ∀ i, i < 165 → dropsF (plusF U (165 + 6 * r + 5)) r 0 i = G i := fun i hi => by rw [drops_lo hi, plus_o (by omega), uL i hi]
  by_cases hA : isAtF U (nn (U (mA r 0))) (choF U (mA r 0 + 4) flow)
  · rw [if_pos hA]
    refine ⟨?_, ?_, (isAt_pos hU m2 hA).1⟩
    · dsimp only
      split
      · exact hU
      · exact WF_mark hU uR (by omega)
    · intro i hi
      dsimp only
      split
      · exact uL i hi
      · dsimp only
        rw [if_neg (by omega)]; exact uL i hi
  · rw [if_neg hA]
    obtain ⟨a1, a2, a3, a4⟩ := asks_ok (name := name) hD dR
    have ac := asks_cho (flow := flow) (name := name) hD dR hf
    generalize hAs : asksF (dropsF (plusF U (165 + 6 * r + 5)) r 0) r name = A at *
    obtain ⟨ab, aG⟩ := A
    cases ab with
    | true => exact ⟨a1, fun i hi => (a2 i hi).trans (dL i hi), (ac rfl).1⟩
    | false => exact ⟨WF_cnt (r := r) a1 (by omega) (fun i hi => plus_o (by omega)), fun i hi => by
        show plusF aG (165 + 6 * r + 4) i = _
        rw [plus_o (by omega)]
        exact (a2 i hi).trans (dL i hi), by have := prox_nn hn; show 0 ≤ (proxF name).toInt; omega⟩
set_option maxHeartbeats 4000000 in
set_option maxRecDepth 100000 in
theorem send_ok (hw : WF F B) (hr : r < cR F) (hn : iN name 256) (hf : 0 ≤ flow.toInt) : WF (sendF F r name flow).2 B ∧ (∀ i, i < 165 → (sendF F r name flow).2 i = F i) ∧ 0 ≤ (sendF F r name flow).1.toInt := by
  have h4 := hw.r2
  have hw1 : WF (plusF F (165 + 6 * r + 3)) B := WF_cnt (r := r) hw (by omega) (fun i hi => plus_o (by omega))
  have hr1 : r < cR (plusF F (165 + 6 * r + 3)) := by unfold cR; rw [plus_o (by omega)]; exact hr
  obtain ⟨e1, e2, e3⟩ := end_ok (cM (plusF F (165 + 6 * r + 3)) r) _ (Nat.le_refl _) hw1 hr1
  have hl1 : ∀ i, i < 165 → plusF F (165 + 6 * r + 3) i = F i := fun i hi => plus_o (by omega)
  have px := prox_nn hn
  unfold sendF
  dsimp only
  generalize hF1 : plusF F (165 + 6 * r + 3) = F1 at *
  generalize hF2 : endF r (cM F1 r) F1 = F2 at *
  have hr2 : r < cR F2 := by rw [cR_of e2]; exact hr1
  have hl2 : ∀ i, i < 165 → F2 i = F i := fun i hi => (e2 i hi).trans (hl1 i hi)
  obtain ⟨a1, a2, a3, a4⟩ := asks_ok (name := name) e1 hr2
  have aR : r < cR (asksF F2 r name).2 := by rw [cR_of a2]; exact hr2
  have aC := asked_cM (F := F2) (name := name) (r := r) (by omega)
  generalize hAs : asksF F2 r name = A at *
  obtain ⟨ab, aG⟩ := A
  have go : ∀ H p, WF H B → r < cR H → p < cM H r → (∀ i, i < 165 → H i = F i) → WF (restF H r p name flow).2 B ∧ (∀ i, i < 165 → (restF H r p name flow).2 i = F i) ∧ 0 ≤ (restF H r p name flow).1.toInt := by
    intro H p g1 g2 g3 g4
    obtain ⟨t1, t2, t3⟩ := rest_ok (name := name) (flow := flow) g1 g2 g3 hn hf
    exact ⟨t1, fun i hi => (t2 i hi).trans (g4 i hi), t3⟩
  have al : ∀ i, i < 165 → aG i = F i := fun i hi => (a2 i hi).trans (hl2 i hi)
  cases ho : takeN F2 r name (cM F2 r) with
  | none =>
    cases ab with
    | true => exact go aG 0 a1 aR (a3 rfl) al
    | false => exact ⟨WF_cnt (r := r) a1 (by omega) (fun i hi => plus_o (by omega)), fun i hi => by
        show plusF aG (165 + 6 * r + 4) i = _
        rw [plus_o (by omega)]
        exact al i hi, by show 0 ≤ (proxF name).toInt; omega⟩
  | some p =>
    have hp := takeN_lt _ _ ho
    dsimp only
    by_cases hm : F2 (mA r p + 3) = nI 1
    · rw [if_pos hm]
      cases ab with
      | true => exact go aG 0 a1 aR (a3 rfl) al
      | false =>
        have e4 : aG = askedF F2 r name := a4 rfl
        have hpA : p < cM aG r := by rw [e4, aC]; exact hp
        exact ⟨WF_cnt (r := r) (WF_drop a1 aR hpA) (by omega) (fun i hi => plus_o (by omega)), fun i hi => by
          show plusF (dropsF aG r p) (165 + 6 * r + 4) i = _
          rw [plus_o (by omega), drops_lo hi]
          exact al i hi, by show 0 ≤ (proxF name).toInt; omega⟩
    · rw [if_neg hm]
      exact go F2 p e1 hr2 hp hl2
end REF23
