/-! THE REFERENCE: wouldReach, wouldAsk -/
def reachA (F : Fm) (v name flow x : Int32) : Int32 := if ¬ iN v (cR F) then -1 else if ¬ ((iN name 256 ∧ iN flow 100) ∧ iN x 100) then -2 else (sendF (putF F 0 (F 0 + x)) (nn v) name flow).1
def askA (F : Fm) (v name flow : Int32) : Int32 := if ¬ iN v (cR F) then -1 else if ¬ (iN name 256 ∧ iN flow 100) then -2 else (sendF F (nn v) name flow).2 (165 + 6 * nn v + 1) - F (165 + 6 * nn v + 1)
section REF24
variable {L : Nat} {xs : Nat → Int32} {f i k r p q c j n B b w m : Nat} {x y v a z l name flow place : Int32} {s : St} {F G F' : Fm} {Q : Option MV → St → Prop}
set_option maxHeartbeats 4000000 in
set_option maxRecDepth 100000 in
theorem WF_cgr (hw : WF F B) (h : ∀ i, 0 < i → i < 509 → G i = F i) (h0 : 0 ≤ (G 0).toInt ∧ (G 0).toInt ≤ 10200) : WF G B := by
  have e1 : cS G = cS F := by unfold cS; rw [h 1 (by omega) (by omega)]
  have e2 : cT G = cT F := by unfold cT; rw [h 2 (by omega) (by omega)]
  have e3 : cR G = cR F := by unfold cR; rw [h 3 (by omega) (by omega)]
  have hs := hw.s2
  have ht := hw.t2
  have hr := hw.r2
  refine ⟨?_, ?_, ?_, h0, ?_, fun k hk => ?_, fun k hk => ?_, fun r hk => ?_⟩
  · rw [h 1 (by omega) (by omega), e1]; exact hw.1
  · rw [h 2 (by omega) (by omega), e2]; exact hw.2.1
  · rw [h 3 (by omega) (by omega), e3]; exact hw.2.2.1
  · rw [h 4 (by omega) (by omega)]; exact hw.l
  · rw [e1] at hk
    have q := hw.server hk
    unfold WFserver at q ⊢
    rw [h (5 + 3 * k) (by omega) (by omega), h (5 + 3 * k + 1) (by omega) (by omega), h (5 + 3 * k + 2) (by omega) (by omega)]
    exact q
  · rw [e2] at hk
    have q := hw.site hk
    unfold WFsite at q ⊢
    rw [h (29 + 17 * k) (by omega) (by omega), h (29 + 17 * k + 1) (by omega) (by omega), h (29 + 17 * k + 2) (by omega) (by omega), h (29 + 17 * k + 3) (by omega) (by omega), h (29 + 17 * k + 4) (by omega) (by omega)]
    exact ⟨q.1, q.2.1, q.2.2.1, q.2.2.2.1, fun j hj => slotOk_cg (fun i h1 h2 => h i (by omega) (by omega)) (q.2.2.2.2 j hj)⟩
  · rw [e3] at hk
    have m0 := mA_eq r 0
    have m5 := mA_eq r 5
    exact WFrouter_cg e2 (h _ (by omega) (by omega)) (fun i a b => h i (by omega) (by omega)) (hw.router hk)
theorem WF_hour (hw : WF F B) (h0 : 0 ≤ x.toInt ∧ x.toInt ≤ 10200) : WF (putF F 0 x) B := WF_cgr hw (fun i h1 h2 => putF_ne _ _ (by omega)) (by rw [putF_at]; exact h0)
theorem back_F (hi : i < 509) : mixF F' (fun k => keepG G F 7 (509 * 7 + k)) i = F i := by
  unfold mixF keepG
  rw [if_pos hi]
  dsimp only
  rw [if_pos (by omega), show 509 * 7 + i - 509 * 7 = i by omega]
theorem keep_lo (hi : i < 3563) : keepG G F 7 i = G i := by
  unfold keepG
  rw [if_neg (by omega)]
theorem add_hour (h1 : 0 ≤ a.toInt ∧ a.toInt ≤ 10000) (h2 : 0 ≤ x.toInt ∧ x.toInt ≤ 100) : (a + x).toInt = a.toInt + x.toInt := by
  rw [Int32.toInt_add]
  apply Int.bmod_eq_of_le <;> omega
theorem iN_let (h : iN name 256 ∧ iN flow 100) : (0 ≤ name.toInt ∧ name.toInt ≤ 255) ∧ 0 ≤ flow.toInt ∧ flow.toInt ≤ 99 := by omega
theorem iN_nlet (h : ¬ (iN name 256 ∧ iN flow 100)) : ¬ ((0 ≤ name.toInt ∧ name.toInt ≤ 255) ∧ 0 ≤ flow.toInt ∧ flow.toInt ≤ 99) := by omega
end REF24
