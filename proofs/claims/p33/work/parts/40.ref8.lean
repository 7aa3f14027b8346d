/-! THE REFERENCE: sends -/
section REF8
variable {L : Nat} {xs : Nat → Int32} {f i k r p q c j n B b : Nat} {x y v a z name flow place : Int32} {s : St} {F G : Fm} {Q : Option MV → St → Prop}
theorem asks_ok (hw : WF F B) (hr : r < cR F) : WF (asksF F r name).2 B ∧ (∀ i, i < 165 → (asksF F r name).2 i = F i) ∧ ((asksF F r name).1 = true → 1 ≤ cM (asksF F r name).2 r) ∧ ((asksF F r name).1 = false → (asksF F r name).2 = askedF F r name) := by
  have h4 := hw.r2
  have hwA := WF_asked (name := name) hw (show r < 4 by omega)
  have hrA : r < cR (askedF F r name) := by unfold cR; rw [asked_o (by omega) (by omega)]; exact hr
  have lo : ∀ i, i < 165 → askedF F r name i = F i := fun i hi => asked_o (by omega) (by omega)
  unfold asksF
  cases ho : ansF (askedF F r name) name with
  | none => exact ⟨hwA, lo, fun h => (nomatch h), fun _ => rfl⟩
  | some k =>
    have hk := ansF_lt ho
    refine ⟨WF_new hwA hrA hk, fun i hi => ?_, fun _ => ?_, fun h => (nomatch h)⟩
    · show newF _ _ _ i = _
      rw [new_lo hwA hrA hi, lo i hi]
    · show 1 ≤ cM (newF _ _ _) r
      rw [(new_cM hwA hrA).1]
      omega
theorem plus_o (h : i ≠ j) : plusF F j i = F i := if_neg h
theorem cR_of (h : ∀ i, i < 165 → G i = F i) : cR G = cR F := by unfold cR; rw [h 3 (by omega)]
theorem asked_cM (hr : r < 4) : cM (askedF F r name) r = cM F r := by unfold cM; rw [asked_o (by omega) (by omega)]
end REF8
