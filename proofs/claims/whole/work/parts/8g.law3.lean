/-! THE LAW: the loop -/
section LAW3
variable {L : Nat} {xs : Nat → Int32} {f i n m j r p B : Nat} {s s1 : St} {F G : Fm} {T : Nat → Nat} {Q0 : Option MV → St → Prop} {X : Nat → List MV → List MV → St → Prop} {call : Nat → List MV → St → (Option MV → St → Prop) → Prop}
set_option maxHeartbeats 4000000 in
set_option maxRecDepth 100000 in
theorem law_next (hX : walkL call L xs Q0 X) (hi : i ≤ 4000) (h : X 18 (lsL (i + 6)) [] s) : X 1058 (lsL i) [] s := by
  refine hX 1000 1058 _ _ _ ?_
  repeat' (first | (intro hc) | (refine And.intro ?_ ?_) | (exact absurd nI_0 ‹cmpF 0 (nI 0) 0›) | (exact absurd ‹cmpT 0 (nI 1) 0› nI1_ne) | (exact absurd nI_0 ‹cmpT 1 (nI 0) 0›) | (exact absurd ‹cmpF 1 (nI 1) 0› nI1_ne) | (show wp _ _ _ _ _ _ _ _ _ _ _ _; conv => whnf))
  simp (disch := omega) only [nI_add, takeL, setL]
  exact h
theorem len6 (hL : L ≤ 3072) : (Int32.ofNat L - nI 6).toInt = (L : Int) - 6 := by
  have e : Int32.ofNat L = nI L := rfl
  rw [e, nI_subI (by omega) (by omega)]
  omega
theorem one_bool : nI 1 = 0 ∨ nI 1 = 1 := Or.inr (by decide +kernel)
set_option maxHeartbeats 4000000 in
set_option maxRecDepth 100000 in
theorem law_end (hX : walkL call L xs Q0 X) (hQ : ∀ s, Q0 (some (.inl (nI 1))) s) (hL : L ≤ 3072) (hi : i ≤ 4000) (hiL : L < i + 6) : X 18 (lsL i) [] s := by
  have key : ¬ cmpF 4 (nI i) (Int32.ofNat L - nI 6) := fun q => by
    have q : (nI i).toInt ≤ (Int32.ofNat L - nI 6).toInt := q
    rw [len6 hL, nI_toI (n := i) (by omega)] at q
    omega
  refine hX 1000 18 _ _ _ ?_
  repeat' (first | (intro hc) | (refine And.intro ?_ ?_) | (exact absurd nI_0 ‹cmpF 0 (nI 0) 0›) | (exact absurd ‹cmpT 0 (nI 1) 0› nI1_ne) | (exact absurd nI_0 ‹cmpT 1 (nI 0) 0›) | (exact absurd ‹cmpF 1 (nI 1) 0› nI1_ne) | (show wp _ _ _ _ _ _ _ _ _ _ _ _; conv => whnf))
  all_goals first
    | exact absurd (by assumption) key
    | exact hQ _
    | exact one_bool
set_option maxHeartbeats 4000000 in
set_option maxRecDepth 100000 in
theorem law_step (hX : walkL call L xs Q0 X) (hcall : callL call L xs f) (hR : Rel s F G n m T B) (hB1 : 1 ≤ B) (hB2 : B < 1000) (hi : i + 6 ≤ L) (hL : L ≤ 3072) (hn : ∀ s' F' G' n' m' T', Rel s' F' G' n' m' T' (B + 1) → X 1058 (lsL i) [] s') : X 18 (lsL i) [] s := by
  have key : ¬ cmpT 4 (nI i) (Int32.ofNat L - nI 6) := fun q => by
    have q : (Int32.ofNat L - nI 6).toInt < (nI i).toInt := q
    rw [len6 hL, nI_toI (n := i) (by omega)] at q
    omega
  have g1 : 0 ≤ (nI i).toInt := by rw [nI_toI (n := i) (by omega)]; omega
  have g2 : (nI i).toInt < (L : Int) := by rw [nI_toI (n := i) (by omega)]; omega
  refine hX 1000 18 _ _ _ ?_
  repeat' (first | (intro hc) | (refine And.intro ?_ ?_) | (exact absurd nI_0 ‹cmpF 0 (nI 0) 0›) | (exact absurd ‹cmpT 0 (nI 1) 0› nI1_ne) | (exact absurd nI_0 ‹cmpT 1 (nI 0) 0›) | (exact absurd ‹cmpF 1 (nI 1) 0› nI1_ne) | (show wp _ _ _ _ _ _ _ _ _ _ _ _; conv => whnf))
  all_goals first
    | exact absurd (by assumption) key
    | exact g1
    | exact g2
    | exact law_addServer hX hcall hR hB1 (by omega) (by omega) hL hn
    | exact law_addSite hX hcall hR hB1 (by omega) (by omega) hL hn
    | exact law_addRouter hX hcall hR hB1 (by omega) (by omega) hL hn
    | exact law_setSlot hX hcall hR hB1 (by omega) (by omega) hL hn
    | exact law_emptySlot hX hcall hR hB1 (by omega) (by omega) hL hn
    | exact law_register hX hcall hR hB1 (by omega) (by omega) hL hn
    | exact law_unregister hX hcall hR hB1 (by omega) (by omega) hL hn
    | exact law_setMapLife hX hcall hR hB1 (by omega) (by omega) hL hn
    | exact law_send hX hcall hR hB1 (by omega) (by omega) hL hn
    | exact law_pass hX hcall hR hB1 (by omega) (by omega) hL hn
    | exact law_forget hX hcall hR hB1 (by omega) (by omega) hL hn
    | exact law_append hX hcall hR hB1 (by omega) (by omega) hL hn
    | exact law_clearText hX hcall hR hB1 (by omega) (by omega) hL hn
    | exact law_faultPosition hX hcall hR hB1 (by omega) (by omega) hL hn
    | exact law_run hX hcall hR hB1 (by omega) (by omega) hL hn
    | exact law_undo hX hcall hR hB1 (by omega) (by omega) hL hn
    | exact law_save hX hcall hR hB1 (by omega) (by omega) hL hn
    | exact law_restore hX hcall hR hB1 (by omega) (by omega) hL hn
    | exact law_server hX hcall hR (by omega) hL hn
    | exact law_site hX hcall hR (by omega) hL hn
    | exact law_slot hX hcall hR (by omega) hL hn
    | exact law_router hX hcall hR (by omega) hL hn
    | exact law_map hX hcall hR (by omega) hL hn
    | exact law_answer hX hcall hR (by omega) hL hn
    | exact law_way hX hcall hR (by omega) hL hn
    | exact law_endingNext hX hcall hR (by omega) hL hn
    | exact law_total hX hcall hR hB1 (by omega) (by omega) hL hn
    | exact law_wouldReach hX hcall hR hB1 (by omega) (by omega) hL hn
    | exact law_wouldAsk hX hcall hR hB1 (by omega) (by omega) hL hn
    | exact law_share hX hcall hR (by omega) hL hn
    | exact hn _ _ _ _ _ _ (Rel_B hR (by omega))
theorem law_loop (hX : walkL call L xs Q0 X) (hcall : callL call L xs f) (hQ : ∀ s, Q0 (some (.inl (nI 1))) s) (hL : L ≤ 3072) : ∀ (k i B n m : Nat) (T : Nat → Nat) (s : St) (F G : Fm), Rel s F G n m T B → 1 ≤ B → 6 * B ≤ i + 6 → i ≤ L + 5 → L < i + 6 * k → X 18 (lsL i) [] s := by
  intro k
  induction k with
  | zero => intro i B n m T s F G hR h1 h2 h3 h4; exact law_end hX hQ hL (by omega) (by omega)
  | succ k ih =>
    intro i B n m T s F G hR h1 h2 h3 h4
    by_cases h : L < i + 6
    · exact law_end hX hQ hL (by omega) h
    · refine law_step hX hcall hR h1 (by omega) (by omega) hL (fun s' F' G' n' m' T' hR' => ?_)
      exact law_next hX (by omega) (ih _ _ _ _ _ _ _ _ hR' (by omega) (by omega) (by omega) (by omega))
end LAW3
