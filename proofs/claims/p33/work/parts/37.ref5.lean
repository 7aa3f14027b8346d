/-! THE REFERENCE: asking -/
section REF5
variable {L : Nat} {xs : Nat → Int32} {f i k r p q c j n B b : Nat} {x y v a z name flow place : Int32} {s : St} {F G : Fm} {Q : Option MV → St → Prop}
theorem asked_o (h : i ≠ 165 + 6 * r + 1) (h2 : i ≠ 165 + 6 * r + 2) : askedF F r name i = F i := by
  simp only [askedF]
  rw [if_neg h, if_neg h2]
theorem asked_put (hw : WF F B) (hr : r < 4) : putF (putF F (165 + 6 * r + 1) (F (165 + 6 * r + 1) + nI 1)) (165 + 6 * r + 2) (putF F (165 + 6 * r + 1) (F (165 + 6 * r + 1) + nI 1) (165 + 6 * r + 2) + nI (wayF (putF F (165 + 6 * r + 1) (F (165 + 6 * r + 1) + nI 1)) (homeF (putF F (165 + 6 * r + 1) (F (165 + 6 * r + 1) + nI 1)) name (nI 1)))) = askedF F r name := by
  have hlo : ∀ i, i < 29 → putF F (165 + 6 * r + 1) (F (165 + 6 * r + 1) + nI 1) i = F i := fun i hi => putF_ne _ _ (by omega)
  rw [homeF_cg hw hlo, wayF_cg hw hlo (homeF_ltS hw)]
  funext i
  simp only [putF, askedF]
  (repeat' split) <;> first | rfl | omega | (exfalso; omega) | (subst_vars; rfl)
theorem WF_asked (hw : WF F B) (hr : r < 4) : WF (askedF F r name) B := WF_cnt hw hr (fun i hi => asked_o (by omega) (by omega))
theorem purge_le : ∀ n F, n ≤ cM F r → WF F B → r < cR F → WF (purgeF r k n F) B ∧ cM (purgeF r k n F) r ≤ cM F r ∧ ∀ i, i < 165 → purgeF r k n F i = F i := by
  intro n
  induction n with
  | zero => intro F _ hw hr; exact ⟨hw, Nat.le_refl _, fun _ _ => rfl⟩
  | succ n ih =>
    intro F hn hw hr
    have h4 := hw.r2
    unfold purgeF
    by_cases h : F (mA r n) = nI k
    · rw [if_pos h]
      have w := WF_drop hw hr (p := n) (by omega)
      obtain ⟨e1, e2⟩ := drops_c (p := n) (hw.router hr) (by omega)
      have e3 : cR (dropsF F r n) = cR F := by unfold cR; rw [drops_lo (by omega)]
      obtain ⟨g1, g2, g3⟩ := ih (dropsF F r n) (by omega) w (by omega)
      exact ⟨g1, by omega, fun i hi => by rw [g3 i hi, drops_lo hi]⟩
    · rw [if_neg h]
      exact ih F (by omega) hw hr
/-- behind the purge no map of site k is left -/
theorem purge_no : ∀ n F, n ≤ cM F r → WF F B → r < cR F → (∀ p, n ≤ p → p < cM F r → F (mA r p) ≠ nI k) → ∀ p, p < cM (purgeF r k n F) r → purgeF r k n F (mA r p) ≠ nI k := by
  intro n
  induction n with
  | zero => intro F _ hw hr h p hp; exact h p (by omega) hp
  | succ n ih =>
    intro F hn hw hr hno
    have h4 := hw.r2
    unfold purgeF
    by_cases h : F (mA r n) = nI k
    · rw [if_pos h]
      have w := WF_drop hw hr (p := n) (by omega)
      obtain ⟨e1, e2⟩ := drops_c (p := n) (hw.router hr) (by omega)
      have e3 : cR (dropsF F r n) = cR F := by unfold cR; rw [drops_lo (by omega)]
      refine ih (dropsF F r n) (by omega) w (by omega) (fun p h1 h2 => ?_)
      have e5 : dropsF F r n (mA r p) = F (mA r (if n ≤ p then p + 1 else p)) := drops_map (j := 0) (by omega) (by omega) (by omega)
      rw [e5, if_pos h1]
      exact hno _ (by omega) (by omega)
    · rw [if_neg h]
      refine ih F (by omega) hw hr (fun p h1 h2 => ?_)
      rcases Nat.lt_or_ge n p with g | g
      · exact hno p (by omega) h2
      · have : p = n := by omega
        rw [this]; exact h
def cutF (F : Fm) (r k : Nat) : Fm := if cM (purgeF r k (cM F r) F) r = 5 then dropsF (purgeF r k (cM F r) F) r 4 else purgeF r k (cM F r) F
theorem newF_eq : newF F r k = fillF (roomF (cutF F r k) r (cM (cutF F r k) r)) r k := rfl
theorem cut_ok (hw : WF F B) (hr : r < cR F) : WF (cutF F r k) B ∧ cM (cutF F r k) r ≤ 4 ∧ (∀ i, i < 165 → cutF F r k i = F i) ∧ ∀ p, p < cM (cutF F r k) r → cutF F r k (mA r p) ≠ nI k := by
  have h4 := hw.r2
  obtain ⟨g1, g2, g3⟩ := purge_le (k := k) (cM F r) F (Nat.le_refl _) hw hr
  have g4 := purge_no (k := k) (cM F r) F (Nat.le_refl _) hw hr (fun p a b => absurd a (by omega))
  have e3 : cR (purgeF r k (cM F r) F) = cR F := by unfold cR; rw [g3 3 (by omega)]
  have g5 := (g1.router (r := r) (by omega)).2.1
  unfold cutF
  by_cases h : cM (purgeF r k (cM F r) F) r = 5
  · rw [if_pos h]
    obtain ⟨e1, e2⟩ := drops_c (p := 4) (g1.router (r := r) (by omega)) (by omega)
    refine ⟨WF_drop g1 (by omega) (by omega), by omega, fun i hi => by rw [drops_lo hi, g3 i hi], fun p hp => ?_⟩
    have e5 : dropsF (purgeF r k (cM F r) F) r 4 (mA r p) = purgeF r k (cM F r) F (mA r (if 4 ≤ p then p + 1 else p)) := drops_map (j := 0) (by omega) (by omega) (by omega)
    rw [e5]
    apply g4
    split <;> omega
  · rw [if_neg h]
    exact ⟨g1, by omega, g3, g4⟩
end REF5
