/-! THE REFERENCE: a new map -/
def newM (F : Fm) (k j : Nat) : Int32 := if j = 0 then nI k else if j = 1 then F (29 + 17 * k + 3) else if j = 2 then F 0 + F 4 else if j = 3 then nI 0 else F (29 + 17 * k + 5 + (j - 4))
section REF6
variable {L : Nat} {xs : Nat → Int32} {f i k r p q c j n B b : Nat} {x y v a z name flow place : Int32} {s : St} {F G : Fm} {Q : Option MV → St → Prop}
theorem fr_lo (h : i < 165) : fillF (roomF G r c) r k i = G i := by
  have h1 := mA_eq r 0
  have h2 := mA_eq r 1
  simp only [fillF, roomF]
  rw [if_neg (by omega), if_neg (by omega), if_neg (by omega), if_neg (by omega), if_neg (by omega), if_neg (by omega), if_neg (by omega)]
theorem fr_o (hr : r < 4) (h : i ≠ 165 + 6 * r) (hm : i < mA r 0 ∨ mA r (c + 1) ≤ i) : fillF (roomF G r c) r k i = G i := by
  have h1 := mA_eq r 0
  have h2 := mA_eq r 1
  have h3 := mA_eq r (c + 1)
  have h4 := mA_eq r c
  simp only [fillF, roomF]
  rw [if_neg (by omega), if_neg (by omega), if_neg (by omega), if_neg (by omega), if_neg (by omega), if_neg (by omega), if_neg (by omega)]
theorem fr_c (hr : r < 4) : fillF (roomF G r c) r k (165 + 6 * r) = G (165 + 6 * r) + nI 1 := by
  have h2 := mA_eq r 1
  show (if 165 + 6 * r = 165 + 6 * r then roomF G r c (165 + 6 * r) + nI 1 else _) = _
  rw [if_pos rfl]
  simp only [roomF]
  rw [if_neg (by omega)]
theorem fr_0 (hr : r < 4) (hk : k < 8) (hj : j < 16) : fillF (roomF G r c) r k (mA r 0 + j) = newM G k j := by
  have h1 := mA_eq r 0
  have h2 := mA_eq r 1
  have e : ∀ i, i < 165 → roomF G r c i = G i := fun i hi => by
    simp only [roomF]
    rw [if_neg (by omega)]
  simp only [fillF, newM]
  rw [if_neg (by omega)]
  by_cases h0 : j = 0
  · rw [if_pos (by omega), if_pos h0]
  rw [if_neg (by omega), if_neg h0]
  by_cases h0 : j = 1
  · rw [if_pos (by omega), if_pos h0, e _ (by omega)]
  rw [if_neg (by omega), if_neg h0]
  by_cases h0 : j = 2
  · rw [if_pos (by omega), if_pos h0, e _ (by omega), e _ (by omega)]
  rw [if_neg (by omega), if_neg h0]
  by_cases h0 : j = 3
  · rw [if_pos (by omega), if_pos h0]
  rw [if_neg (by omega), if_neg h0, if_pos (by omega), e _ (by omega)]
  congr 1
  omega
theorem fr_m (hr : r < 4) (h0 : 0 < q) (hq : q ≤ c) (hj : j < 16) : fillF (roomF G r c) r k (mA r q + j) = G (mA r (q - 1) + j) := by
  have h1 := mA_eq r 0
  have h2 := mA_eq r 1
  have h3 := mA_eq r q
  have h4 := mA_eq r c
  have h5 := mA_eq r (q - 1)
  simp only [fillF, roomF]
  rw [if_neg (by omega), if_neg (by omega), if_neg (by omega), if_neg (by omega), if_neg (by omega), if_neg (by omega), if_pos (by omega)]
  congr 1
  omega
theorem new_cM (hw : WF F B) (hr : r < cR F) : cM (newF F r k) r = cM (cutF F r k) r + 1 ∧ newF F r k (165 + 6 * r) = nI (cM (cutF F r k) r + 1) := by
  have h4 := hw.r2
  obtain ⟨g1, g2, g3, g4⟩ := cut_ok (k := k) hw hr
  have e3 : cR (cutF F r k) = cR F := by unfold cR; rw [g3 3 (by omega)]
  have w := (g1.router (r := r) (by omega)).1
  have e : newF F r k (165 + 6 * r) = nI (cM (cutF F r k) r + 1) := by
    rw [newF_eq, fr_c (by omega), w, nI_add]
  refine ⟨?_, e⟩
  show nn (newF F r k (165 + 6 * r)) = _
  rw [e]
  exact nI_cl (by omega)
theorem new_lo (hw : WF F B) (hr : r < cR F) (h : i < 165) : newF F r k i = F i := by
  rw [newF_eq, fr_lo h]
  exact (cut_ok (k := k) hw hr).2.2.1 i h
theorem WF_new (hw : WF F B) (hr : r < cR F) (hk : k < cT F) : WF (newF F r k) B := by
  have h4 := hw.r2
  have ht := hw.t2
  obtain ⟨g1, g2, g3, g4⟩ := cut_ok (k := k) hw hr
  have e3 : cR (cutF F r k) = cR F := by unfold cR; rw [g3 3 (by omega)]
  have eT : cT (newF F r k) = cT F := by unfold cT; rw [new_lo hw hr (by omega)]
  have eT2 : cT (cutF F r k) = cT F := by unfold cT; rw [g3 2 (by omega)]
  obtain ⟨c1, c2⟩ := new_cM (k := k) hw hr
  refine WF_upd hw (fun i hi => new_lo hw hr hi) (fun r' hr' => ?_)
  by_cases e : r' = r
  · subst e
    have w := g1.router (r := r') (by omega)
    have e0 : newF F r' k (mA r' 0) = nI k := fr_0 (j := 0) (by omega) (by omega) (by omega)
    have em : ∀ q, 0 < q → q < cM (newF F r' k) r' → ∀ j, j < 16 → newF F r' k (mA r' q + j) = cutF F r' k (mA r' (q - 1) + j) := fun q a b j hj => by rw [newF_eq]; exact fr_m (by omega) a (by omega) hj
    refine ⟨by rw [c1, c2], by omega, fun q hq => ?_, fun q1 q2 a b e => ?_⟩
    · by_cases h0 : q = 0
      · subst h0
        refine ⟨by rw [e0, show nn (nI k) = k from nI_cl (by omega)], by rw [e0, eT, show nn (nI k) = k from nI_cl (by omega)]; exact hk, Or.inl (by rw [newF_eq, fr_0 (by omega) (by omega) (by omega)]; rfl), fun j hj => ?_⟩
        have hs := hw.flag hk j hj
        have ej : ∀ t, t < 4 → newF F r' k (mA r' 0 + 4 + 4 * j + t) = F (29 + 17 * k + 5 + 4 * j + t) := fun t ht => by
          have e1 : mA r' 0 + 4 + 4 * j + t = mA r' 0 + (4 + 4 * j + t) := by omega
          rw [e1, newF_eq, fr_0 (by omega) (by omega) (by omega)]
          unfold newM
          rw [if_neg (by omega), if_neg (by omega), if_neg (by omega), if_neg (by omega), g3 _ (by omega)]
          congr 1
          omega
        unfold slotOk at hs ⊢
        have t0 := ej 0 (by omega)
        rw [Nat.add_zero, Nat.add_zero] at t0
        rw [t0, ej 1 (by omega), ej 2 (by omega), ej 3 (by omega)]
        exact hs
      · exact WFmap_sh (em q (by omega) hq) (by rw [eT, eT2]) (w.2.2.1 (q - 1) (by omega))
    · by_cases a0 : q1 = 0 <;> by_cases b0 : q2 = 0
      · omega
      · exfalso
        rw [a0, e0] at e
        have := em q2 (by omega) b 0 (by omega)
        rw [Nat.add_zero, Nat.add_zero] at this
        exact g4 (q2 - 1) (by omega) (by rw [← this, ← e])
      · exfalso
        rw [b0, e0] at e
        have := em q1 (by omega) a 0 (by omega)
        rw [Nat.add_zero, Nat.add_zero] at this
        exact g4 (q1 - 1) (by omega) (by rw [← this, e])
      · have t1 := em q1 (by omega) a 0 (by omega)
        have t2 := em q2 (by omega) b 0 (by omega)
        rw [Nat.add_zero, Nat.add_zero] at t1 t2
        have := w.2.2.2 (q1 - 1) (q2 - 1) (by omega) (by omega) (by rw [← t1, ← t2, e])
        omega
  · have h1 := mA_eq r' 0
    have h2 := mA_eq r' 5
    have h3 := mA_eq r 0
    have h6 := mA_eq r (cM (cutF F r k) r + 1)
    have w := g1.router (r := r') (by omega)
    refine WFrouter_cg (F := cutF F r k) (by rw [eT, eT2]) (by rw [newF_eq]; exact fr_o (by omega) (by omega) (by omega)) (fun i a b => by rw [newF_eq]; exact fr_o (by omega) (by omega) (by omega)) w
end REF6
