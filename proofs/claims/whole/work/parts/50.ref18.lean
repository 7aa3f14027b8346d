/-! THE REFERENCE: map, isAhead -/
def mapA (F : Fm) (v x w : Int32) : Int32 := if ¬ (iN v (cR F) ∧ iN x (cM F (nn v))) then -1 else if ¬ iN w 5 then -2 else if w.toInt < 4 then F (mA (nn v) (nn x) + nn w) else if (F 0).toInt < (F (mA (nn v) (nn x) + 2)).toInt then nI 1 else nI 0
section REF18
variable {L : Nat} {xs : Nat → Int32} {f i k r q c j n B b w m : Nat} {x y v a z l name flow place : Int32} {s : St} {F G F' : Fm} {Q : Option MV → St → Prop} {p : Nat → Bool}
abbrev aheadF (F : Fm) (k m : Nat) : Prop := (F 0).toInt < (F (29 + 17 * k + 4)).toInt ∧ ((F (29 + 17 * k + 4)).toInt < (F (29 + 17 * m + 4)).toInt ∨ (F (29 + 17 * k + 4) = F (29 + 17 * m + 4) ∧ k < m))
set_option maxHeartbeats 4000000 in
set_option maxRecDepth 100000 in
theorem r_isAhead (hk : k < 8) (hm : m < 8) (h : Q (some (.inl (bI (aheadF F k m)))) (setN s F)) : wpM L xs codT retT (f + 4) m_X10_isAhead [.inr (10, 0), .inl (nI k), .inl (nI m)] (setN s F) Q := by
  intro call hcall X hX; refine hX 1000 0 _ _ _ ?_
  repeat' (first | (intro hc) | (refine And.intro ?_ ?_) | (exact absurd nI_0 ‹cmpF 0 (nI 0) 0›) | (exact absurd ‹cmpT 0 (nI 1) 0› nI1_ne) | (exact absurd nI_0 ‹cmpT 1 (nI 0) 0›) | (exact absurd ‹cmpF 1 (nI 1) 0› nI1_ne) | (show wp _ _ _ _ _ _ _ _ _ _ _ _; conv => whnf) | (simp (disch := omega) only [nI_add, nI_mul, setN_now, setN_put, nI_cl, Nat.add_zero]) | (refine hcall _ _ _ _ ?_; first | (refine r_ofSite (by omega) ?_) | (refine r_isRegistered (by omega) ?_) | fail))
  all_goals (clear hX hcall)
  all_goals (simp (disch := omega) only [cmpT, cmpF, bI_eq0, bI_ne0, Classical.not_not, nI_toI] at *)
  all_goals first
    | exact Or.inl rfl
    | exact Or.inr rfl
    | (refine bI_1 h ⟨by assumption, Or.inl (by assumption)⟩)
    | (refine bI_1 h ⟨by assumption, Or.inr ⟨by assumption, by omega⟩⟩)
    | (refine bI_0 h ?_; rintro ⟨h1, h2 | ⟨h2, h3⟩⟩ <;> first | contradiction | omega)
end REF18
