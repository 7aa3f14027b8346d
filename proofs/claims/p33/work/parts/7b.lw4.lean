/-! THE LAW'S CHECKS: hasPlace, areEnding -/
section LW4
variable {L : Nat} {xs : Nat → Int32} {f i n B k r m j p c k0 j0 : Nat} {x y v a b name place hv ow : Int32} {s s' : St} {F G : Fm} {Q : Option MV → St → Prop}
theorem g_slo (hw : WF F B) (hR : RepW s 0 F) (hk : k < cT F) (hj : j < 3) (h : Q (some (.inl (if F (29 + 17 * k + 5 + 4 * j) = nI 1 then F (29 + 17 * k + 5 + 4 * j + 1) else -5))) s) : wpM L xs codT retT (f + 3) m_X9_slot [.inr (9, 0), .inl (nI k), .inl (nI j), .inl (nI 0)] s Q := by
  have h8 := hw.t2
  refine c_slot hw hR ?_
  unfold slotA
  rw [if_neg (fun q => q ⟨iN_k hk (by omega), iN_k hj (by omega)⟩), if_neg (fun q => q (iN_k (by omega) (by omega))), show nn (nI k) = k from nI_cl (by omega), show nn (nI j) = j from nI_cl (by omega), show nn (nI 0) = 0 from rfl, Nat.add_zero]
  exact h
set_option maxHeartbeats 4000000 in
set_option maxRecDepth 100000 in
theorem l_hasPlace (hw : WF F B) (hR : RepW s 0 F) (hk0 : k0 < cT F) (hu : upF F k0) (hh : hasF F k0 name) (hj0 : j0 < 3) (h1 : F (29 + 17 * k0 + 5 + 4 * j0) = nI 1) (h2 : F (29 + 17 * k0 + 5 + 4 * j0 + 1) = place) (h : Q (some (.inl (nI 1))) s) : wpM L xs codT retT (f + 7) m_L_hasPlace [.inr (9, 0), .inl name, .inl place] s Q := by
  have h8 := hw.t2
  have e2 : totW F 2 = nI (cT F) := hw.t1
  have hbu : bI (upF F k0) = nI 1 := if_pos hu
  have loop : ∀ X : Nat → List MV → List MV → St → Prop, ∀ call : Nat → List MV → St → (Option MV → St → Prop) → Prop, (∀ (m : Nat) (as : List MV) (s : St) (Q : Option MV → St → Prop), wpM L xs codT retT (f + 6) m as s Q → call m as s Q) → (∀ N pc ls st z, wp call L xs (retT m_L_hasPlace) Q X (codT m_L_hasPlace) N (behind (fromPc (codT m_L_hasPlace) pc)) ls st z → X pc ls st z) → ∀ k, k ≤ cT F → ∀ hv, (hv = nI 0 ∨ hv = nI 1) → (k0 < k → hv = nI 1) → X 5 [.inr (9, 0), .inl name, .inl place, .inl hv, .inl (nI k)] [] s := by
    intro X call hcall hX
    refine loopD (cT F) (fun k hk ih => ?_) ?_
    · clear h
      intro hv hv1 hv2
      have mloop : ∀ ow, (ow = nI 0 ∨ ow = nI 1) → (k = k0 → ow = nI 1) → ∀ m, m ≤ 3 → ∀ hv, (hv = nI 0 ∨ hv = nI 1) → (k0 < k ∨ (k0 = k ∧ j0 < m) → hv = nI 1) → X 67 [.inr (9, 0), .inl name, .inl place, .inl hv, .inl (nI k), .inl ow, .inl (nI m)] [] s := by
        intro ow ow1 ow2
        refine loopD 3 (fun m hm ihm => ?_) ?_
        · clear ih
          intro hv hv1 hv2
          refine hX 1000 67 _ _ _ ?_
          repeat' (first | (intro hc) | (refine And.intro ?_ ?_) | (exact absurd nI_0 ‹cmpF 0 (nI 0) 0›) | (exact absurd ‹cmpT 0 (nI 1) 0› nI1_ne) | (exact absurd nI_0 ‹cmpT 1 (nI 0) 0›) | (exact absurd ‹cmpF 1 (nI 1) 0› nI1_ne) | (show wp _ _ _ _ _ _ _ _ _ _ _ _; conv => whnf) | (simp (disch := omega) only [nI_add, nI_mul, setN_now, setN_put, nI_cl, Nat.add_zero]) | (refine hcall _ _ _ _ ?_; first | (refine g_slo hw hR hk hm ?_) | fail))
          all_goals (try simp only [takeL, setL, nI_add])
          · exact ihm _ (Or.inr rfl) (fun _ => rfl)
          · refine ihm _ (Or.inl rfl) (fun q => ?_)
            have hz : hv = nI 0 := ‹cmpF 1 hv 0›
            have hn : ¬ (if F (29 + 17 * k + 5 + 4 * m) = nI 1 then F (29 + 17 * k + 5 + 4 * m + 1) else -5) = place := hc
            by_cases e : k0 < k ∨ (k0 = k ∧ j0 < m)
            · rw [← hz]; exact hv2 e
            · have ek : k0 = k := by omega
              have em : j0 = m := by omega
              subst ek em
              rw [if_pos h1] at hn
              exact absurd h2 hn
          · refine ihm _ (Or.inl rfl) (fun q => ?_)
            have hz : hv = nI 0 := ‹cmpF 1 hv 0›
            have ho : ow = nI 0 := hc
            rcases q with q | q
            · rw [← hz]; exact hv2 (Or.inl q)
            · rw [← ho]; exact ow2 q.1.symm
          · exact ihm _ (Or.inr rfl) (fun _ => rfl)
          all_goals (clear ihm; (try clear hX hcall); (try clear h); (try simp (disch := omega) only [cmpT, cmpF, bI_eq0, bI_ne0, Classical.not_not, nI_toI, nI_cl, nI_inj, nI_add, nI_mul, nI_subI, takeL, setL, Int32.toInt_zero, Nat.add_zero, setN_now, alen20, alen11, alen12, alen13, alen14, alen15, alen16, alen17, alen18, alen19, (id e2)] at *); omega)
        · intro hv hv1 hv2
          refine hX 1000 67 _ _ _ ?_
          repeat' (first | (intro hc) | (refine And.intro ?_ ?_) | (exact absurd nI_0 ‹cmpF 0 (nI 0) 0›) | (exact absurd ‹cmpT 0 (nI 1) 0› nI1_ne) | (exact absurd nI_0 ‹cmpT 1 (nI 0) 0›) | (exact absurd ‹cmpF 1 (nI 1) 0› nI1_ne) | (show wp _ _ _ _ _ _ _ _ _ _ _ _; conv => whnf))
          all_goals first
            | (simp only [takeL, setL, nI_add]; exact ih _ hv1 (fun q => hv2 (by omega)))
            | (clear ih; (try clear hX hcall); (try clear h); (try simp (disch := omega) only [cmpT, cmpF, bI_eq0, bI_ne0, Classical.not_not, nI_toI, nI_cl, nI_inj, nI_add, nI_mul, nI_subI, takeL, setL, Int32.toInt_zero, Nat.add_zero, setN_now, alen20, alen11, alen12, alen13, alen14, alen15, alen16, alen17, alen18, alen19, (id e2)] at *); omega)
      refine hX 1000 5 _ _ _ ?_
      repeat' (first | (intro hc) | (refine And.intro ?_ ?_) | (exact absurd nI_0 ‹cmpF 0 (nI 0) 0›) | (exact absurd ‹cmpT 0 (nI 1) 0› nI1_ne) | (exact absurd nI_0 ‹cmpT 1 (nI 0) 0›) | (exact absurd ‹cmpF 1 (nI 1) 0› nI1_ne) | (show wp _ _ _ _ _ _ _ _ _ _ _ _; conv => whnf) | (rw [e2]) | (simp (disch := omega) only [nI_add, nI_mul, setN_now, setN_put, nI_cl, Nat.add_zero]) | (refine hcall _ _ _ _ ?_; first | (refine g_tot hw hR (by omega) ?_) | (refine g_up hw hR hk ?_) | (refine g_sit hw hR rfl hk (by omega) ?_) | fail))
      all_goals (try simp only [takeL, setL, nI_add])
      all_goals first
        | exact mloop _ (Or.inr rfl) (fun _ => rfl) 0 (by omega) _ hv1 (fun q => hv2 (by omega))
        | (refine mloop _ (Or.inl rfl) (fun q => ?_) 0 (by omega) _ hv1 (fun q => hv2 (by omega)); subst q; exfalso; first
            | exact absurd hbu ‹cmpT 1 (bI (upF F k)) (nI 1)›
            | (have z := hh.1; have z2 := ‹cmpT 2 name (F (29 + 17 * k + 0))›; simp only [cmpT, Nat.add_zero] at z2; omega)
            | (have z := hh.2; have z2 := ‹cmpT 3 name (F (29 + 17 * k + 0) + F (29 + 17 * k + 1))›; simp only [cmpT, Nat.add_zero] at z2; omega))
        | (clear mloop ih; (try clear hX hcall); (try clear h); (try simp (disch := omega) only [cmpT, cmpF, bI_eq0, bI_ne0, Classical.not_not, nI_toI, nI_cl, nI_inj, nI_add, nI_mul, nI_subI, takeL, setL, Int32.toInt_zero, Nat.add_zero, setN_now, alen20, alen11, alen12, alen13, alen14, alen15, alen16, alen17, alen18, alen19, (id e2)] at *); omega)
    · intro hv hv1 hv2
      have hv3 := hv2 hk0
      subst hv3
      refine hX 1000 5 _ _ _ ?_
      repeat' (first | (intro hc) | (refine And.intro ?_ ?_) | (exact absurd nI_0 ‹cmpF 0 (nI 0) 0›) | (exact absurd ‹cmpT 0 (nI 1) 0› nI1_ne) | (exact absurd nI_0 ‹cmpT 1 (nI 0) 0›) | (exact absurd ‹cmpF 1 (nI 1) 0› nI1_ne) | (show wp _ _ _ _ _ _ _ _ _ _ _ _; conv => whnf) | (rw [e2]) | (simp (disch := omega) only [nI_add, nI_mul, setN_now, setN_put, nI_cl, Nat.add_zero]) | (refine hcall _ _ _ _ ?_; first | (refine g_tot hw hR (by omega) ?_) | fail))
      all_goals first
        | exact h
        | exact nI_1b
        | (clear h; (try clear hX hcall); (try clear h); (try simp (disch := omega) only [cmpT, cmpF, bI_eq0, bI_ne0, Classical.not_not, nI_toI, nI_cl, nI_inj, nI_add, nI_mul, nI_subI, takeL, setL, Int32.toInt_zero, Nat.add_zero, setN_now, alen20, alen11, alen12, alen13, alen14, alen15, alen16, alen17, alen18, alen19, (id e2)] at *); omega)
        | exact absurd rfl (by assumption)
  intro call hcall X hX; refine hX 1000 0 _ _ _ ?_
  repeat' (first | (intro hc) | (refine And.intro ?_ ?_) | (exact absurd nI_0 ‹cmpF 0 (nI 0) 0›) | (exact absurd ‹cmpT 0 (nI 1) 0› nI1_ne) | (exact absurd nI_0 ‹cmpT 1 (nI 0) 0›) | (exact absurd ‹cmpF 1 (nI 1) 0› nI1_ne) | (show wp _ _ _ _ _ _ _ _ _ _ _ _; conv => whnf))
  simp only [takeL, setL]
  exact loop X call hcall hX 0 (by omega) _ (Or.inl rfl) (fun q => absurd q (by omega))
end LW4
