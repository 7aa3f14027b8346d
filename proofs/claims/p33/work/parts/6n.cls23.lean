/-! WHAT NEW SERVERS, SITES, ROUTERS, SLOTS LEAVE WELL; answers below 0 change nothing -/
section CLS23
variable {i k r p q c j n B B' b w m : Nat} {x y v a z l lo left name flow place : Int32} {F G : Fm}
theorem pow_n (h : powB z) : ∃ d : Nat, z = nI d ∧ 1 ≤ d ∧ d ≤ 256 := by
  rcases h with h | h | h | h | h | h | h | h | h
  · exact ⟨1, h, by omega, by omega⟩
  · exact ⟨2, h, by omega, by omega⟩
  · exact ⟨4, h, by omega, by omega⟩
  · exact ⟨8, h, by omega, by omega⟩
  · exact ⟨16, h, by omega, by omega⟩
  · exact ⟨32, h, by omega, by omega⟩
  · exact ⟨64, h, by omega, by omega⟩
  · exact ⟨128, h, by omega, by omega⟩
  · exact ⟨256, h, by omega, by omega⟩
set_option maxHeartbeats 4000000 in
set_option maxRecDepth 100000 in
theorem blk_n (h : blkB a z) : ∃ e d : Nat, a = nI e ∧ z = nI d ∧ 1 ≤ d ∧ e + d ≤ 256 := by
  obtain ⟨h1, h2, h3⟩ := h
  obtain ⟨e, ha, ha2, ha3⟩ := nI_ex h2.1
  have zz : (0 : Int32).toInt = 0 := rfl
  have key : ∀ d : Nat, z = nI d → 1 ≤ d → d ≤ 256 → (e : Int) % (d : Int) = 0 := fun d hd h1 h2' => by
    have hr := rem_ok (a := a) (z := z) h2.1 (by rw [hd, nI_toI (by omega)]; omega)
    rw [h3, zz, hd, nI_toI (by omega), ← ha2] at hr
    exact hr.symm
  rcases h1 with h | h | h | h | h | h | h | h | h
  · exact ⟨e, 1, ha, h, by omega, by omega⟩
  · exact ⟨e, 2, ha, h, by omega, by have := key 2 h (by omega) (by omega); omega⟩
  · exact ⟨e, 4, ha, h, by omega, by have := key 4 h (by omega) (by omega); omega⟩
  · exact ⟨e, 8, ha, h, by omega, by have := key 8 h (by omega) (by omega); omega⟩
  · exact ⟨e, 16, ha, h, by omega, by have := key 16 h (by omega) (by omega); omega⟩
  · exact ⟨e, 32, ha, h, by omega, by have := key 32 h (by omega) (by omega); omega⟩
  · exact ⟨e, 64, ha, h, by omega, by have := key 64 h (by omega) (by omega); omega⟩
  · exact ⟨e, 128, ha, h, by omega, by have := key 128 h (by omega) (by omega); omega⟩
  · exact ⟨e, 256, ha, h, by omega, by have := key 256 h (by omega) (by omega); omega⟩
set_option maxHeartbeats 4000000 in
set_option maxRecDepth 100000 in
theorem server_ok (hw : WFh F B) : WFh (serverF F v a z).2 B := by
  obtain ⟨hw, h9⟩ := hw
  have s2 := hw.s2
  have t2 := hw.t2
  have r2 := hw.r2
  unfold serverF
  by_cases hv : iN v (cS F)
  · rw [if_neg (fun q => q hv)]
    obtain ⟨p, rfl, hp⟩ := iN_nn hv (by omega)
    rw [show nn (nI p) = p from nI_cl (by omega)]
    split
    · exact ⟨hw, h9⟩
    · rename_i hb
      have hb := Classical.not_not.mp hb
      split
      · exact ⟨hw, h9⟩
      · split
        · exact ⟨hw, h9⟩
        · rename_i h8
          obtain ⟨e, d, ha, hz, hd1, hed⟩ := blk_n hb.1
          have lo : ∀ i, i ≠ 1 → (i < 5 + 3 * cS F ∨ 5 + 3 * cS F + 3 ≤ i) → (fun i => if i = 5 + 3 * cS F then nI p else if i = 5 + 3 * cS F + 1 then a else if i = 5 + 3 * cS F + 2 then z else if i = 1 then F 1 + nI 1 else F i) i = F i := fun i h1 h2 => by
            dsimp only
            rw [if_neg (by omega), if_neg (by omega), if_neg (by omega), if_neg h1]
          have f1 : (fun i => if i = 5 + 3 * cS F then nI p else if i = 5 + 3 * cS F + 1 then a else if i = 5 + 3 * cS F + 2 then z else if i = 1 then F 1 + nI 1 else F i) 1 = nI (cS F + 1) := by
            dsimp only
            rw [if_neg (by omega), if_neg (by omega), if_neg (by omega), if_pos rfl, hw.s1, nI_add]
          have g0 : (fun i => if i = 5 + 3 * cS F then nI p else if i = 5 + 3 * cS F + 1 then a else if i = 5 + 3 * cS F + 2 then z else if i = 1 then F 1 + nI 1 else F i) (5 + 3 * cS F) = nI p := if_pos rfl
          have g1 : (fun i => if i = 5 + 3 * cS F then nI p else if i = 5 + 3 * cS F + 1 then a else if i = 5 + 3 * cS F + 2 then z else if i = 1 then F 1 + nI 1 else F i) (5 + 3 * cS F + 1) = a := by
            dsimp only
            rw [if_neg (by omega), if_pos rfl]
          have g2 : (fun i => if i = 5 + 3 * cS F then nI p else if i = 5 + 3 * cS F + 1 then a else if i = 5 + 3 * cS F + 2 then z else if i = 1 then F 1 + nI 1 else F i) (5 + 3 * cS F + 2) = z := by
            dsimp only
            rw [if_neg (by omega), if_neg (by omega), if_pos rfl]
          show WFh (fun i => if i = 5 + 3 * cS F then nI p else if i = 5 + 3 * cS F + 1 then a else if i = 5 + 3 * cS F + 2 then z else if i = 1 then F 1 + nI 1 else F i) B
          generalize hG : (fun i => if i = 5 + 3 * cS F then nI p else if i = 5 + 3 * cS F + 1 then a else if i = 5 + 3 * cS F + 2 then z else if i = 1 then F 1 + nI 1 else F i) = G at *
          have eT : cT G = cT F := by unfold cT; rw [lo 2 (by omega) (by omega)]
          have eR : cR G = cR F := by unfold cR; rw [lo 3 (by omega) (by omega)]
          have eS : cS G = cS F + 1 := by
            show nn (G 1) = _
            rw [f1]; exact nI_cl (by omega)
          refine ⟨⟨⟨by rw [f1, eS], by omega, by omega⟩, ⟨by rw [lo 2 (by omega) (by omega), eT]; exact hw.t1, by omega⟩, ⟨by rw [lo 3 (by omega) (by omega), eR]; exact hw.r1, by omega⟩, by rw [lo 0 (by omega) (by omega)]; exact hw.h, by rw [lo 4 (by omega) (by omega)]; exact hw.l, fun k hk => ?_, fun k hk => ?_, fun r hr => ?_⟩, by rw [lo 0 (by omega) (by omega)]; exact h9⟩
          · by_cases ek : k = cS F
            · subst ek
              exact ⟨⟨e, d, by rw [g1, ha], by rw [g2, hz], hd1, hed⟩, fun q => by omega, fun _ => ⟨p, hp, g0⟩⟩
            · exact WFserver_cg (fun i a b => lo i (by omega) (by omega)) (hw.server (by omega))
          · exact WFsite_cg (fun i a b => lo i (by omega) (by omega)) (hw.site (by omega))
          · have m0 := mA_eq r 0
            exact WFr_cg2 (by omega) (lo _ (by omega) (by omega)) (fun i a b => lo i (by omega) (by omega)) (hw.router (by omega))
  · rw [if_pos hv]; exact ⟨hw, h9⟩
set_option maxHeartbeats 4000000 in
set_option maxRecDepth 100000 in
theorem site_ok (hw : WFh F B) (hB : 1 ≤ B) : WFh (siteF F a z l).2 B := by
  obtain ⟨hw, h9⟩ := hw
  have s2 := hw.s2
  have t2 := hw.t2
  have r2 := hw.r2
  unfold siteF
  split
  · exact ⟨hw, h9⟩
  · rename_i hb
    have hb := Classical.not_not.mp hb
    split
    · exact ⟨hw, h9⟩
    · split
      · exact ⟨hw, h9⟩
      · rename_i h8
        obtain ⟨e, d, ha, hz, hd1, hed⟩ := blk_n hb.1
        have lo : ∀ i, i ≠ 2 → (i < 29 + 17 * cT F ∨ 29 + 17 * cT F + 17 ≤ i) → (fun i => if i = 29 + 17 * cT F then a else if i = 29 + 17 * cT F + 1 then z else if i = 29 + 17 * cT F + 2 then l else if i = 29 + 17 * cT F + 3 then nI 1 else if 29 + 17 * cT F + 4 ≤ i ∧ i < 29 + 17 * cT F + 17 then nI 0 else if i = 2 then F 2 + nI 1 else F i) i = F i := fun i h1 h2 => by
          dsimp only
          rw [if_neg (by omega), if_neg (by omega), if_neg (by omega), if_neg (by omega), if_neg (by omega), if_neg h1]
        have f2 : (fun i => if i = 29 + 17 * cT F then a else if i = 29 + 17 * cT F + 1 then z else if i = 29 + 17 * cT F + 2 then l else if i = 29 + 17 * cT F + 3 then nI 1 else if 29 + 17 * cT F + 4 ≤ i ∧ i < 29 + 17 * cT F + 17 then nI 0 else if i = 2 then F 2 + nI 1 else F i) 2 = nI (cT F + 1) := by
          dsimp only
          rw [if_neg (by omega), if_neg (by omega), if_neg (by omega), if_neg (by omega), if_neg (by omega), if_pos rfl, hw.t1, nI_add]
        have g0 : (fun i => if i = 29 + 17 * cT F then a else if i = 29 + 17 * cT F + 1 then z else if i = 29 + 17 * cT F + 2 then l else if i = 29 + 17 * cT F + 3 then nI 1 else if 29 + 17 * cT F + 4 ≤ i ∧ i < 29 + 17 * cT F + 17 then nI 0 else if i = 2 then F 2 + nI 1 else F i) (29 + 17 * cT F) = a := if_pos rfl
        have g1 : (fun i => if i = 29 + 17 * cT F then a else if i = 29 + 17 * cT F + 1 then z else if i = 29 + 17 * cT F + 2 then l else if i = 29 + 17 * cT F + 3 then nI 1 else if 29 + 17 * cT F + 4 ≤ i ∧ i < 29 + 17 * cT F + 17 then nI 0 else if i = 2 then F 2 + nI 1 else F i) (29 + 17 * cT F + 1) = z := by
          dsimp only
          rw [if_neg (by omega), if_pos rfl]
        have g2 : (fun i => if i = 29 + 17 * cT F then a else if i = 29 + 17 * cT F + 1 then z else if i = 29 + 17 * cT F + 2 then l else if i = 29 + 17 * cT F + 3 then nI 1 else if 29 + 17 * cT F + 4 ≤ i ∧ i < 29 + 17 * cT F + 17 then nI 0 else if i = 2 then F 2 + nI 1 else F i) (29 + 17 * cT F + 2) = l := by
          dsimp only
          rw [if_neg (by omega), if_neg (by omega), if_pos rfl]
        have g3 : (fun i => if i = 29 + 17 * cT F then a else if i = 29 + 17 * cT F + 1 then z else if i = 29 + 17 * cT F + 2 then l else if i = 29 + 17 * cT F + 3 then nI 1 else if 29 + 17 * cT F + 4 ≤ i ∧ i < 29 + 17 * cT F + 17 then nI 0 else if i = 2 then F 2 + nI 1 else F i) (29 + 17 * cT F + 3) = nI 1 := by
          dsimp only
          rw [if_neg (by omega), if_neg (by omega), if_neg (by omega), if_pos rfl]
        have g4 : ∀ i, 29 + 17 * cT F + 4 ≤ i → i < 29 + 17 * cT F + 17 → (fun i => if i = 29 + 17 * cT F then a else if i = 29 + 17 * cT F + 1 then z else if i = 29 + 17 * cT F + 2 then l else if i = 29 + 17 * cT F + 3 then nI 1 else if 29 + 17 * cT F + 4 ≤ i ∧ i < 29 + 17 * cT F + 17 then nI 0 else if i = 2 then F 2 + nI 1 else F i) i = nI 0 := fun i h1 h2 => by
          dsimp only
          rw [if_neg (by omega), if_neg (by omega), if_neg (by omega), if_neg (by omega), if_pos ⟨h1, h2⟩]
        show WFh (fun i => if i = 29 + 17 * cT F then a else if i = 29 + 17 * cT F + 1 then z else if i = 29 + 17 * cT F + 2 then l else if i = 29 + 17 * cT F + 3 then nI 1 else if 29 + 17 * cT F + 4 ≤ i ∧ i < 29 + 17 * cT F + 17 then nI 0 else if i = 2 then F 2 + nI 1 else F i) B
        generalize hG : (fun i => if i = 29 + 17 * cT F then a else if i = 29 + 17 * cT F + 1 then z else if i = 29 + 17 * cT F + 2 then l else if i = 29 + 17 * cT F + 3 then nI 1 else if 29 + 17 * cT F + 4 ≤ i ∧ i < 29 + 17 * cT F + 17 then nI 0 else if i = 2 then F 2 + nI 1 else F i) = G at *
        have eS : cS G = cS F := by unfold cS; rw [lo 1 (by omega) (by omega)]
        have eR : cR G = cR F := by unfold cR; rw [lo 3 (by omega) (by omega)]
        have eT : cT G = cT F + 1 := by
          show nn (G 2) = _
          rw [f2]; exact nI_cl (by omega)
        refine ⟨⟨⟨by rw [lo 1 (by omega) (by omega), eS]; exact hw.s1, by omega, by omega⟩, ⟨by rw [f2, eT], by omega⟩, ⟨by rw [lo 3 (by omega) (by omega), eR]; exact hw.r1, by omega⟩, by rw [lo 0 (by omega) (by omega)]; exact hw.h, by rw [lo 4 (by omega) (by omega)]; exact hw.l, fun k hk => ?_, fun k hk => ?_, fun r hr => ?_⟩, by rw [lo 0 (by omega) (by omega)]; exact h9⟩
        · exact WFserver_cg (fun i a b => lo i (by omega) (by omega)) (hw.server (by omega))
        · by_cases ek : k = cT F
          · subst ek
            have e0 : (nI 0).toInt = 0 := by decide
            have e1 : (nI 1).toInt = 1 := by decide
            refine ⟨⟨e, d, by rw [g0, ha], by rw [g1, hz], hd1, hed⟩, by rw [g2]; exact hb.2, by rw [g3, e1]; omega, by rw [g4 _ (by omega) (by omega), e0]; omega, fun j hj => ⟨Or.inl (g4 _ (by omega) (by omega)), fun q => absurd ((g4 _ (by omega) (by omega)).symm.trans q) nI01⟩⟩
          · exact WFsite_cg (fun i a b => lo i (by omega) (by omega)) (hw.site (by omega))
        · have m0 := mA_eq r 0
          exact WFr_cg2 (by omega) (lo _ (by omega) (by omega)) (fun i a b => lo i (by omega) (by omega)) (hw.router (by omega))
set_option maxHeartbeats 4000000 in
set_option maxRecDepth 100000 in
theorem router_ok (hw : WFh F B) : WFh (routerF F).2 B := by
  obtain ⟨hw, h9⟩ := hw
  have s2 := hw.s2
  have t2 := hw.t2
  have r2 := hw.r2
  unfold routerF
  split
  · exact ⟨hw, h9⟩
  · rename_i h4
    have lo : ∀ i, i ≠ 3 → (i < 165 + 6 * cR F ∨ 165 + 6 * cR F + 6 ≤ i) → (fun i => if 165 + 6 * cR F ≤ i ∧ i < 165 + 6 * cR F + 6 then nI 0 else if i = 3 then F 3 + nI 1 else F i) i = F i := fun i h1 h2 => by
      dsimp only
      rw [if_neg (by omega), if_neg h1]
    have f3 : (fun i => if 165 + 6 * cR F ≤ i ∧ i < 165 + 6 * cR F + 6 then nI 0 else if i = 3 then F 3 + nI 1 else F i) 3 = nI (cR F + 1) := by
      dsimp only
      rw [if_neg (by omega), if_pos rfl, hw.r1, nI_add]
    have g0 : (fun i => if 165 + 6 * cR F ≤ i ∧ i < 165 + 6 * cR F + 6 then nI 0 else if i = 3 then F 3 + nI 1 else F i) (165 + 6 * cR F) = nI 0 := if_pos (by omega)
    show WFh (fun i => if 165 + 6 * cR F ≤ i ∧ i < 165 + 6 * cR F + 6 then nI 0 else if i = 3 then F 3 + nI 1 else F i) B
    generalize hG : (fun i => if 165 + 6 * cR F ≤ i ∧ i < 165 + 6 * cR F + 6 then nI 0 else if i = 3 then F 3 + nI 1 else F i) = G at *
    have eS : cS G = cS F := by unfold cS; rw [lo 1 (by omega) (by omega)]
    have eT : cT G = cT F := by unfold cT; rw [lo 2 (by omega) (by omega)]
    have eR : cR G = cR F + 1 := by
      show nn (G 3) = _
      rw [f3]; exact nI_cl (by omega)
    refine ⟨⟨⟨by rw [lo 1 (by omega) (by omega), eS]; exact hw.s1, by omega, by omega⟩, ⟨by rw [lo 2 (by omega) (by omega), eT]; exact hw.t1, by omega⟩, ⟨by rw [f3, eR], by omega⟩, by rw [lo 0 (by omega) (by omega)]; exact hw.h, by rw [lo 4 (by omega) (by omega)]; exact hw.l, fun k hk => ?_, fun k hk => ?_, fun r hr => ?_⟩, by rw [lo 0 (by omega) (by omega)]; exact h9⟩
    · exact WFserver_cg (fun i a b => lo i (by omega) (by omega)) (hw.server (by omega))
    · exact WFsite_cg (fun i a b => lo i (by omega) (by omega)) (hw.site (by omega))
    · by_cases er : r = cR F
      · subst er
        have e0 : cM G (cR F) = 0 := by
          show nn (G (165 + 6 * cR F)) = 0
          rw [g0]; exact nI_cl (by omega)
        exact ⟨by rw [e0, g0], by omega, fun p hp => absurd hp (by omega), fun p1 p2 h1 => absurd h1 (by omega)⟩
      · have m0 := mA_eq r 0
        exact WFr_cg2 (by omega) (lo _ (by omega) (by omega)) (fun i a b => lo i (by omega) (by omega)) (hw.router (by omega))
set_option maxHeartbeats 4000000 in
set_option maxRecDepth 100000 in
theorem fill_ok (hw : WFh F B) (hB : B < 1000000) : WFh (fillSF F v a z x y).2 (B + 1) := by
  obtain ⟨hw, h9⟩ := hw
  have t2 := hw.t2
  unfold fillSF
  split
  · exact ⟨WF_mono (by omega) hw, h9⟩
  · rename_i hv
    have hv := Classical.not_not.mp hv
    obtain ⟨k, rfl, hk⟩ := iN_nn hv.1 (by omega)
    obtain ⟨j, rfl, hj⟩ := iN_nn hv.2 (by omega)
    rw [show nn (nI k) = k from nI_cl (by omega), show nn (nI j) = j from nI_cl (by omega)]
    split
    · exact ⟨WF_mono (by omega) hw, h9⟩
    · rename_i hb
      have hb := Classical.not_not.mp hb
      have ws := hw.site hk
      have wv := ws.2.2.1
      have hs1 : (F (29 + 17 * k + 3) + nI 1).toInt = (F (29 + 17 * k + 3)).toInt + 1 := by
        rw [Int32.toInt_add, nI_toI (by omega)]
        apply Int.bmod_eq_of_le <;> omega
      refine ⟨WF_site1 hw hk (by omega) (fun i hi => ?_) ⟨?_, ?_, ?_, ?_, fun j' hj' => ?_⟩, ?_⟩
      · dsimp only
        rw [if_neg (by omega), if_neg (by omega), if_neg (by omega), if_neg (by omega), if_neg (by omega)]
      · dsimp only
        simp (disch := omega) only [if_neg]
        exact ws.1
      · dsimp only
        simp (disch := omega) only [if_neg]
        exact ws.2.1
      · dsimp only
        simp (disch := omega) only [if_neg, if_true]
        rw [hs1]
        omega
      · dsimp only
        simp (disch := omega) only [if_neg]
        exact ws.2.2.2.1
      · by_cases ej : j' = j
        · subst ej
          unfold slotOk
          dsimp only
          simp (disch := omega) only [if_neg, if_true]
          exact ⟨Or.inr trivial, fun _ => ⟨⟨hb.1.1, by have := hb.1.2; omega⟩, ⟨hb.2.1.1, by have := hb.2.1.2; omega⟩, hb.2.2⟩⟩
        · exact slotOk_cg (fun i h1 h2 => by
            dsimp only
            rw [if_neg (by omega), if_neg (by omega), if_neg (by omega), if_neg (by omega), if_neg (by omega)]) (ws.2.2.2.2 j' hj')
      · dsimp only
        simp (disch := omega) only [if_neg]
        exact h9
set_option maxHeartbeats 4000000 in
set_option maxRecDepth 100000 in
theorem vac_ok (hw : WFh F B) (hB : B < 1000000) : WFh (vacF F v a).2 (B + 1) := by
  obtain ⟨hw, h9⟩ := hw
  have t2 := hw.t2
  unfold vacF
  split
  · exact ⟨WF_mono (by omega) hw, h9⟩
  · rename_i hv
    have hv := Classical.not_not.mp hv
    obtain ⟨k, rfl, hk⟩ := iN_nn hv.1 (by omega)
    obtain ⟨j, rfl, hj⟩ := iN_nn hv.2 (by omega)
    rw [show nn (nI k) = k from nI_cl (by omega), show nn (nI j) = j from nI_cl (by omega)]
    split
    · exact ⟨WF_mono (by omega) hw, h9⟩
    · rename_i hb
      have ws := hw.site hk
      have wv := ws.2.2.1
      have hs1 : (F (29 + 17 * k + 3) + nI 1).toInt = (F (29 + 17 * k + 3)).toInt + 1 := by
        rw [Int32.toInt_add, nI_toI (by omega)]
        apply Int.bmod_eq_of_le <;> omega
      refine ⟨WF_site1 hw hk (by omega) (fun i hi => ?_) ⟨?_, ?_, ?_, ?_, fun j' hj' => ?_⟩, ?_⟩
      · dsimp only
        rw [if_neg (by omega), if_neg (by omega)]
      · dsimp only
        simp (disch := omega) only [if_neg]
        exact ws.1
      · dsimp only
        simp (disch := omega) only [if_neg]
        exact ws.2.1
      · dsimp only
        simp (disch := omega) only [if_neg, if_true]
        rw [hs1]
        omega
      · dsimp only
        simp (disch := omega) only [if_neg]
        exact ws.2.2.2.1
      · by_cases ej : j' = j
        · subst ej
          unfold slotOk
          dsimp only
          simp (disch := omega) only [if_neg, if_true]
          exact ⟨Or.inl trivial, fun q => absurd q nI01⟩
        · exact slotOk_cg (fun i h1 h2 => by
            dsimp only
            rw [if_neg (by omega), if_neg (by omega)]) (ws.2.2.2.2 j' hj')
      · dsimp only
        simp (disch := omega) only [if_neg]
        exact h9
theorem neg1 : ¬ 0 ≤ (-1 : Int32).toInt := by decide
theorem nI_nn (h : k < 1000) : ¬ (nI k).toInt < 0 := by rw [nI_toI (by omega)]; omega
set_option maxHeartbeats 4000000 in
set_option maxRecDepth 100000 in
theorem server_neg (hw : WFh F B) (h : (serverF F v a z).1.toInt < 0) : (serverF F v a z).2 = F := by
  have s2 := hw.1.s2
  unfold serverF at h ⊢
  (repeat' split) <;> first | rfl | (exfalso; (repeat rw [if_neg (by assumption)] at h); exact nI_nn (by omega) h)
set_option maxHeartbeats 4000000 in
set_option maxRecDepth 100000 in
theorem site_neg (hw : WFh F B) (h : (siteF F a z l).1.toInt < 0) : (siteF F a z l).2 = F := by
  have t2 := hw.1.t2
  unfold siteF at h ⊢
  (repeat' split) <;> first | rfl | (exfalso; (repeat rw [if_neg (by assumption)] at h); exact nI_nn (by omega) h)
set_option maxHeartbeats 4000000 in
set_option maxRecDepth 100000 in
theorem router_neg (hw : WFh F B) (h : (routerF F).1.toInt < 0) : (routerF F).2 = F := by
  have r2 := hw.1.r2
  unfold routerF at h ⊢
  (repeat' split) <;> first | rfl | (exfalso; (repeat rw [if_neg (by assumption)] at h); exact nI_nn (by omega) h)
set_option maxHeartbeats 4000000 in
set_option maxRecDepth 100000 in
theorem life_neg (hw : WFh F B) (h : (lifeF F v).1.toInt < 0) : (lifeF F v).2 = F := by
  have l2 := hw.1.l
  unfold lifeF at h ⊢
  (repeat' split) <;> first | rfl | (exfalso; (repeat rw [if_neg (by assumption)] at h); dsimp only at h; omega)
set_option maxHeartbeats 4000000 in
set_option maxRecDepth 100000 in
theorem forget_neg (hw : WFh F B) (h : (forgetF F v).1.toInt < 0) : (forgetF F v).2 = F := by
  have r2 := hw.1.r2
  unfold forgetF at h ⊢
  split
  · rfl
  · rename_i hv
    exfalso
    rw [if_neg hv] at h
    obtain ⟨k, rfl, hk⟩ := iN_nn (Classical.not_not.mp hv) (by omega)
    have wr := hw.1.router hk
    dsimp only at h
    rw [show nn (nI k) = k from nI_cl (by omega), wr.1] at h
    exact nI_nn (by have := wr.2.1; omega) h
set_option maxHeartbeats 4000000 in
set_option maxRecDepth 100000 in
theorem reg_neg (hw : WFh F B) (h : (regF F v).1.toInt < 0) : (regF F v).2 = F := by
  have t2 := hw.1.t2
  have hh := hw.1.h
  have h9 := hw.2
  unfold regF at h ⊢
  split
  · rfl
  · rename_i hv
    exfalso
    rw [if_neg hv] at h
    obtain ⟨k, rfl, hk⟩ := iN_nn (Classical.not_not.mp hv) (by omega)
    have ws := (hw.1.site hk).2.1
    dsimp only at h
    rw [show nn (nI k) = k from nI_cl (by omega), add_hour (by omega) (by omega)] at h
    omega
set_option maxHeartbeats 4000000 in
set_option maxRecDepth 100000 in
theorem unreg_neg (hw : WFh F B) (h : (unregF F v).1.toInt < 0) : (unregF F v).2 = F := by
  have t2 := hw.1.t2
  have hh := hw.1.h
  unfold unregF at h ⊢
  split
  · rfl
  · rename_i hv
    rw [if_neg hv] at h
    obtain ⟨k, rfl, hk⟩ := iN_nn (Classical.not_not.mp hv) (by omega)
    rw [show nn (nI k) = k from nI_cl (by omega)] at h ⊢
    split
    · rfl
    · rename_i hu
      exfalso
      rw [if_neg hu] at h
      have ws := (hw.1.site hk).2.2.2.1
      dsimp only at h
      rw [Int32.toInt_sub] at h
      have : ((F (29 + 17 * k + 4)).toInt - (F 0).toInt).bmod 4294967296 = (F (29 + 17 * k + 4)).toInt - (F 0).toInt := by
        apply Int.bmod_eq_of_le <;> omega
      rw [this] at h
      omega
set_option maxHeartbeats 4000000 in
set_option maxRecDepth 100000 in
theorem pass_neg (hw : WFh F B) (h : (passF F v).1.toInt < 0) : (passF F v).2 = F := by
  have hh := hw.1.h
  have h9 := hw.2
  unfold passF at h ⊢
  split
  · rfl
  · rename_i hv
    rw [if_neg hv] at h
    have hv := Classical.not_not.mp hv
    split
    · rfl
    · rename_i hu
      exfalso
      rw [if_neg hu] at h
      dsimp only at h
      rw [add_hour (by omega) (by omega)] at h
      omega
set_option maxHeartbeats 4000000 in
set_option maxRecDepth 100000 in
theorem fill_neg (hw : WFh F B) (hB : B < 1000000) (h : (fillSF F v a z x y).1.toInt < 0) : (fillSF F v a z x y).2 = F := by
  have t2 := hw.1.t2
  unfold fillSF at h ⊢
  split
  · rfl
  · rename_i hv
    rw [if_neg hv] at h
    have hv := Classical.not_not.mp hv
    split
    · rfl
    · rename_i hu
      exfalso
      rw [if_neg hu] at h
      obtain ⟨k, rfl, hk⟩ := iN_nn hv.1 (by omega)
      have wv := (hw.1.site hk).2.2.1
      dsimp only at h
      rw [show nn (nI k) = k from nI_cl (by omega), Int32.toInt_add, nI_toI (by omega)] at h
      have : ((F (29 + 17 * k + 3)).toInt + ((1 : Nat) : Int)).bmod 4294967296 = (F (29 + 17 * k + 3)).toInt + 1 := by
        apply Int.bmod_eq_of_le <;> omega
      rw [this] at h
      omega
set_option maxHeartbeats 4000000 in
set_option maxRecDepth 100000 in
theorem vac_neg (hw : WFh F B) (hB : B < 1000000) (h : (vacF F v a).1.toInt < 0) : (vacF F v a).2 = F := by
  have t2 := hw.1.t2
  unfold vacF at h ⊢
  split
  · rfl
  · rename_i hv
    rw [if_neg hv] at h
    have hv := Classical.not_not.mp hv
    split
    · rfl
    · rename_i hu
      exfalso
      rw [if_neg hu] at h
      obtain ⟨k, rfl, hk⟩ := iN_nn hv.1 (by omega)
      have wv := (hw.1.site hk).2.2.1
      dsimp only at h
      rw [show nn (nI k) = k from nI_cl (by omega), Int32.toInt_add, nI_toI (by omega)] at h
      have : ((F (29 + 17 * k + 3)).toInt + ((1 : Nat) : Int)).bmod 4294967296 = (F (29 + 17 * k + 3)).toInt + 1 := by
        apply Int.bmod_eq_of_le <;> omega
      rw [this] at h
      omega
set_option maxHeartbeats 4000000 in
set_option maxRecDepth 100000 in
theorem letter_neg (hw : WFh F B) (h : (letterF F v name flow).1.toInt < 0) : (letterF F v name flow).2 = F := by
  have r2 := hw.1.r2
  unfold letterF at h ⊢
  split
  · rfl
  · rename_i hv
    rw [if_neg hv] at h
    split
    · rfl
    · rename_i hu
      exfalso
      rw [if_neg hu] at h
      have hu := Classical.not_not.mp hu
      obtain ⟨k, rfl, hk⟩ := iN_nn (Classical.not_not.mp hv) (by omega)
      rw [show nn (nI k) = k from nI_cl (by omega)] at h
      have := (send_ok (flow := flow) hw.1 hk hu.1 hu.2.1).2.2
      omega
end CLS23
