/-! WHAT COUNTS HOLD, and that calls keep it -/
/-- the counts of router r -/
def ct (F : Fm) (r j : Nat) : Int := (F (165 + 6 * r + j)).toInt
def CNr (F : Fm) (r B : Nat) : Prop := 0 ≤ ct F r 1 ∧ ct F r 1 ≤ ct F r 2 ∧ ct F r 2 ≤ 16 * (B : Int) ∧ 0 ≤ ct F r 4 ∧ ct F r 4 ≤ ct F r 3 ∧ 0 ≤ ct F r 5 ∧ ct F r 5 ≤ ct F r 3 ∧ ct F r 3 ≤ (B : Int)
def CN (F : Fm) (B : Nat) : Prop := ∀ r, r < cR F → CNr F r B ∧ VM F r
/-- letters and asks become no less -/
def MON (G F : Fm) : Prop := cR F ≤ cR G ∧ ∀ r, r < cR F → ct F r 1 ≤ ct G r 1 ∧ ct F r 3 ≤ ct G r 3
section CNS
variable {f i k r p q c j n B b B' : Nat} {x y v a z w name flow place : Int32} {F G H F' : Fm}
theorem CNr_mono (hB : B ≤ B') (h : CNr F r B) : CNr F r B' := by
  obtain ⟨h1, h2, h3, h4, h5, h6, h7, h8⟩ := h
  exact ⟨h1, h2, by omega, h4, h5, h6, h7, by omega⟩
theorem CN_mono (hB : B ≤ B') (h : CN F B) : CN F B' := fun r hr => ⟨CNr_mono hB (h r hr).1, (h r hr).2⟩
theorem ct_eq (h : G (165 + 6 * r + j) = F (165 + 6 * r + j)) : ct G r j = ct F r j := by unfold ct; rw [h]
theorem CNr_eq (h : ∀ j, 1 ≤ j → j < 6 → G (165 + 6 * r + j) = F (165 + 6 * r + j)) (q : CNr F r B) : CNr G r B := by
  unfold CNr at q ⊢
  rw [ct_eq (h 1 (by omega) (by omega)), ct_eq (h 2 (by omega) (by omega)), ct_eq (h 3 (by omega) (by omega)), ct_eq (h 4 (by omega) (by omega)), ct_eq (h 5 (by omega) (by omega))]
  exact q
theorem VM_eq (hw : WF F B) (hr : r < cR F) (hc : cM G r ≤ cM F r) (h : ∀ q, q < cM F r → G (mA r q) = F (mA r q) ∧ G (mA r q + 1) = F (mA r q + 1)) (hs : ∀ k, k < cT F → (F (29 + 17 * k + 3)).toInt ≤ (G (29 + 17 * k + 3)).toInt) (hv : VM F r) : VM G r := by
  intro q hq
  obtain ⟨e1, e2⟩ := h q (by omega)
  have hm := (hw.router hr).2.2.1 q (by omega)
  rw [e1, e2]
  have := hv q (by omega)
  have := hs _ hm.2.1
  omega
/-- a call that leaves routers as they are -/
theorem CN_same (hw : WF F B) (h3 : G 3 = F 3) (h : ∀ i, 165 ≤ i → i < 509 → G i = F i) (hs : ∀ k, k < cT F → (F (29 + 17 * k + 3)).toInt ≤ (G (29 + 17 * k + 3)).toInt) (hc : CN F B) : CN G B ∧ MON G F := by
  have h4 := hw.r2
  have eR : cR G = cR F := by unfold cR; rw [h3]
  refine ⟨fun r hr => ?_, by omega, fun r hr => ?_⟩
  · rw [eR] at hr
    obtain ⟨c1, c2⟩ := hc r hr
    have h5 := (hw.router hr).2.1
    have eM : cM G r = cM F r := by unfold cM; rw [h _ (by omega) (by omega)]
    refine ⟨CNr_eq (fun j a b => h _ (by omega) (by omega)) c1, VM_eq hw hr (by omega) (fun q hq => ?_) hs c2⟩
    have := mA_eq r q
    exact ⟨h _ (by omega) (by omega), h _ (by omega) (by omega)⟩
  · rw [ct_eq (h _ (by omega) (by omega)), ct_eq (h _ (by omega) (by omega))]
    omega
theorem CN_cg (hw : WF F B) (h : ∀ i, i < 509 → G i = F i) (hc : CN F B') : CN G B' := by
  have h4 := hw.r2
  have eR : cR G = cR F := by unfold cR; rw [h 3 (by omega)]
  have h8 := hw.t2
  intro r hr
  rw [eR] at hr
  obtain ⟨c1, c2⟩ := hc r hr
  have h5 := (hw.router hr).2.1
  have eM : cM G r = cM F r := by unfold cM; rw [h _ (by omega)]
  refine ⟨CNr_eq (fun j a b => h _ (by omega)) c1, VM_eq hw hr (by omega) (fun q hq => ?_) (fun k hk => by rw [h _ (by omega)]; omega) c2⟩
  have := mA_eq r q
  exact ⟨h _ (by omega), h _ (by omega)⟩
theorem MON_rf : MON F F := ⟨Nat.le_refl _, fun r _ => ⟨Int.le_refl _, Int.le_refl _⟩⟩
/-- calls that are recorded, but restore -/
def isOp (F : Fm) (o : Int32 × Fm) : Prop := (∃ v a z, o = serverF F v a z) ∨ (∃ a z l, o = siteF F a z l) ∨ o = routerF F ∨ (∃ k j v w x, o = fillSF F k j v w x) ∨ (∃ k j, o = vacF F k j) ∨ (∃ k, o = regF F k) ∨ (∃ k, o = unregF F k) ∨ (∃ l, o = lifeF F l) ∨ (∃ h, o = passF F h) ∨ (∃ r, o = forgetF F r) ∨ (∃ r name flow, o = letterF F r name flow)
theorem neg_ge (h : 0 ≤ v.toInt) (e : v.toInt < 0) : False := by omega
theorem n1 : ¬ 0 ≤ (-1 : Int32).toInt := by decide
theorem n2 : ¬ 0 ≤ (-2 : Int32).toInt := by decide
theorem n3 : ¬ 0 ≤ (-3 : Int32).toInt := by decide
theorem n4 : ¬ 0 ≤ (-4 : Int32).toInt := by decide
theorem cn_server (hw : WF F B) (hc : CN F B) (h : 0 ≤ (serverF F v a z).1.toInt) : CN (serverF F v a z).2 B ∧ MON (serverF F v a z).2 F := by
  have h8 := hw.s2
  have ht := hw.t2
  unfold serverF at h ⊢
  split
  · exact ⟨hc, MON_rf⟩
  split
  · exact ⟨hc, MON_rf⟩
  split
  · exact ⟨hc, MON_rf⟩
  split
  · exact ⟨hc, MON_rf⟩
  · rename_i e8
    generalize hG : (fun i => if i = 5 + 3 * cS F then v else if i = 5 + 3 * cS F + 1 then a else if i = 5 + 3 * cS F + 2 then z else if i = 1 then F 1 + nI 1 else F i) = G
    have ex : ∀ i, i = 3 ∨ 29 ≤ i → G i = F i := by
      intro i hi
      rw [← hG]
      dsimp only
      rw [if_neg (by omega), if_neg (by omega), if_neg (by omega), if_neg (by omega)]
    show CN G B ∧ MON G F
    exact CN_same hw (ex 3 (by omega)) (fun i a b => ex i (by omega)) (fun k hk => by rw [ex _ (by omega)]; omega) hc
theorem cn_site (hw : WF F B) (hc : CN F B) (h : 0 ≤ (siteF F a z x).1.toInt) : CN (siteF F a z x).2 B ∧ MON (siteF F a z x).2 F := by
  have ht := hw.t2
  unfold siteF at h ⊢
  split
  · exact ⟨hc, MON_rf⟩
  split
  · exact ⟨hc, MON_rf⟩
  split
  · exact ⟨hc, MON_rf⟩
  · rename_i e8
    generalize hG : (fun i => if i = 29 + 17 * cT F then a else if i = 29 + 17 * cT F + 1 then z else if i = 29 + 17 * cT F + 2 then x else if i = 29 + 17 * cT F + 3 then nI 1 else if 29 + 17 * cT F + 4 ≤ i ∧ i < 29 + 17 * cT F + 17 then nI 0 else if i = 2 then F 2 + nI 1 else F i) = G
    have ex : ∀ i, i = 3 ∨ 165 ≤ i ∨ (29 ≤ i ∧ i < 29 + 17 * cT F) → G i = F i := by
      intro i hi
      rw [← hG]
      dsimp only
      rw [if_neg (by omega), if_neg (by omega), if_neg (by omega), if_neg (by omega), if_neg (by omega), if_neg (by omega)]
    show CN G B ∧ MON G F
    exact CN_same hw (ex 3 (by omega)) (fun i a b => ex i (by omega)) (fun k hk => by rw [ex _ (by omega)]; omega) hc
theorem cn_router (hw : WF F B) (hc : CN F B) (h : 0 ≤ (routerF F).1.toInt) : CN (routerF F).2 B ∧ MON (routerF F).2 F := by
  have h4 := hw.r2
  have ht := hw.t2
  unfold routerF at h ⊢
  split
  · exact ⟨hc, MON_rf⟩
  · rename_i e8
    generalize hG : (fun i => if 165 + 6 * cR F ≤ i ∧ i < 165 + 6 * cR F + 6 then nI 0 else if i = 3 then F 3 + nI 1 else F i) = G
    have ex : ∀ i, i ≠ 3 → (i < 165 + 6 * cR F ∨ 165 + 6 * cR F + 6 ≤ i) → G i = F i := by
      intro i h1 h2
      rw [← hG]
      dsimp only
      rw [if_neg (by omega), if_neg (by omega)]
    have e0 : ∀ j, j < 6 → G (165 + 6 * cR F + j) = nI 0 := by
      intro j hj
      rw [← hG]
      exact if_pos (by omega)
    have eR : cR G = cR F + 1 := by
      have : G 3 = nI (cR F + 1) := by
        rw [← hG]
        dsimp only
        rw [if_neg (by omega), if_pos rfl, hw.r1, nI_add]
      unfold cR
      rw [this]
      exact nI_cl (by omega)
    show CN G B ∧ MON G F
    refine ⟨fun r hr => ?_, by omega, fun r hr => ?_⟩
    · by_cases e : r = cR F
      · subst e
        have z0 : ∀ j, j < 6 → ct G (cR F) j = 0 := fun j hj => by unfold ct; rw [e0 j hj]; rfl
        refine ⟨?_, fun q hq => ?_⟩
        · unfold CNr
          rw [z0 1 (by omega), z0 2 (by omega), z0 3 (by omega), z0 4 (by omega), z0 5 (by omega)]
          omega
        · have : cM G (cR F) = 0 := by
            have := e0 0 (by omega)
            rw [Nat.add_zero] at this
            unfold cM
            rw [this]
            rfl
          omega
      · obtain ⟨c1, c2⟩ := hc r (by omega)
        have h5 := (hw.router (r := r) (by omega)).2.1
        have eM : cM G r = cM F r := by unfold cM; rw [ex _ (by omega) (by omega)]
        refine ⟨CNr_eq (fun j a b => ex _ (by omega) (by omega)) c1, VM_eq hw (by omega) (by omega) (fun q hq => ?_) (fun k hk => by rw [ex _ (by omega) (by omega)]; omega) c2⟩
        have := mA_eq r q
        exact ⟨ex _ (by omega) (by omega), ex _ (by omega) (by omega)⟩
    · rw [ct_eq (ex _ (by omega) (by omega)), ct_eq (ex _ (by omega) (by omega))]
      omega
theorem ver_up (hw : WF F B) (hB : B < 1000000) (hk : k < cT F) : (F (29 + 17 * k + 3)).toInt ≤ (F (29 + 17 * k + 3) + nI 1).toInt := by
  have hv := (hw.site hk).2.2.1
  obtain ⟨m, e1, e2, e3⟩ := nI_ex (x := F (29 + 17 * k + 3)) (by omega)
  rw [e1, nI_add, nI_toI (by omega), nI_toI (by omega)]
  omega
theorem cn_fill (hw : WF F B) (hB : B < 1000000) (hc : CN F B) (h : 0 ≤ (fillSF F v a z x y).1.toInt) : CN (fillSF F v a z x y).2 B ∧ MON (fillSF F v a z x y).2 F := by
  have ht := hw.t2
  unfold fillSF at h ⊢
  split
  · exact ⟨hc, MON_rf⟩
  split
  · exact ⟨hc, MON_rf⟩
  · rename_i e1 e2
    have e1 := Classical.not_not.mp e1
    obtain ⟨k, hk, hkT⟩ := iN_nn e1.1 (by omega)
    obtain ⟨j, hj, hj3⟩ := iN_nn e1.2 (by omega)
    have ek : nn v = k := by rw [hk]; exact nI_cl (by omega)
    have ej : nn a = j := by rw [hj]; exact nI_cl (by omega)
    rw [ek, ej]
    generalize hG : (fun i => if i = 29 + 17 * k + 5 + 4 * j then nI 1 else if i = 29 + 17 * k + 5 + 4 * j + 1 then z else if i = 29 + 17 * k + 5 + 4 * j + 2 then x else if i = 29 + 17 * k + 5 + 4 * j + 3 then y else if i = 29 + 17 * k + 3 then F i + nI 1 else F i) = G
    have ex : ∀ i, i ≠ 29 + 17 * k + 3 → (i < 29 + 17 * k + 5 + 4 * j ∨ 29 + 17 * k + 5 + 4 * j + 4 ≤ i) → G i = F i := by
      intro i h1 h2
      rw [← hG]
      dsimp only
      rw [if_neg (by omega), if_neg (by omega), if_neg (by omega), if_neg (by omega), if_neg (by omega)]
    have ev : G (29 + 17 * k + 3) = F (29 + 17 * k + 3) + nI 1 := by
      rw [← hG]
      dsimp only
      rw [if_neg (by omega), if_neg (by omega), if_neg (by omega), if_neg (by omega), if_pos rfl]
    show CN G B ∧ MON G F
    refine CN_same hw (ex 3 (by omega) (by omega)) (fun i a b => ex i (by omega) (by omega)) (fun k' hk' => ?_) hc
    by_cases e : k' = k
    · subst e
      rw [ev]
      exact ver_up hw hB hk'
    · rw [ex _ (by omega) (by omega)]; omega
theorem cn_vac (hw : WF F B) (hB : B < 1000000) (hc : CN F B) (h : 0 ≤ (vacF F v a).1.toInt) : CN (vacF F v a).2 B ∧ MON (vacF F v a).2 F := by
  have ht := hw.t2
  unfold vacF at h ⊢
  split
  · exact ⟨hc, MON_rf⟩
  split
  · exact ⟨hc, MON_rf⟩
  · rename_i e1 e2
    have e1 := Classical.not_not.mp e1
    obtain ⟨k, hk, hkT⟩ := iN_nn e1.1 (by omega)
    obtain ⟨j, hj, hj3⟩ := iN_nn e1.2 (by omega)
    have ek : nn v = k := by rw [hk]; exact nI_cl (by omega)
    have ej : nn a = j := by rw [hj]; exact nI_cl (by omega)
    rw [ek, ej]
    generalize hG : (fun i => if i = 29 + 17 * k + 5 + 4 * j then nI 0 else if i = 29 + 17 * k + 3 then F i + nI 1 else F i) = G
    have ex : ∀ i, i ≠ 29 + 17 * k + 3 → i ≠ 29 + 17 * k + 5 + 4 * j → G i = F i := by
      intro i h1 h2
      rw [← hG]
      dsimp only
      rw [if_neg (by omega), if_neg (by omega)]
    have ev : G (29 + 17 * k + 3) = F (29 + 17 * k + 3) + nI 1 := by
      rw [← hG]
      dsimp only
      rw [if_neg (by omega), if_pos rfl]
    show CN G B ∧ MON G F
    refine CN_same hw (ex 3 (by omega) (by omega)) (fun i a b => ex i (by omega) (by omega)) (fun k' hk' => ?_) hc
    by_cases e : k' = k
    · subst e
      rw [ev]
      exact ver_up hw hB hk'
    · rw [ex _ (by omega) (by omega)]; omega
theorem cn_put (hw : WF F B) (hc : CN F B) (hi : i < 165) (h3 : i ≠ 3) (hv : ∀ k, k < cT F → i ≠ 29 + 17 * k + 3) : CN (putF F i x) B ∧ MON (putF F i x) F := by
  refine CN_same hw (putF_ne _ _ (by omega)) (fun i a b => putF_ne _ _ (by omega)) (fun k hk => ?_) hc
  rw [putF_ne _ _ (fun e => hv k hk e.symm)]
  omega
theorem cn_reg (hw : WF F B) (hc : CN F B) : CN (regF F v).2 B ∧ MON (regF F v).2 F := by
  have ht := hw.t2
  unfold regF
  split
  · exact ⟨hc, MON_rf⟩
  · rename_i e1
    obtain ⟨k, hk, hkT⟩ := iN_nn (Classical.not_not.mp e1) (by omega)
    have ek : nn v = k := by rw [hk]; exact nI_cl (by omega)
    rw [ek]
    exact cn_put hw hc (by omega) (by omega) (fun k' hk' => by omega)
theorem cn_unreg (hw : WF F B) (hc : CN F B) : CN (unregF F v).2 B ∧ MON (unregF F v).2 F := by
  have ht := hw.t2
  unfold unregF
  split
  · exact ⟨hc, MON_rf⟩
  split
  · exact ⟨hc, MON_rf⟩
  · rename_i e1 e2
    obtain ⟨k, hk, hkT⟩ := iN_nn (Classical.not_not.mp e1) (by omega)
    have ek : nn v = k := by rw [hk]; exact nI_cl (by omega)
    rw [ek]
    exact cn_put hw hc (by omega) (by omega) (fun k' hk' => by omega)
theorem cn_life (hw : WF F B) (hc : CN F B) : CN (lifeF F v).2 B ∧ MON (lifeF F v).2 F := by
  unfold lifeF
  split
  · exact ⟨hc, MON_rf⟩
  · exact cn_put hw hc (by omega) (by omega) (fun k' hk' => by omega)
theorem cn_pass (hw : WF F B) (hc : CN F B) : CN (passF F v).2 B ∧ MON (passF F v).2 F := by
  unfold passF
  split
  · exact ⟨hc, MON_rf⟩
  split
  · exact ⟨hc, MON_rf⟩
  · exact cn_put hw hc (by omega) (by omega) (fun k' hk' => by omega)
theorem cn_forget (hw : WF F B) (hc : CN F B) : CN (forgetF F v).2 B ∧ MON (forgetF F v).2 F := by
  have h4 := hw.r2
  have ht := hw.t2
  unfold forgetF
  split
  · exact ⟨hc, MON_rf⟩
  · rename_i e1
    obtain ⟨k, hk, hkT⟩ := iN_nn (Classical.not_not.mp e1) (by omega)
    have ek : nn v = k := by rw [hk]; exact nI_cl (by omega)
    rw [ek]
    have ex : ∀ i, i ≠ 165 + 6 * k → putF F (165 + 6 * k) (nI 0) i = F i := fun i hi => putF_ne _ _ hi
    have eR : cR (putF F (165 + 6 * k) (nI 0)) = cR F := by unfold cR; rw [ex 3 (by omega)]
    show CN (putF F (165 + 6 * k) (nI 0)) B ∧ MON (putF F (165 + 6 * k) (nI 0)) F
    refine ⟨fun r hr => ?_, by omega, fun r hr => ?_⟩
    · rw [eR] at hr
      obtain ⟨c1, c2⟩ := hc r hr
      have h5 := (hw.router hr).2.1
      refine ⟨CNr_eq (fun j a b => ex _ (by omega)) c1, VM_eq hw hr ?_ (fun q hq => ?_) (fun k hk => by rw [ex _ (by omega)]; omega) c2⟩
      · by_cases e : r = k
        · subst e
          have : cM (putF F (165 + 6 * r) (nI 0)) r = 0 := by unfold cM; rw [putF_at]; rfl
          omega
        · have : cM (putF F (165 + 6 * k) (nI 0)) r = cM F r := by unfold cM; rw [ex _ (by omega)]
          omega
      · have := mA_eq r q
        exact ⟨ex _ (by omega), ex _ (by omega)⟩
    · rw [ct_eq (ex _ (by omega)), ct_eq (ex _ (by omega))]
      omega
theorem up_ct {d : Nat} (e : G (165 + 6 * r + j) = F (165 + 6 * r + j) + nI d) (h0 : 0 ≤ ct F r j) (h1 : ct F r j ≤ 16000000) (hd : d ≤ 100) : ct G r j = ct F r j + (d : Int) := by
  unfold ct at h0 h1 ⊢
  rw [e]
  obtain ⟨m, e1, e2, e3⟩ := nI_ex h0
  rw [e1] at h1 ⊢
  rw [nI_toI (by omega)] at h1
  rw [nI_add, nI_toI (by omega), nI_toI (by omega)]
  omega
theorem cn_letter (hw : WF F B) (hB : B < 1000000) (hc : CN F B) : CN (letterF F v name flow).2 (B + 1) ∧ MON (letterF F v name flow).2 F := by
  have h4 := hw.r2
  have ht := hw.t2
  unfold letterF
  split
  · exact ⟨CN_mono (by omega) hc, MON_rf⟩
  split
  · exact ⟨CN_mono (by omega) hc, MON_rf⟩
  · rename_i e1 e2
    obtain ⟨k, hk, hkR⟩ := iN_nn (Classical.not_not.mp e1) (by omega)
    have ek : nn v = k := by rw [hk]; exact nI_cl (by omega)
    have e2 := Classical.not_not.mp e2
    rw [ek]
    obtain ⟨d1, d2, d4, d5, hd, s1, s2, ⟨u1, u2, u3, u4, u5⟩, -⟩ := send_all (name := name) hw hkR e2.2.1
    generalize (sendF F k name flow).2 = G at *
    have lo : ∀ i, i < 165 → G i = F i := fun i hi => s1.lo hi
    have eR : cR G = cR F := by unfold cR; rw [lo 3 (by omega)]
    obtain ⟨⟨q1, q2, q3, q4, q5, q6, q7, q8⟩, cV⟩ := hc k hkR
    have t1 := up_ct u1 q1 (by omega) (by omega)
    have t2 := up_ct u2 (by omega) (by omega) (by omega)
    have t3 := up_ct u3 (by omega) (by omega) (by omega)
    have t4 := up_ct u4 q4 (by omega) (by omega)
    have t5 := up_ct u5 q6 (by omega) (by omega)
    have m0 := mA_eq k 0
    have m5 := mA_eq k 5
    refine ⟨fun r hr => ?_, by omega, fun r hr => ?_⟩
    · rw [eR] at hr
      by_cases e : r = k
      · subst e
        exact ⟨by unfold CNr; omega, s2 cV⟩
      · obtain ⟨c1, c2⟩ := hc r hr
        have h5 := (hw.router hr).2.1
        have ex : ∀ j, j < 6 → G (165 + 6 * r + j) = F (165 + 6 * r + j) := fun j hj => s1 _ (by omega) (by omega)
        have eM : cM G r = cM F r := by
          have := ex 0 (by omega)
          rw [Nat.add_zero] at this
          unfold cM
          rw [this]
        refine ⟨CNr_mono (by omega) (CNr_eq (fun j a b => ex j b) c1), VM_eq hw hr (by omega) (fun q hq => ?_) (fun k hk => by rw [lo _ (by omega)]; omega) c2⟩
        have := mA_eq r q
        exact ⟨s1 _ (by omega) (by omega), s1 _ (by omega) (by omega)⟩
    · by_cases e : r = k
      · subst e
        omega
      · rw [ct_eq (s1 _ (by omega) (by omega)), ct_eq (s1 _ (by omega) (by omega))]
        omega
theorem cn_op {o : Int32 × Fm} (hw : WF F B) (hB : B < 1000000) (hc : CN F B) (ho : isOp F o) (h : 0 ≤ o.1.toInt) : CN o.2 (B + 1) ∧ MON o.2 F := by
  have up : CN o.2 B ∧ MON o.2 F → CN o.2 (B + 1) ∧ MON o.2 F := fun q => ⟨CN_mono (by omega) q.1, q.2⟩
  rcases ho with ⟨v, a, z, rfl⟩ | ⟨a, z, l, rfl⟩ | rfl | ⟨k, j, v, w, x, rfl⟩ | ⟨k, j, rfl⟩ | ⟨k, rfl⟩ | ⟨k, rfl⟩ | ⟨l, rfl⟩ | ⟨h, rfl⟩ | ⟨r, rfl⟩ | ⟨r, name, flow, rfl⟩
  · exact up (cn_server hw hc h)
  · exact up (cn_site hw hc h)
  · exact up (cn_router hw hc h)
  · exact up (cn_fill hw hB hc h)
  · exact up (cn_vac hw hB hc h)
  · exact up (cn_reg hw hc)
  · exact up (cn_unreg hw hc)
  · exact up (cn_life hw hc)
  · exact up (cn_pass hw hc)
  · exact up (cn_forget hw hc)
  · exact cn_letter hw hB hc
end CNS
