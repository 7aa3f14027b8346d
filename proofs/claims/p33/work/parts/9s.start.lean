/-! THE START: both objects are made; the law's loop is entered -/
theorem cS_0 : cS (ini1 20 0) = 1 := by decide +kernel
theorem cT_0 : cT (ini1 20 0) = 0 := by decide +kernel
theorem cR_0 : cR (ini1 20 0) = 0 := by decide +kernel
theorem wf_0 : WF (ini1 20 0) 1 := by
  refine ⟨⟨?_, ?_, ?_⟩, ⟨?_, ?_⟩, ⟨?_, ?_⟩, ⟨?_, ?_⟩, ⟨?_, ?_⟩, fun k hk => ?_, fun k hk => ?_, fun r hr => ?_⟩
  · rw [cS_0]; decide +kernel
  · rw [cS_0]; decide
  · rw [cS_0]; decide
  · rw [cT_0]; decide +kernel
  · rw [cT_0]; decide
  · rw [cR_0]; decide +kernel
  · rw [cR_0]; decide
  · decide +kernel
  · decide +kernel
  · decide +kernel
  · decide +kernel
  · rw [cS_0] at hk
    have : k = 0 := by omega
    subst this
    exact ⟨⟨0, 256, by decide +kernel, by decide +kernel, by decide, by decide⟩, fun _ => by decide +kernel, fun h => absurd h (by decide)⟩
  · rw [cT_0] at hk; omega
  · rw [cR_0] at hr; omega
theorem repW_0 : RepW z0 0 (ini1 20 0) := by
  refine ⟨⟨by decide +kernel, by decide +kernel, by decide +kernel, by decide +kernel, by decide +kernel⟩, fun k hk => ?_, fun k hk => ?_, fun r hr => ?_⟩
  · rw [cS_0] at hk
    have : k = 0 := by omega
    subst this
    exact ⟨by decide +kernel, by decide +kernel, by decide +kernel⟩
  · rw [cT_0] at hk; omega
  · rw [cR_0] at hr; omega
theorem start_iv : IV z0 (ini1 20 0) (ini1 21 0) 0 1 := by
  refine ⟨⟨fun i hi => ⟨fun j hj => ?_, fun j j' hj hj' e => ?_⟩, ⟨repW_0, wf_0, by decide +kernel⟩, ⟨0, by decide, by decide, by decide +kernel, by decide +kernel, fun i hi => absurd hi (by omega)⟩, fun j hj => ⟨Or.inl rfl, fun h => absurd rfl h⟩⟩, fun r hr => by rw [cR_0] at hr; omega, fun i hi => absurd hi (by omega), fun j hj h => absurd rfl h⟩
  · show 5 * i ≤ 5 * i + j ∧ 5 * i + j < 5 * i + 5
    omega
  · have e : 5 * i + j = 5 * i + j' := e
    omega
theorem dL_0 : decode code 0 = .ok (.new 14, 3) := by decide +kernel
theorem dL_3 : decode code 3 = .ok (.dup, 1) := by decide +kernel
theorem dL_4 : decode code 4 = .ok (.invokespecial 121, 3) := by decide +kernel
theorem dL_7 : decode code 7 = .ok (.astore_n 1, 1) := by decide +kernel
/-- the classes, found by their names -/
theorem known_K {s : State} (hT : Tk s) (hAk : Ak s) : ∃ (D : va_G) (cA : Nat → ClassId), va_K D vwCl (tysA cA) s := by
  have h1 : ∀ o : Nat, ∃ q : ClassId × (Nat → Nat), o < 10 → u_Kn s (cnm o) (tOf o) (nfK o) q.1 q.2 := by
    intro o
    by_cases ho : o < 10
    · obtain ⟨cC, iS, h⟩ := u_known (args := #[]) (ws := u_ws (cnm o) (tOf o) (nfK o)) (fun w hw => hT.use (wx_at ho w hw)) (fun w h => h) (hT.use (args := #[]) (nw_at ho).1)
      exact ⟨(cC, iS), fun _ => h⟩
    · exact ⟨(0, fun _ => 0), fun h => absurd h ho⟩
  have p1 : ∀ t : FieldType, (Cond.arrayClass t).before #[] s = true → ∃ cB : ClassId, ArrOfT s cB t ∧ s.vm.findClass ("[" ++ t.toString) = some cB := by
    intro t h
    obtain ⟨cB, k, comp, g1, g2, g3⟩ := Cond.arrayClass_spec h
    exact ⟨cB, fun n z => ⟨fun k h => (by cases h), k, g2, comp, g3⟩, g1⟩
  have p2 : ∀ C : String, va_AO C s → ∃ cB : ClassId, ArrOfT s cB (.object C) ∧ va_RA s cB (.object C) := by
    intro C h
    obtain ⟨comp, cB, k, g1, g2, g3, g4, g5⟩ := Cond.arrayOver_spec h
    exact ⟨cB, fun n z => ⟨fun k h => (by cases h), k, g3, comp, g4⟩, k, comp, g3, g4, g1, g5⟩
  obtain ⟨c0, a0, b0⟩ := p1 _ hAk.1.1
  obtain ⟨c1, a1, b1⟩ := p1 _ hAk.1.2.1
  obtain ⟨c2, a2, b2⟩ := p1 _ hAk.1.2.2
  obtain ⟨c3, a3, b3⟩ := p2 _ hAk.2.1
  obtain ⟨c4, a4, b4⟩ := p2 _ hAk.2.2.1
  obtain ⟨c5, a5, b5⟩ := p2 _ hAk.2.2.2.1
  obtain ⟨c6, a6, b6⟩ := p2 _ hAk.2.2.2.2.1
  obtain ⟨c7, a7, b7⟩ := p2 _ hAk.2.2.2.2.2
  refine ⟨(fun o => (Classical.choose (h1 o)).1, fun o => (Classical.choose (h1 o)).2), fun t => match t with
    | 0 => c0 | 1 => c1 | 2 => c2 | 3 => c3 | 4 => c4 | 5 => c5 | 6 => c6 | _ => c7, fun o q hq => ?_, fun k q hk => ?_⟩
  · have ho : o < 10 := (List.getElem?_eq_some_iff.mp hq).1
    have e : q = (cnm o, tOf o, nfK o) := Option.some.inj (hq.symm.trans (cl_at ho))
    subst e
    exact Classical.choose_spec (h1 o) ho
  · match k, hk with
    | 0, hk => cases hk; exact ⟨a0, b0⟩
    | 1, hk => cases hk; exact ⟨a1, b1⟩
    | 2, hk => cases hk; exact ⟨a2, b2⟩
    | 3, hk => cases hk; exact ⟨a3, b3⟩
    | 4, hk => cases hk; exact ⟨a4, b4⟩
    | 5, hk => cases hk; exact ⟨a5, b5⟩
    | 6, hk => cases hk; exact ⟨a6, b6⟩
    | 7, hk => cases hk; exact ⟨a7, b7⟩
    | k + 8, hk => cases hk
set_option maxRecDepth 100000 in
theorem law_row : (mRow m_L_law).2.2.2.2.1 = 24 ∧ (mRow m_L_law).2.2.1 = 15 := by decide +kernel
theorem law_code : (mRow m_L_law).2.1 = code := rfl
set_option maxHeartbeats 4000000 in
theorem whole_start {p : Program} {e : Env} {s : State} {m : MethodId} {below : List Frame} {meth : Method} {c : Code} (l : Launch) (hflags : l.flags = flags0) {b L : Nat} {xs : Nat → Int32} (hL : L ≤ 260) (C0 : lw_At p s m meth c b L xs) : W p l e room_1 s m #[Value.ref b] below meth c s.heap [] 0 0 (lw_Z below #[Value.ref b] s) (entryFrame m ([Value.ref b] : List Value).toArray 15) := by
  obtain ⟨hx, hb, hr, hml, hown, hts, hX, hbl, hlocks, -⟩ := C0
  have hT : Tk s := fun w hw => va_Nw.of (kw_on hw.2) (hts w hw.1)
  have hAk : Ak s := ⟨⟨hts (.arrayClass .int) (List.mem_of_getElem? (i := 98) (by decide +kernel)), hts (.arrayClass .boolean) (List.mem_of_getElem? (i := 270) (by decide +kernel)), hts (.arrayClass .byte) (List.mem_of_getElem? (i := 271) (by decide +kernel))⟩, va_AO.of (hts _ (List.mem_of_getElem? (i := 42) (by decide +kernel))), va_AO.of (hts _ (List.mem_of_getElem? (i := 44) (by decide +kernel))), va_AO.of (hts _ (List.mem_of_getElem? (i := 46) (by decide +kernel))), va_AO.of (hts _ (List.mem_of_getElem? (i := 130) (by decide +kernel))), va_AO.of (hts _ (List.mem_of_getElem? (i := 231) (by decide +kernel)))⟩
  obtain ⟨D, cA, hK⟩ := known_K hT hAk
  generalize hN : s.heap.size = N0 at *
  have F : FrI p s m #[Value.ref b] meth c D cA (fun q => N0 ≤ q) code 24 15 N0 false := ⟨hx, hb, hml, hown, hlocks, hT, hK, hAk, fun q h => h, fun h => by cases h⟩
  have hM1 : MetI l D cA (fun q => N0 ≤ q) N0 6 80 [.inr (0, 0)] 1 [.inl (9, blkF 9)] (tm 0 1407) := names_sound (fun q h => h)
  have hl := lv_entry ([.ref b]) (n := 15) (Nat.le_of_ble_eq_true rfl)
  rw [lg_entry_eq]
  generalize (lg_sl ([.ref b]) ++ List.replicate (15 - (lg_sl ([.ref b])).length) Slot.unset).toArray = ls at hl ⊢
  have hl : lv_has ls 15 [(0, .ref b)] := hl
  have hH0 : HpK D cA N0 0 [] s.heap := ⟨rfl, hN, fun k q h => by cases h⟩
  refine i_new F (a := 14) (b := 9) (by decide +kernel) (by decide) hH0 va_S.rf (Nat.le_of_ble_eq_true rfl) (Nat.le_of_ble_eq_true rfl) dL_0 (fun H1 hH1 hS1 => ?_)
  refine lv_dup hx hb dL_3 rfl ?_
  refine i_init F (a := 121) (b := 80) (d := 0) (k := 0) (st := [.inr (0, 0)]) (by decide +kernel) (Or.inl rfl) hM1 (Nat.le_of_ble_eq_true rfl) (Nat.le_of_ble_eq_true rfl) ⟨Nat.le_of_ble_eq_true rfl, Nat.le_of_ble_eq_true rfl⟩ (Nat.le_of_ble_eq_true rfl) hH1 hS1 hl.1 dL_4 (fun H2 locs2 hH2 hS2 => ?_)
  refine lv_astore_n hx hb dL_7 rfl hl (Nat.le_of_ble_eq_true rfl) rfl (fun ls1 hl1 => ?_)
  have hH5 : Hp D cA (adF N0 b) z0 H2 := made_Hp hH2
  have hbA : ¬ N0 ≤ adF N0 b (24, 0) := by
    show ¬ N0 ≤ b
    omega
  have F2 : FrOk p s m #[Value.ref b] meth c D cA (adF N0 b) (fun q => N0 ≤ q) L xs (mRow m_L_law).2.1 24 (mRow m_L_law).2.2.1 := by
    rw [law_row.2]
    exact ⟨hx, hb, hml, hown, hlocks, hT, hK, adOk_F, hX, by rw [hN]; exact hbl, hbA⟩
  have hbody : bodyL (wpM L xs codT retT (0 + 10)) (wpL L xs codT colT retT (0 + 10)) L 1 (fun r _ => r = some (.inl (.inl (nI 1)))) co_lawM 8 [sL, oL] [] z0 := fun X hX1 =>
    st_start (f := 0) hX1 (fun _ _ _ _ q => q) (fun _ _ _ _ q => q) hL start_iv (fun _ => rfl)
  refine bodyL_sound (R := room_1) (QM := lw_Z below #[Value.ref b] s) F2 (fun b' as' z' Q' hc hok hlen hb' => ⟨10, Nat.le_of_ble_eq_true rfl, Nat.le_of_ble_eq_true rfl, wpM_sound adOk_F hbA 10 b' as' z' Q' hc hok hlen hb'⟩) (fun b' as' z' Q' hc hok hlen hsp hb' hb'' => ⟨10, Nat.le_of_ble_eq_true rfl, Nat.le_of_ble_eq_true rfl, wpL_sound adOk_F hbA 10 b' as' z' Q' hc hok hlen hsp hb' hb''⟩) (fun v z H locs lsA pc hret hH hS hd => ?_) (fun y z H locs lsA pc hret => ?_) ⟨Nat.le_of_ble_eq_true rfl, Nat.le_of_ble_eq_true rfl⟩ lawM_ok lawM_chain hbody (fun v hv => ?_) (fun v hv => by cases hv) H2 locs2 ls1 hH5 hS2 ⟨?_, ?_⟩
  · have hv : v = 1 := by
      have := hret.2
      cases this
      rfl
    subst hv
    refine W.widen (k := 783773) (n := 6750928) (Nat.le_of_ble_eq_true rfl) (Nat.le_of_ble_eq_true rfl) ?_
    refine va_forget (fun q hq => by rw [hN]; exact hS.2.2 q hq) ?_
    exact lw_ret hx hb hr hlocks hd
  · exact absurd hret (by decide)
  · simp only [List.mem_cons, List.not_mem_nil, or_false] at hv
    rcases hv with rfl | rfl
    · exact Or.inr rfl
    · exact Or.inl (by decide)
  · rw [law_row.2]
    exact lv_sub hl1 [1, 0] rfl
  · rw [law_row.2]
    decide
