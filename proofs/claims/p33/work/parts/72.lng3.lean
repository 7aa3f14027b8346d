/-! METHODS WITH LONGS: the step, whole; the method -/
section LM
variable {p : Program} {l : Launch} {e : Env} {R : Room} {s : State} {m : MethodId} {args : Array Value} {below : List Frame} {meth : Method} {c : Code} {cells slots : Nat} {QM : State → Prop}
variable {D : va_G} {cA : Nat → ClassId} {ad : Nat × Nat → Nat} {A : Nat → Prop} {L : Nat} {xs : Nat → Int32} {cc : ByteArray} {nL : Nat}
theorem trl_i (x : Int32) : trl ad (.inl (.inl x)) = .int x := rfl
theorem trl_r (r : Nat × Nat) : trl ad (.inl (.inr r)) = .ref (ad r) := rfl
theorem okL_i {x : Int32} : okL (.inl (.inl x)) := trivial
theorem okL_l {y : Int64} : okL (.inr y) := trivial
set_option maxHeartbeats 4000000 in
theorem step_soundL (F : FrOk p s m args meth c D cA ad A L xs cc 24 nL) {callM : Nat → List MV → St → (Option MV → St → Prop) → Prop} {callL : Nat → List LV → St → (Option LV → St → Prop) → Prop} {ret : Nat} {Q : Option LV → St → Prop} {X : Nat → LO → List LV → St → Prop} {k : List Ent → LO → List LV → St → Prop} {j : Nat → LO → List LV → St → Prop}
    (hcallM : ∀ b as z Q', callM b as z Q' → (∀ v ∈ as, okV v) → as.length = (mRow b).2.2.2.2.2.1 → b < 123 → ∃ f, f + 1 ≤ R.frames ∧ 38 * f + 38 ≤ R.locals ∧ MetC l D cA ad A L xs f b as z Q')
    (hcallL : ∀ b as z Q', callL b as z Q' → (∀ v ∈ as, okL v) → as.length = (mRow b).2.2.2.2.2.1 → (spread as).length ≤ as.length + 1 → 123 ≤ b → b < 128 → ∃ f, f + 1 ≤ R.frames ∧ 38 * f + 38 ≤ R.locals ∧ MetL l D cA ad A L xs f b as z Q')
    (hR0 : ∀ v z H locs lsA pc, retW ret v (Q (some (.inl (.inl v))) z) → Hp D cA ad z H → va_S A s.heap H locs → decode cc pc = .ok (.ireturn, 1) → W p l e R s m args below meth c H locs cells slots QM (F0 m pc lsA [.int v]))
    (hR1 : ∀ y z H locs lsA pc, ret = 3 → Q (some (.inr y)) z → Hp D cA ad z H → va_S A s.heap H locs → decode cc pc = .ok (.lreturn, 1) → W p l e R s m args below meth c H locs cells slots QM (F0 m pc lsA [.long y]))
    (hXX : ∀ pc ls st z, X pc ls st z → XwL p l e R s m args below meth c cells slots QM D cA ad A nL pc ls st z) (hcs : cells ≤ R.cells ∧ slots ≤ R.slots) :
    ∀ (pc op a b d : Nat) (c0 : Int32) (cs : List (Nat × Nat)) (es : List Ent) (ls : LO) (st : List LV) (z : St), entOkL nL cc (pc, (op, a, b, d), c0, cs) = true →
    (∀ ls st z, k es ls st z → XwL p l e R s m args below meth c cells slots QM D cA ad A nL (nextPc (pc, (op, a, b, d), c0, cs)) ls st z) →
    (∀ t ls st z, j t ls st z → XwL p l e R s m args below meth c cells slots QM D cA ad A nL t ls st z) →
    stepL callM callL L ret Q X k j ((pc, (op, a, b, d), c0, cs) :: es) ls st z → XwL p l e R s m args below meth c cells slots QM D cA ad A nL pc ls st z := by
  intro pc op a b d c0 cs es ls st z hok hk hj h hls hst H locs lsA hH hS hloc
  obtain ⟨hx, hb, hmlc, hown, hlkk, hT, hK, hA, hX⟩ := id F
  have hsz : lsA.size = nL := hloc.1.1
  obtain ⟨hdec, hmore⟩ : (op = 0 ∨ decode cc pc = .ok (instrOf (pc, (op, a, b, d), c0, cs))) ∧ moreOkL nL (pc, (op, a, b, d), c0, cs) = true := by
    unfold entOkL at hok
    rw [Bool.and_eq_true, Bool.or_eq_true, decide_eq_true_eq, decide_eq_true_eq] at hok
    exact hok
  match op, hdec, hmore, hk, h with
  | 0, _, _, _, h => exact hXX _ _ _ _ h (by rw [takeG_eq]; exact fun v hv => hls v (List.mem_of_mem_take hv)) hst H locs lsA hH hS (locO_take hloc a)
  | 1, hdec, hmore, hk, h =>
    have hd := hdec.resolve_left (by decide)
    exact s_const F hmore hd (hk _ _ _ h hls (okL_cons okL_i hst) H locs lsA hH hS hloc)
  | 2, hdec, hmore, hk, h =>
    have hd := hdec.resolve_left (by decide)
    have h : (match getG ls a with
      | some (some (.inl (.inl x))) => boolW (Nat.ble b 1) (k es ls (.inl (.inl x) :: st) z)
      | some (some (.inl (.inr r))) => boolW (Nat.ble 2 b) (k es ls (.inl (.inr r) :: st) z)
      | _ => False) := h
    match hv : getG ls a, h with
    | none, h => exact (h : False).elim
    | some none, h => exact (h : False).elim
    | some (some (.inr _)), h => exact (h : False).elim
    | some (some (.inl (.inl x))), h =>
      have hg := locO_get hloc hv
      obtain ⟨hb1, h⟩ := boolW_t h
      have hb1 := Nat.le_of_ble_eq_true hb1
      exact s_loadI F hmore hb1 hd hg (hk _ _ _ h hls (okL_cons okL_i hst) H locs lsA hH hS hloc)
    | some (some (.inl (.inr r))), h =>
      have hg := locO_get hloc hv
      obtain ⟨hb1, h⟩ := boolW_t h
      have hb1 := Nat.le_of_ble_eq_true hb1
      exact s_loadR F hmore hb1 hd hg (hk _ _ _ h hls (okL_cons (okO_getG hls hv) hst) H locs lsA hH hS hloc)
  | 3, hdec, hmore, hk, h =>
    have hd := hdec.resolve_left (by decide)
    have hmore : (decide (a < nL) && idxOk b a) = true := hmore
    rw [Bool.and_eq_true] at hmore
    have ha : a < nL := of_decide_eq_true hmore.1
    have hmore := hmore.2
    match st, hst, h with
    | [], _, h => exact (h : False).elim
    | .inr _ :: _, _, h => exact (h : False).elim
    | .inl (.inl x) :: st, hst, h =>
      obtain ⟨hb1, h⟩ := boolW_t h
      rw [Bool.and_eq_true, Bool.and_eq_true] at hb1
      exact l_storeI F ha (Nat.le_of_ble_eq_true hb1.2.1) hb1.2.2 hloc hmore (Nat.le_of_ble_eq_true hb1.1) hd (fun lsB hB => hk _ _ _ h (setG_ok hls (by exact trivial) a) (okL_tail hst) H locs lsB hH hS hB)
    | .inl (.inr r) :: st, hst, h =>
      obtain ⟨hb1, h⟩ := boolW_t h
      rw [Bool.and_eq_true, Bool.and_eq_true] at hb1
      exact l_storeR F ha (Nat.le_of_ble_eq_true hb1.2.1) hb1.2.2 hloc hmore (Nat.le_of_ble_eq_true hb1.1) hd (fun lsB hB => hk _ _ _ h (setG_ok (v := some (.inl (.inr r))) hls (okL_head hst) a) (okL_tail hst) H locs lsB hH hS hB)
  | 4, hdec, hmore, hk, h =>
    have hd := hdec.resolve_left (by decide)
    match st, hst, h with
    | [], _, h => exact (h : False).elim
    | .inr _ :: _, _, h => exact (h : False).elim
    | .inl (.inr _) :: _, _, h => exact (h : False).elim
    | [.inl (.inl _)], _, h => exact (h : False).elim
    | .inl (.inl _) :: .inr _ :: _, _, h => exact (h : False).elim
    | .inl (.inl _) :: .inl (.inr _) :: _, _, h => exact (h : False).elim
    | .inl (.inl y) :: .inl (.inl x) :: st, hst, h =>
      have h : binW a x y (fun v => k es ls (.inl (.inl v) :: st) z) := h
      exact s_bin F hd h (fun v hv => hk _ _ _ hv hls (okL_cons okL_i (okL_tail (okL_tail hst))) H locs lsA hH hS hloc)
  | 5, hdec, hmore, hk, h =>
    have hd := hdec.resolve_left (by decide)
    have ha : a < nL := of_decide_eq_true hmore
    have h : (match getG ls a with
      | some (some (.inl (.inl x))) => boolW (Nat.ble a ls.length && noLong ls a) (k es (setG ls a (some (.inl (.inl (x + c0))))) st z)
      | _ => False) := h
    match hv : getG ls a, h with
    | none, h => exact (h : False).elim
    | some none, h => exact (h : False).elim
    | some (some (.inr _)), h => exact (h : False).elim
    | some (some (.inl (.inr _))), h => exact (h : False).elim
    | some (some (.inl (.inl x))), h =>
      obtain ⟨hb1, h⟩ := boolW_t h
      rw [Bool.and_eq_true] at hb1
      exact l_iinc F ha (Nat.le_of_ble_eq_true hb1.1) hb1.2 hloc hv hd (fun lsB hB => hk _ _ _ h (setG_ok hls (by exact trivial) a) hst H locs lsB hH hS hB)
  | 6, hdec, hmore, hk, h =>
    have hd := hdec.resolve_left (by decide)
    match st, hst, h with
    | [], _, h => exact (h : False).elim
    | .inr _ :: _, _, h => exact (h : False).elim
    | .inl (.inr _) :: _, _, h => exact (h : False).elim
    | .inl (.inl x) :: st, hst, h => exact s_if F (of_decide_eq_true hmore) hd (fun q => hk _ _ _ (h.1 q) hls (okL_tail hst) H locs lsA hH hS hloc) (fun q => hj _ _ _ _ (h.2 q) hls (okL_tail hst) H locs lsA hH hS hloc)
  | 7, hdec, hmore, hk, h =>
    have hd := hdec.resolve_left (by decide)
    match st, hst, h with
    | [], _, h => exact (h : False).elim
    | .inr _ :: _, _, h => exact (h : False).elim
    | .inl (.inr _) :: _, _, h => exact (h : False).elim
    | [.inl (.inl _)], _, h => exact (h : False).elim
    | .inl (.inl _) :: .inr _ :: _, _, h => exact (h : False).elim
    | .inl (.inl _) :: .inl (.inr _) :: _, _, h => exact (h : False).elim
    | .inl (.inl y) :: .inl (.inl x) :: st, hst, h => exact s_icmp F (of_decide_eq_true hmore) hd (fun q => hk _ _ _ (h.1 q) hls (okL_tail (okL_tail hst)) H locs lsA hH hS hloc) (fun q => hj _ _ _ _ (h.2 q) hls (okL_tail (okL_tail hst)) H locs lsA hH hS hloc)
  | 8, hdec, hmore, hk, h =>
    have hd := hdec.resolve_left (by decide)
    exact lv_goto hx hb hd int_tgt (hj _ _ _ _ h hls hst H locs lsA hH hS hloc)
  | 13, hdec, hmore, hk, h =>
    have hd := hdec.resolve_left (by decide)
    have hmore : (decide ((24, a, b, (if d = 2 then 1 else 0)) ∈ mlT) && (decide (cs = [((mRow b).2.2.2.2.2.1, (mRow b).2.2.2.2.1)]) && (decide ((mRow b).2.2.2.2.2.2 = decide (¬ d = 0)) && decide (b ∉ initL)))) = true := hmore
    rw [Bool.and_eq_true, Bool.and_eq_true, Bool.and_eq_true] at hmore
    have hml := of_decide_eq_true hmore.1
    have hcs1 := of_decide_eq_true hmore.2.1
    have hsta := of_decide_eq_true hmore.2.2.1
    have hni := of_decide_eq_true hmore.2.2.2
    have hd' : decode cc pc = .ok (if d = 0 then Instr.invokevirtual a else Instr.invokestatic a, 3) := by
      match d, hd with
      | 0, hd => exact hd
      | n + 1, hd => exact hd
    have hnx : nextPc (pc, (13, a, b, d), c0, cs) = pc + 3 := by
      match d with
      | 0 => rfl
      | n + 1 => rfl
    obtain ⟨as, st', e2, e3, hlen, hc, hrv⟩ := inv_splitL (callM := callM) (b := b) (d := d) (st := st) (z := z) (kk := fun st s => k es ls st s) h hcs1
    have hokt : ∀ v ∈ as, okV v := fun v hv => by
      have := hst (.inl v) (by rw [e2]; exact List.mem_append_left _ (List.mem_reverse.mpr (List.mem_map.mpr ⟨v, hv, rfl⟩)))
      exact this
    have hoks : ∀ v ∈ st', okL v := fun v hv => hst v (by rw [e2]; exact List.mem_append_right _ hv)
    obtain ⟨f, hf1, hf2, hM⟩ := hcallM b as z _ hc hokt e3 (mlT_lt _ hml)
    have e5 : st.map (trl ad) = (as.map (trv ad)).reverse ++ st'.map (trl ad) := by
      rw [e2, List.map_append, List.map_reverse, map_inl]
    rw [e5]
    refine s_callV F hml hni hsta e3 (fun e => ?_) hM hf1 hf2 hcs (by have := cat_sumL ad st'; omega) hH hS hsz hd' (fun r z' H1 locs1 hq hH1 hS1 => ?_)
    · obtain ⟨i, as', e4⟩ := hrv e
      have h11 := virt_lt 0 hml (by rw [hsta, e])
      refine ⟨i, as', e4, h11, ?_⟩
      rw [e4] at hokt
      exact okR_obj (okV_head hokt) (Nat.lt_trans h11 (by decide))
    · rw [← hnx]
      cases r with
      | none => exact hk _ _ _ hq hls hoks H1 locs1 lsA hH1 hS1 hloc
      | some x => exact hk _ _ _ hq hls (okL_cons (v := .inl (.inl x)) trivial hoks) H1 locs1 lsA hH1 hS1 hloc
  | 14, hdec, hmore, hk, h =>
    have hd := hdec.resolve_left (by decide)
    match st, h with
    | [], h => exact (h : False).elim
    | .inr _ :: _, h => exact (h : False).elim
    | .inl (.inr _) :: _, h => exact (h : False).elim
    | .inl (.inl _) :: _ :: _, h => exact (h : False).elim
    | [.inl (.inl v)], h =>
      obtain ⟨ha, h⟩ := boolW_t h
      have ha := Nat.eq_of_beq_eq_true ha
      subst ha
      exact hR0 _ _ _ _ _ _ h hH hS hd
  | 19, hdec, hmore, hk, h =>
    have hd := hdec.resolve_left (by decide)
    match st, hst, h with
    | [], _, h => exact (h : False).elim
    | .inr _ :: _, _, h => exact (h : False).elim
    | .inl (.inl _) :: _, _, h => exact (h : False).elim
    | .inl (.inr (q, n)) :: st, hst, h =>
      obtain ⟨hq, hz⟩ := boolW_t h
      have hq := Nat.eq_of_beq_eq_true hq
      subst hq
      have hn : n = 0 := by
        rcases (okL_head hst : okR (24, n)) with h9 | h9
        · exact absurd h9 (Nat.not_lt_zero n)
        · exact congrArg Prod.snd h9
      subst hn
      exact s_slen F hS hd (hk _ _ _ hz hls (okL_cons okL_i (okL_tail hst)) H locs lsA hH hS hloc)
  | 25, hdec, hmore, hk, h =>
    have hd := hdec.resolve_left (by decide)
    have hmore : (decide ((24, a, b, 0) ∈ mlT2) && (decide (cs = [((mRow b).2.2.2.2.2.1, 0)]) && (decide ((mRow b).2.2.2.2.2.2 = true) && decide ((mRow b).2.2.2.2.1 = 24)))) = true := hmore
    rw [Bool.and_eq_true, Bool.and_eq_true, Bool.and_eq_true] at hmore
    have hml := of_decide_eq_true hmore.1
    have hcs1 := of_decide_eq_true hmore.2.1
    have hsta := of_decide_eq_true hmore.2.2.1
    obtain ⟨as, st', e2, e3, hlen, hsp, hc⟩ := inv_splitL2 (callL := callL) (b := b) (st := st) (z := z) (kk := fun st s => k es ls st s) h hcs1
    have hokt : ∀ v ∈ as, okL v := fun v hv => hst v (by rw [e2]; exact List.mem_append_left _ (List.mem_reverse.mpr hv))
    have hoks : ∀ v ∈ st', okL v := fun v hv => hst v (by rw [e2]; exact List.mem_append_right _ hv)
    obtain ⟨f, hf1, hf2, hM⟩ := hcallL b as z _ hc hokt e3 hsp (mlT2_ge _ hml).1 (mlT2_ge _ hml).2
    rw [e2]
    refine s_callL F hml hsta e3 hM hf1 hf2 hcs hlen hH hS hsz hd (fun r z' H1 locs1 hq hor hH1 hS1 => ?_)
    cases r with
    | none => exact hk _ _ _ hq hls hoks H1 locs1 lsA hH1 hS1 hloc
    | some x => exact hk _ _ _ hq hls (okL_cons (hor x rfl) hoks) H1 locs1 lsA hH1 hS1 hloc
  | 26, hdec, hmore, hk, h =>
    have hd := hdec.resolve_left (by decide)
    exact l_const2 F hmore hd (hk _ _ _ h hls (okL_cons okL_l hst) H locs lsA hH hS hloc)
  | 27, hdec, hmore, hk, h =>
    have hd := hdec.resolve_left (by decide)
    match st, hst, h with
    | [], _, h => exact (h : False).elim
    | .inr _ :: _, _, h => exact (h : False).elim
    | .inl (.inr _) :: _, _, h => exact (h : False).elim
    | .inl (.inl x) :: st, hst, h => exact lv_i2l hx hb hd rfl (hk _ _ _ h hls (okL_cons okL_l (okL_tail hst)) H locs lsA hH hS hloc)
  | 28, hdec, hmore, hk, h =>
    have hd := hdec.resolve_left (by decide)
    match st, hst, h with
    | [], _, h => exact (h : False).elim
    | .inl _ :: _, _, h => exact (h : False).elim
    | [.inr _], _, h => exact (h : False).elim
    | .inr _ :: .inl _ :: _, _, h => exact (h : False).elim
    | .inr y :: .inr x :: st, hst, h => exact lv_lmul hx hb hd (hk _ _ _ h hls (okL_cons okL_l (okL_tail (okL_tail hst))) H locs lsA hH hS hloc)
  | 29, hdec, hmore, hk, h =>
    have hd := hdec.resolve_left (by decide)
    match st, hst, h with
    | [], _, h => exact (h : False).elim
    | .inl _ :: _, _, h => exact (h : False).elim
    | [.inr _], _, h => exact (h : False).elim
    | .inr _ :: .inl _ :: _, _, h => exact (h : False).elim
    | .inr y :: .inr x :: st, hst, h => exact lv_ladd hx hb hd (hk _ _ _ h hls (okL_cons okL_l (okL_tail (okL_tail hst))) H locs lsA hH hS hloc)
  | 30, hdec, hmore, hk, h =>
    have hd := hdec.resolve_left (by decide)
    match st, hst, h with
    | [], _, h => exact (h : False).elim
    | .inl _ :: _, _, h => exact (h : False).elim
    | [.inr _], _, h => exact (h : False).elim
    | .inr _ :: .inl _ :: _, _, h => exact (h : False).elim
    | .inr y :: .inr x :: st, hst, h => exact W.lcmp hx hb hd (hk _ _ _ h hls (okL_cons okL_i (okL_tail (okL_tail hst))) H locs lsA hH hS hloc)
  | 31, hdec, hmore, hk, h =>
    have hd := hdec.resolve_left (by decide)
    have h : (match getG ls a with
      | some (some (.inr y)) => k es ls (.inr y :: st) z
      | _ => False) := h
    match hv : getG ls a, h with
    | none, h => exact (h : False).elim
    | some none, h => exact (h : False).elim
    | some (some (.inl _)), h => exact (h : False).elim
    | some (some (.inr y)), h => exact l_loadL F hmore hd (locO_get hloc hv) (hk _ _ _ h hls (okL_cons okL_l hst) H locs lsA hH hS hloc)
  | 32, hdec, hmore, hk, h =>
    have hd := hdec.resolve_left (by decide)
    have hmore : (decide (a + 1 < nL) && idxL b a) = true := hmore
    rw [Bool.and_eq_true] at hmore
    have ha : a + 1 < nL := of_decide_eq_true hmore.1
    match st, hst, h with
    | [], _, h => exact (h : False).elim
    | .inl _ :: _, _, h => exact (h : False).elim
    | .inr y :: st, hst, h =>
      obtain ⟨hb1, h⟩ := boolW_t h
      rw [Bool.and_eq_true] at hb1
      exact l_storeL F ha (Nat.le_of_ble_eq_true hb1.1) hb1.2 hloc hmore.2 hd (fun lsB hB => hk _ _ _ h (setG_ok (setG_ok hls (by exact trivial) a) (by exact trivial) (a + 1)) (okL_tail hst) H locs lsB hH hS hB)
  | 33, hdec, hmore, hk, h =>
    have hd := hdec.resolve_left (by decide)
    match st, h with
    | [], h => exact (h : False).elim
    | .inl _ :: _, h => exact (h : False).elim
    | .inr _ :: _ :: _, h => exact (h : False).elim
    | [.inr y], h =>
      obtain ⟨ha, h⟩ := boolW_t h
      exact hR1 _ _ _ _ _ _ (Nat.eq_of_beq_eq_true ha) h hH hS hd
  | 34, hdec, hmore, hk, h =>
    have hd := hdec.resolve_left (by decide)
    match st, hst, h with
    | [], _, h => exact (h : False).elim
    | .inr _ :: _, _, h => exact (h : False).elim
    | .inl v :: st, hst, h => exact lv_pop hx hb hd (trv_cat ad v) (hk _ _ _ h hls (okL_tail hst) H locs lsA hH hS hloc)
  | 9, _, _, _, h => exact (h : False).elim
  | 10, _, _, _, h => exact (h : False).elim
  | 11, _, _, _, h => exact (h : False).elim
  | 12, _, _, _, h => exact (h : False).elim
  | 15, _, _, _, h => exact (h : False).elim
  | 16, _, _, _, h => exact (h : False).elim
  | 17, _, _, _, h => exact (h : False).elim
  | 18, _, _, _, h => exact (h : False).elim
  | 20, _, _, _, h => exact (h : False).elim
  | 21, _, _, _, h => exact (h : False).elim
  | 22, _, _, _, h => exact (h : False).elim
  | 23, _, _, _, h => exact (h : False).elim
  | 24, _, _, _, h => exact (h : False).elim
  | n + 35, _, _, _, h => exact (h : False).elim
theorem wpl_sound (F : FrOk p s m args meth c D cA ad A L xs cc 24 nL) {callM : Nat → List MV → St → (Option MV → St → Prop) → Prop} {callL : Nat → List LV → St → (Option LV → St → Prop) → Prop} {ret : Nat} {Q : Option LV → St → Prop} {X : Nat → LO → List LV → St → Prop}
    (hcallM : ∀ b as z Q', callM b as z Q' → (∀ v ∈ as, okV v) → as.length = (mRow b).2.2.2.2.2.1 → b < 123 → ∃ f, f + 1 ≤ R.frames ∧ 38 * f + 38 ≤ R.locals ∧ MetC l D cA ad A L xs f b as z Q')
    (hcallL : ∀ b as z Q', callL b as z Q' → (∀ v ∈ as, okL v) → as.length = (mRow b).2.2.2.2.2.1 → (spread as).length ≤ as.length + 1 → 123 ≤ b → b < 128 → ∃ f, f + 1 ≤ R.frames ∧ 38 * f + 38 ≤ R.locals ∧ MetL l D cA ad A L xs f b as z Q')
    (hR0 : ∀ v z H locs lsA pc, retW ret v (Q (some (.inl (.inl v))) z) → Hp D cA ad z H → va_S A s.heap H locs → decode cc pc = .ok (.ireturn, 1) → W p l e R s m args below meth c H locs cells slots QM (F0 m pc lsA [.int v]))
    (hR1 : ∀ y z H locs lsA pc, ret = 3 → Q (some (.inr y)) z → Hp D cA ad z H → va_S A s.heap H locs → decode cc pc = .ok (.lreturn, 1) → W p l e R s m args below meth c H locs cells slots QM (F0 m pc lsA [.long y]))
    (hXX : ∀ pc ls st z, X pc ls st z → XwL p l e R s m args below meth c cells slots QM D cA ad A nL pc ls st z) (hcs : cells ≤ R.cells ∧ slots ≤ R.slots)
    {code : List Ent} (hall : code.all (entOkL nL cc) = true) (hch : chainOk code = true) :
    ∀ (n : Nat) (es : List Ent), (∃ pre, code = pre ++ es) → ∀ (ls : LO) (st : List LV) (z : St), wpl callM callL L ret Q X code n es ls st z → ∀ pc, (∀ e ∈ es.head?, e.1 = pc) → XwL p l e R s m args below meth c cells slots QM D cA ad A nL pc ls st z := by
  intro n
  induction n with
  | zero => intro es _ ls st z h; exact (h : False).elim
  | succ n ih =>
    intro es hs ls st z h pc hpc
    have h : stepL callM callL L ret Q X (wpl callM callL L ret Q X code n) (fun t ls st s => wpl callM callL L ret Q X code n (fromPc code t) ls st s) es ls st z := h
    match es, hs, hpc, h with
    | [], _, _, h => exact (h : False).elim
    | (pc0, (op, a, b, d), c0, cs) :: es, ⟨pre, hp⟩, hpc, h =>
      have e1 : pc0 = pc := hpc _ rfl
      subst e1
      refine step_soundL F hcallM hcallL hR0 hR1 hXX hcs pc0 op a b d c0 cs es ls st z ?_ (fun ls st z hk => ?_) (fun t ls st z hj => ?_) h
      · exact List.all_eq_true.mp hall _ (by rw [hp]; exact List.mem_append_right _ List.mem_cons_self)
      · refine ih es ⟨pre ++ [(pc0, (op, a, b, d), c0, cs)], by rw [hp]; simp⟩ ls st z hk _ (fun f hf => ?_)
        match es, hf, hp with
        | f' :: es, hf, hp =>
          have : f = f' := by
            simp only [List.head?_cons, Option.mem_def, Option.some.injEq] at hf
            exact hf.symm
          rw [this]
          rw [hp] at hch
          exact chain_suf hch
      · obtain ⟨h1, h2⟩ := fromPc_spec code t
        exact ih _ h1 ls st z hj t h2
theorem bodyL_sound (F : FrOk p s m args meth c D cA ad A L xs cc 24 nL) {callM : Nat → List MV → St → (Option MV → St → Prop) → Prop} {callL : Nat → List LV → St → (Option LV → St → Prop) → Prop} {ret : Nat} {Q : Option LV → St → Prop}
    (hcallM : ∀ b as z Q', callM b as z Q' → (∀ v ∈ as, okV v) → as.length = (mRow b).2.2.2.2.2.1 → b < 123 → ∃ f, f + 1 ≤ R.frames ∧ 38 * f + 38 ≤ R.locals ∧ MetC l D cA ad A L xs f b as z Q')
    (hcallL : ∀ b as z Q', callL b as z Q' → (∀ v ∈ as, okL v) → as.length = (mRow b).2.2.2.2.2.1 → (spread as).length ≤ as.length + 1 → 123 ≤ b → b < 128 → ∃ f, f + 1 ≤ R.frames ∧ 38 * f + 38 ≤ R.locals ∧ MetL l D cA ad A L xs f b as z Q')
    (hR0 : ∀ v z H locs lsA pc, retW ret v (Q (some (.inl (.inl v))) z) → Hp D cA ad z H → va_S A s.heap H locs → decode cc pc = .ok (.ireturn, 1) → W p l e R s m args below meth c H locs cells slots QM (F0 m pc lsA [.int v]))
    (hR1 : ∀ y z H locs lsA pc, ret = 3 → Q (some (.inr y)) z → Hp D cA ad z H → va_S A s.heap H locs → decode cc pc = .ok (.lreturn, 1) → W p l e R s m args below meth c H locs cells slots QM (F0 m pc lsA [.long y]))
    (hcs : cells ≤ R.cells ∧ slots ≤ R.slots)
    {code : List Ent} (hall : code.all (entOkL nL cc) = true) (hch : chainOk code = true) {pc : Nat} {ls : LO} {st : List LV} {z : St} (h : bodyL callM callL L ret Q code pc ls st z) :
    XwL p l e R s m args below meth c cells slots QM D cA ad A nL pc ls st z := by
  refine h (XwL p l e R s m args below meth c cells slots QM D cA ad A nL) (fun n pc ls st z hw => ?_)
  obtain ⟨h1, h2⟩ := fromPc_spec code pc
  obtain ⟨h3, h4⟩ := behind_spec hch h1 h2
  exact wpl_sound F hcallM hcallL hR0 hR1 (fun _ _ _ _ q => q) hcs hall hch n _ h3 ls st z hw pc h4
end LM
theorem cls24 : ∀ m, m < 128 → 123 ≤ m → (mRow m).2.2.2.2.1 = 24 := by decide +kernel
theorem nspread : ∀ m, m < 128 → 123 ≤ m → (mRow m).2.2.2.2.2.1 + 1 ≤ (mRow m).2.2.1 := by decide +kernel
/-- EVERY METHOD with longs is one of the machine -/
theorem wpL_sound {l : Launch} {D : va_G} {cA : Nat → ClassId} {ad : Nat × Nat → Nat} {A : Nat → Prop} {L : Nat} {xs : Nat → Int32} (hA : adOk ad A) (hbA : ¬ A (ad (24, 0))) :
    ∀ (f b : Nat) (as : List LV) (z : St) (Q : Option LV → St → Prop), wpL L xs codT colT retT f b as z Q → (∀ v ∈ as, okL v) → as.length = (mRow b).2.2.2.2.2.1 → (spread as).length ≤ as.length + 1 → 123 ≤ b → b < 128 → MetL l D cA ad A L xs f b as z Q := by
  intro f
  induction f with
  | zero => intro b as z Q h; exact (h : False).elim
  | succ f ih =>
    intro b as z Q h hok hlen hsp hb1 hb2
    obtain ⟨k1, k2, k3, k4, k5, k6⟩ := mh_all _ (mRow_mem (m := b) (by omega))
    obtain ⟨d1, d2, d3, -⟩ := mdL_all b hb1 hb2
    have hnl := nspread b hb2 hb1
    have hcl := cls24 b hb2 hb1
    refine va_MetF (cc := (mRow b).2.1) (maxL := (mRow b).2.2.1) (ret := (mRow b).2.2.2.1) k3 rfl ?_
    intro p e s m args below meth c s₁ B hml hv
    obtain ⟨rfl, hH, hK, hT, hX⟩ := hv
    have hx := B.exec
    have hbt := B.bytes
    have hr := B.returns
    have hlocks := B.notSynchronized
    have hown : s.vm.findClass (cnm 24) = some m.cls := by rw [← hcl, k4]; exact findClass_of_methodNamed B.named
    have hbl : ad (24, 0) < s.heap.size := by
      obtain ⟨scr, h1, -⟩ := hX
      exact (Array.getElem?_eq_some_iff.mp h1).1
    have F : FrOk p s m (as.map (trl ad)).toArray meth c D cA ad A L xs (mRow b).2.1 24 (mRow b).2.2.1 := ⟨hx, hbt, hml, hown, hlocks, hT, hK, hA, hX, hbl, hbA⟩
    have hll : (lg_sl (as.map (trl ad))).length ≤ (mRow b).2.2.1 := by rw [sl_spread]; omega
    have hl := lv_entry (as.map (trl ad)) (n := (mRow b).2.2.1) hll
    rw [lv_args_spread] at hl
    rw [lg_entry_eq]
    have hbody := h (wpM L xs codT retT f) (wpL L xs codT colT retT f) (fun _ _ _ _ q => q) (fun _ _ _ _ q => q)
    refine bodyL_sound (cells := 0) (slots := 0) (QM := MQ below (QcL D cA ad A L xs Q) (as.map (trl ad)).toArray s 0 0 A) F (fun b' as' z' Q' hc hok' hlen' hb' => ?_) (fun b' as' z' Q' hc hok' hlen' hsp' hb' hb'' => ?_) (fun v z' H locs lsA pc hret hH' hS' hd => ?_) (fun y z' H locs lsA pc hret hq hH' hS' hd => ?_) ⟨Nat.le_refl _, Nat.le_refl _⟩ d1 d2 hbody (spread_ok hok) (fun v hv => by cases hv) s.heap [] _ hH va_S.rf ⟨hl, by omega⟩
    · refine ⟨f, Nat.le_refl _, ?_, wpM_sound hA hbA f b' as' z' Q' hc hok' hlen' hb'⟩
      show 38 * f + 38 ≤ 38 * (f + 1)
      omega
    · refine ⟨f, Nat.le_refl _, ?_, ih b' as' z' Q' hc hok' hlen' hsp' hb' hb''⟩
      show 38 * f + 38 ≤ 38 * (f + 1)
      omega
    · have hq : ∀ t : State, t.heap = H → s.WarmedH t.vm → Q (some (.inl (.inl v))) z' → QcL D cA ad A L xs Q (as.map (trl ad)).toArray s (.returned (some (.int v))) t := fun t ht hW hq => ⟨⟨some (.inl (.inl v)), z', rfl, hq, fun w hw => by cases hw; trivial, rep_at F hH' hS' t ht hW⟩, hS'.F ht⟩
      rw [← d3] at hret
      match hrt : (mRow b).2.2.2.1, hret with
      | some .int, hret => exact W.iret hx hbt (hr.trans hrt) (fun t ht hW => hq t ht hW hret) hS'.2.2 hd
      | some .boolean, hret => exact W.zret hx hbt (hr.trans hrt) (by rcases hret.1 with q | q <;> rw [q] <;> rfl) (fun t ht hW => hq t ht hW hret.2) hS'.2.2 hd
      | none, hret => exact (hret : False).elim
      | some .byte, hret => exact (hret : False).elim
      | some .char, hret => exact (hret : False).elim
      | some .short, hret => exact (hret : False).elim
      | some .long, hret => exact (hret : False).elim
      | some .float, hret => exact (hret : False).elim
      | some .double, hret => exact (hret : False).elim
      | some (.object _), hret => exact (hret : False).elim
      | some (.array _), hret => exact (hret : False).elim
    · rw [← d3] at hret
      match hrt : (mRow b).2.2.2.1, hret with
      | some .long, _ => exact W.lret hx hbt (hr.trans hrt) (fun t ht hW => ⟨⟨some (.inr y), z', rfl, hq, fun w hw => by cases hw; trivial, rep_at F hH' hS' t ht hW⟩, hS'.F ht⟩) hS'.2.2 hd
      | none, hret => exact absurd hret (by decide)
      | some .int, hret => exact absurd hret (by decide)
      | some .boolean, hret => exact absurd hret (by decide)
      | some .byte, hret => exact absurd hret (by decide)
      | some .char, hret => exact absurd hret (by decide)
      | some .short, hret => exact absurd hret (by decide)
      | some .float, hret => exact absurd hret (by decide)
      | some .double, hret => exact absurd hret (by decide)
      | some (.object _), hret => exact absurd (show (9 : Nat) = 3 from hret) (by decide)
      | some (.array _), hret => exact absurd (show (9 : Nat) = 3 from hret) (by decide)
