/-! METHODS WITH LONGS: the machine reaches what their small machine reaches -/
def QcL (D : va_G) (cA : Nat → ClassId) (ad : Nat × Nat → Nat) (A : Nat → Prop) (L : Nat) (xs : Nat → Int32) (Q : Option LV → St → Prop) : Array Value → State → Outcome → State → Prop := fun _ st oc t => (∃ (r : Option LV) (z : St), oc = .returned (r.map (trl ad)) ∧ Q r z ∧ (∀ v, r = some v → okL v) ∧ RepU D cA ad L xs z t) ∧ va_F A st t
def MetL (l : Launch) (D : va_G) (cA : Nat → ClassId) (ad : Nat × Nat → Nat) (A : Nat → Prop) (L : Nat) (xs : Nat → Int32) (f b : Nat) (as : List LV) (z : St) (Q : Option LV → St → Prop) : Prop :=
  Met l (mRow b).1 [Cond.code (mRow b).1 (mRow b).2.1 (mRow b).2.2.1 (mRow b).2.2.2.1] (rmF f) (va_Pc (as.map (trl ad)) (RepU D cA ad L xs z)) (QcL D cA ad A L xs Q) 0 0 A
section LC
variable {p : Program} {l : Launch} {e : Env} {R : Room} {s : State} {m : MethodId} {args : Array Value} {below : List Frame} {meth : Method} {c : Code} {cells slots : Nat} {QM : State → Prop}
variable {D : va_G} {cA : Nat → ClassId} {ad : Nat × Nat → Nat} {A : Nat → Prop} {L : Nat} {xs : Nat → Int32} {cc : ByteArray} {o nL : Nat} {pc : Nat} {lsA : Array Slot} {H : Heap} {locs : List Loc} {z : St}
theorem sm_callL {Q' : Option LV → St → Prop} {a : Array Value} {rest st0 : List Value} (hr : va_Run p l e R s m args below meth c H locs cells slots 0 0 (F0 m pc lsA st0) rest (QcL D cA ad A L xs Q' a) A) (hS : va_S A s.heap H locs)
    (kk : ∀ (r : Option LV) (z' : St) (H1 : Heap) (locs1 : List Loc), Q' r z' → (∀ v, r = some v → okL v) → Hp D cA ad z' H1 → va_S A s.heap H1 locs1 → W p l e R s m args below meth c H1 locs1 cells slots QM (F0 m (pc + 3) lsA ((r.map (trl ad)).toList ++ rest))) : W p l e R s m args below meth c H locs cells slots QM (F0 m pc lsA st0) := by
  intro T hT X
  obtain ⟨v, st₀, t, T', L', h0, X', hL, e1, e2, ⟨⟨r, z', hv, hq, hok, hrep⟩, hz, hk⟩, st⟩ := hr T hT X
  cases hv
  rw [h0] at hz hk
  obtain ⟨t2, a1, b1⟩ := kk r z' T'.heap (locs ++ L') hq hok (by rw [e1]; exact hrep.1) ⟨Nat.le_trans hS.1 (by rw [e1]; exact hz), fun q h1 h2 => by rw [e1, hk q (Nat.lt_of_lt_of_le h1 hS.1) h2]; exact hS.2.1 q h1 h2, fun q hq => by
    rcases List.mem_append.mp hq with h | h
    · exact hS.2.2 q h
    · exact hL q h⟩ T' rfl X'
  exact ⟨t2, st t2 a1, b1⟩
theorem s_callL (F : FrOk p s m args meth c D cA ad A L xs cc 24 nL) {a b f : Nat} {as st : List LV} {Q' : Option LV → St → Prop} (hml : (24, a, b, 0) ∈ mlT2) (hst : (mRow b).2.2.2.2.2.2 = true) (hn : as.length = (mRow b).2.2.2.2.2.1)
    (hM : MetL l D cA ad A L xs f b as z Q') (hf1 : f + 1 ≤ R.frames) (hf2 : 38 * f + 38 ≤ R.locals) (hcs : cells ≤ R.cells ∧ slots ≤ R.slots) (hlen : st.length ≤ 4)
    (hH : Hp D cA ad z H) (hS : va_S A s.heap H locs) (hsz : lsA.size = nL) (hd : decode cc pc = .ok (Instr.invokestatic a, 3))
    (kk : ∀ (r : Option LV) (z' : St) (H1 : Heap) (locs1 : List Loc), Q' r z' → (∀ v, r = some v → okL v) → Hp D cA ad z' H1 → va_S A s.heap H1 locs1 → W p l e R s m args below meth c H1 locs1 cells slots QM (F0 m (pc + 3) lsA ((r.map (trl ad)).toList ++ st.map (trl ad)))) : W p l e R s m args below meth c H locs cells slots QM (F0 m pc lsA ((as.reverse ++ st).map (trl ad))) := by
  obtain ⟨hx, hb, hmlc, hown, hlk, hT, hK, hA, hX⟩ := id F
  obtain ⟨⟨w1, w2, w3⟩, ⟨h1, h2, h3, h4, h5, h6⟩, h7⟩ := mlT2_ok _ hml
  simp only at w1 w2 w3 h1 h2 h3 h4 h5 h6 h7
  have hrm : 2 * (F0 m pc lsA ((as.reverse ++ st).map (trl ad))).monitorRoom + ((st.map (trl ad)).map fun v => v.category).sum ≤ 8 := lv_room (by have := cat_sumL ad st; omega)
  have hloc : 8 + ((mRow b).2.2.1 + 11) + (rmF f).locals ≤ R.locals := by show 8 + ((mRow b).2.2.1 + 11) + 38 * f ≤ _; omega
  have hws : ∀ w ∈ [Cond.code (mRow b).1 (mRow b).2.1 (mRow b).2.2.1 (mRow b).2.2.2.1], ∀ (a' : Array Value) (U : State), s.WarmedH U.vm → w.before a' U = true := by
    intro w hw a' U hW
    rw [List.mem_singleton.mp hw]
    exact (Tk.warm hW hT).use w1
  rw [hst] at w3 h2
  rw [if_pos rfl] at w3 h2
  have hsg : ∀ sig, parseMethodDescriptor (mRow b).1.desc = some sig → as.length = sig.parameters.length := fun sig hsig => by
    rw [hsig] at h2
    have h9 := Option.some.inj h2
    rw [Nat.sub_zero] at h9
    rw [hn, ← h9]
  rw [if_pos trivial] at h7
  refine sm_callL (va_runS (own := cnm 24) (As := as.map (trl ad)) (rest := st.map (trl ad)) (index := a) (Ts := []) (n := as.length) ⟨hx, hb, hmlc, hown, fun w hw => by cases hw⟩ hM
    ⟨⟨rfl, rfl, hf1, hloc, hws, List.mem_cons_self, hT.use w1, hT.use w2, h1, hsg, hT.use h7⟩, hT.use w3⟩
    ⟨pc_blind _, fun U hU hW => ⟨rfl, rep_at F hH hS U hU hW⟩⟩ rfl (by simp) hsz (by simp) hrm hd ⟨hcs.1, hcs.2⟩) hS kk
/-- as s_call, over any rest of the stack -/
theorem s_callV (F : FrOk p s m args meth c D cA ad A L xs cc o nL) {a b d f : Nat} {as : List MV} {rest : List Value} {Q' : Option MV → St → Prop} (hml : (o, a, b, (if d = 2 then 1 else 0)) ∈ mlT) (hni : b ∉ initL) (hst : (mRow b).2.2.2.2.2.2 = decide (¬ d = 0)) (hn : as.length = (mRow b).2.2.2.2.2.1)
    (hrecv : d = 0 → ∃ i as', as = .inr ((mRow b).2.2.2.2.1, i) :: as' ∧ (mRow b).2.2.2.2.1 < 10 ∧ i < cntK (mRow b).2.2.2.2.1)
    (hM : MetC l D cA ad A L xs f b as z Q') (hf1 : f + 1 ≤ R.frames) (hf2 : 38 * f + 38 ≤ R.locals) (hcs : cells ≤ R.cells ∧ slots ≤ R.slots) (hlen : (rest.map fun v => v.category).sum ≤ 8)
    (hH : Hp D cA ad z H) (hS : va_S A s.heap H locs) (hsz : lsA.size = nL) (hd : decode cc pc = .ok (if d = 0 then Instr.invokevirtual a else Instr.invokestatic a, 3))
    (kk : ∀ (r : Option Int32) (z' : St) (H1 : Heap) (locs1 : List Loc), Q' (r.map Sum.inl) z' → Hp D cA ad z' H1 → va_S A s.heap H1 locs1 → W p l e R s m args below meth c H1 locs1 cells slots QM (F0 m (pc + 3) lsA ((r.map Value.int).toList ++ rest))) : W p l e R s m args below meth c H locs cells slots QM (F0 m pc lsA ((as.map (trv ad)).reverse ++ rest)) := by
  obtain ⟨hx, hb, hmlc, hown, hlk, hT, hK, hA, hX⟩ := id F
  obtain ⟨⟨w1, w2, w3⟩, ⟨h1, h2, h3, h4, h5, h6⟩, h7⟩ := mlT_ok _ hml
  simp only at w1 w2 w3 h1 h2 h3 h4 h5 h6 h7
  have hrm : 2 * (F0 m pc lsA ((as.map (trv ad)).reverse ++ rest)).monitorRoom + (rest.map fun v => v.category).sum ≤ 8 := lv_room hlen
  have hloc : 8 + ((mRow b).2.2.1 + 11) + (rmF f).locals ≤ R.locals := by show 8 + ((mRow b).2.2.1 + 11) + 38 * f ≤ _; omega
  have hws : ∀ w ∈ [Cond.code (mRow b).1 (mRow b).2.1 (mRow b).2.2.1 (mRow b).2.2.2.1], ∀ (a' : Array Value) (U : State), s.WarmedH U.vm → w.before a' U = true := by
    intro w hw a' U hW
    rw [List.mem_singleton.mp hw]
    exact (Tk.warm hW hT).use w1
  by_cases hd0 : d = 0
  · subst hd0
    obtain ⟨i, as', rfl, hc11, hi⟩ := hrecv rfl
    have hstF : (mRow b).2.2.2.2.2.2 = false := hst
    rw [hstF] at w3 h2
    rw [if_neg (by decide)] at w3 h2
    rw [if_pos (by decide)] at h7
    obtain ⟨k, hk⟩ := smW_get (cA := cA) (ad := ad) z (r := ((mRow b).2.2.2.2.1, i)) hi
    rw [cell_obj hc11] at hk
    have hrc := va_recv hK hH.1 (cl_at hc11) hk
    rw [h4] at hrc
    have hsel : inT (.selects (mRow b).1.cls (mRow b).1 (mRow b).1) := by
      rcases w3.2 with q | q
      · exact absurd q (initL_ok _ (mlT_lt _ hml) hni)
      · exact q
    refine sm_call (va_runV (C := (mRow b).1.cls) (own := cnm o) (As := as'.map (trv ad)) (rest := rest) (index := a) (Ts := []) (b := ad ((mRow b).2.2.2.2.1, i)) (n := as'.length) ⟨hx, hb, hmlc, hown, fun w hw => by cases hw⟩ hM
      ⟨⟨rfl, rfl, hf1, hloc, hws, List.mem_cons_self, hT.use w1, hT.use w2, h1, fun sig hsig => ?_, hT.use h7⟩, hT.use w3.1, hT.use hsel⟩
      ⟨pc_blind _, hrc, fun U hU hW => ⟨rfl, rep_at F hH hS U hU hW⟩⟩ rfl (by simp) hsz ?_ hrm hd ⟨hcs.1, hcs.2⟩) hS kk
    · rw [hsig] at h2
      have h9 := Option.some.inj h2
      rw [List.length_cons] at hn
      rw [← hn] at h9
      exact h9.symm
    · simp [trv]
  · have hstT : (mRow b).2.2.2.2.2.2 = true := by rw [hst]; exact decide_eq_true hd0
    rw [hstT] at w3 h2
    rw [if_pos rfl] at w3 h2
    have hsg : ∀ sig, parseMethodDescriptor (mRow b).1.desc = some sig → as.length = sig.parameters.length := fun sig hsig => by
      rw [hsig] at h2
      have h9 := Option.some.inj h2
      rw [Nat.sub_zero] at h9
      rw [hn, ← h9]
    rw [if_neg hd0] at hd
    by_cases hd2 : d = 2
    · rw [if_pos hd2, if_neg (by decide)] at h7
      refine sm_call (va_runSN (own := cnm o) (host := RX9) (As := as.map (trv ad)) (rest := rest) (index := a) (Ts := []) (n := as.length) ⟨hx, hb, hmlc, hown, fun w hw => by cases hw⟩ hM
        ⟨⟨⟨rfl, rfl, hf1, hloc, hws, List.mem_cons_self⟩, hT.use w1, hT.use w2, h1, hsg, hT.use h7⟩, hT.use w3, trivial⟩
        ⟨pc_blind _, fun U hU hW => ⟨rfl, rep_at F hH hS U hU hW⟩⟩ rfl (by simp) hsz (by simp) hrm hd ⟨hcs.1, hcs.2⟩) hS kk
    · rw [if_neg hd2, if_pos rfl] at h7
      refine sm_call (va_runS (own := cnm o) (As := as.map (trv ad)) (rest := rest) (index := a) (Ts := []) (n := as.length) ⟨hx, hb, hmlc, hown, fun w hw => by cases hw⟩ hM
        ⟨⟨rfl, rfl, hf1, hloc, hws, List.mem_cons_self, hT.use w1, hT.use w2, h1, hsg, hT.use h7⟩, hT.use w3⟩
        ⟨pc_blind _, fun U hU hW => ⟨rfl, rep_at F hH hS U hU hW⟩⟩ rfl (by simp) hsz (by simp) hrm hd ⟨hcs.1, hcs.2⟩) hS kk
end LC
/-- as XwP, for methods with longs -/
def XwL (p : Program) (l : Launch) (e : Env) (R : Room) (s : State) (m : MethodId) (args : Array Value) (below : List Frame) (meth : Method) (c : Code) (cells slots : Nat) (QM : State → Prop) (D : va_G) (cA : Nat → ClassId) (ad : Nat × Nat → Nat) (A : Nat → Prop) (nL : Nat) (pc : Nat) (ls : LO) (st : List LV) (z : St) : Prop :=
  (∀ v ∈ ls, okO v) → (∀ v ∈ st, okL v) → ∀ (H : Heap) (locs : List Loc) (lsA : Array Slot), Hp D cA ad z H → va_S A s.heap H locs → locO ad nL lsA ls → W p l e R s m args below meth c H locs cells slots QM (F0 m pc lsA (st.map (trl ad)))
theorem inv_splitL {callM : Nat → List MV → St → (Option MV → St → Prop) → Prop} {n w b d : Nat} {st : List LV} {z : St} {kk : List LV → St → Prop} {cs : List (Nat × Nat)} (h : (match cs with
      | (n, w) :: _ => (match popG n [] st with
        | some (as, st) => boolW (Nat.ble st.length 4) (match mvs as with
          | some as => (match Nat.beq d 0 with
            | true => (match as with
              | .inr (q, _) :: _ => boolW (Nat.beq q w) (callM b as z (fun r s => kk (pushM r st) s))
              | _ => False)
            | false => callM b as z (fun r s => kk (pushM r st) s))
          | none => False)
        | none => False)
      | [] => False)) (hcs : cs = [(n, w)]) : ∃ as st', st = (as.map (Sum.inl : MV → LV)).reverse ++ st' ∧ as.length = n ∧ st'.length ≤ 4 ∧ callM b as z (fun r s => kk (pushM r st') s) ∧ (d = 0 → ∃ i as', as = .inr (w, i) :: as') := by
  subst hcs
  have h : (match popG n [] st with
        | some (as, st) => boolW (Nat.ble st.length 4) (match mvs as with
          | some as => (match Nat.beq d 0 with
            | true => (match as with
              | .inr (q, _) :: _ => boolW (Nat.beq q w) (callM b as z (fun r s => kk (pushM r st) s))
              | _ => False)
            | false => callM b as z (fun r s => kk (pushM r st) s))
          | none => False)
        | none => False) := h
  cases hp : popG n [] st with
  | none => rw [hp] at h; exact h.elim
  | some pr =>
    obtain ⟨as0, st'⟩ := pr
    rw [hp] at h
    obtain ⟨t, e1, e2, e3⟩ := popG_eq _ _ _ _ _ hp
    rw [List.append_nil] at e1
    subst e1
    obtain ⟨hlen, h2⟩ := boolW_t h
    cases hm : mvs as0 with
    | none => rw [hm] at h2; exact (h2 : False).elim
    | some as =>
      rw [hm] at h2
      have e4 := mvs_eq hm
      subst e4
      refine ⟨as, st', e2, by rw [← e3, List.length_map], Nat.le_of_ble_eq_true hlen, ?_⟩
      cases hd0 : Nat.beq d 0 with
      | false =>
        rw [hd0] at h2
        exact ⟨h2, fun e => by rw [e] at hd0; cases hd0⟩
      | true =>
        rw [hd0] at h2
        cases as with
        | nil => exact (h2 : False).elim
        | cons v as' => cases v with
          | inl x => exact (h2 : False).elim
          | inr r =>
            obtain ⟨q, i⟩ := r
            obtain ⟨hq, h3⟩ := boolW_t h2
            have hq := Nat.eq_of_beq_eq_true hq
            subst hq
            exact ⟨h3, fun _ => ⟨i, as', rfl⟩⟩
theorem inv_splitL2 {callL : Nat → List LV → St → (Option LV → St → Prop) → Prop} {n w b : Nat} {st : List LV} {z : St} {kk : List LV → St → Prop} {cs : List (Nat × Nat)} (h : (match cs with
      | (n, _) :: _ => (match popG n [] st with
        | some (as, st) => boolW (Nat.ble st.length 4) (boolW (Nat.ble (spread as).length (n + 1)) (callL b as z (fun r s => kk (pushR r st) s)))
        | none => False)
      | [] => False)) (hcs : cs = [(n, w)]) : ∃ as st', st = as.reverse ++ st' ∧ as.length = n ∧ st'.length ≤ 4 ∧ (spread as).length ≤ as.length + 1 ∧ callL b as z (fun r s => kk (pushR r st') s) := by
  subst hcs
  have h : (match popG n [] st with
        | some (as, st) => boolW (Nat.ble st.length 4) (boolW (Nat.ble (spread as).length (n + 1)) (callL b as z (fun r s => kk (pushR r st) s)))
        | none => False) := h
  cases hp : popG n [] st with
  | none => rw [hp] at h; exact h.elim
  | some pr =>
    obtain ⟨as, st'⟩ := pr
    rw [hp] at h
    obtain ⟨t, e1, e2, e3⟩ := popG_eq _ _ _ _ _ hp
    rw [List.append_nil] at e1
    subst e1
    obtain ⟨hlen, h2⟩ := boolW_t h
    obtain ⟨hsp, h2⟩ := boolW_t h2
    exact ⟨as, st', e2, e3, Nat.le_of_ble_eq_true hlen, by rw [e3]; exact Nat.le_of_ble_eq_true hsp, h2⟩
def idxL (b a : Nat) : Bool := match b with
  | 0 => decide (a < 4) | _ => true
section LS
variable {p : Program} {l : Launch} {e : Env} {R : Room} {s : State} {m : MethodId} {args : Array Value} {below : List Frame} {meth : Method} {c : Code} {cells slots : Nat} {QM : State → Prop}
variable {D : va_G} {cA : Nat → ClassId} {ad : Nat × Nat → Nat} {A : Nat → Prop} {L : Nat} {xs : Nat → Int32} {cc : ByteArray} {nL : Nat} {H : Heap} {locs : List Loc} {lsA : Array Slot} {rest : List Value} {ls : LO}
theorem l_storeI (F : FrOk p s m args meth c D cA ad A L xs cc 24 nL) {pc a b d : Nat} {c0 x : Int32} {cs : List (Nat × Nat)} (ha : a < nL) (hlen : a ≤ ls.length) (hn : noLong ls a = true) (hloc : locO ad nL lsA ls) (hm : idxOk b a = true) (hb1 : b ≤ 1) (hd : decode cc pc = .ok (instrOf (pc, (3, a, b, d), c0, cs)))
    (kk : ∀ lsB, locO ad nL lsB (setG ls a (some (.inl (.inl x)))) → W p l e R s m args below meth c H locs cells slots QM (F0 m (nextPc (pc, (3, a, b, d), c0, cs)) lsB rest)) : W p l e R s m args below meth c H locs cells slots QM (F0 m pc lsA (.int x :: rest)) := by
  obtain ⟨hx, hb, -⟩ := id F
  match b, hm, hb1, hd, kk with
  | 0, hm, _, hd, kk => exact lv_istore_n hx hb hd (Nat.mod_eq_of_lt (of_decide_eq_true hm)) hloc.1 ha rfl (fun lsB hB => kk lsB (locO_set1 hloc ha hlen hn (.inl (.inl x)) rfl hB))
  | 1, hm, _, hd, kk => exact lv_istore hx hb hd hloc.1 ha rfl (fun lsB hB => kk lsB (locO_set1 hloc ha hlen hn (.inl (.inl x)) rfl hB))
theorem l_storeR (F : FrOk p s m args meth c D cA ad A L xs cc 24 nL) {pc a b d : Nat} {c0 : Int32} {r : Nat × Nat} {cs : List (Nat × Nat)} (ha : a < nL) (hlen : a ≤ ls.length) (hn : noLong ls a = true) (hloc : locO ad nL lsA ls) (hm : idxOk b a = true) (hb1 : 2 ≤ b) (hd : decode cc pc = .ok (instrOf (pc, (3, a, b, d), c0, cs)))
    (kk : ∀ lsB, locO ad nL lsB (setG ls a (some (.inl (.inr r)))) → W p l e R s m args below meth c H locs cells slots QM (F0 m (nextPc (pc, (3, a, b, d), c0, cs)) lsB rest)) : W p l e R s m args below meth c H locs cells slots QM (F0 m pc lsA (.ref (ad r) :: rest)) := by
  obtain ⟨hx, hb, -⟩ := id F
  match b, hm, hb1, hd, kk with
  | 2, hm, _, hd, kk => exact lv_astore_n hx hb hd (Nat.mod_eq_of_lt (of_decide_eq_true hm)) hloc.1 ha rfl (fun lsB hB => kk lsB (locO_set1 hloc ha hlen hn (.inl (.inr r)) rfl hB))
  | n + 3, hm, _, hd, kk => exact lv_astore hx hb hd hloc.1 ha rfl (fun lsB hB => kk lsB (locO_set1 hloc ha hlen hn (.inl (.inr r)) rfl hB))
theorem l_storeL (F : FrOk p s m args meth c D cA ad A L xs cc 24 nL) {pc a b d : Nat} {c0 : Int32} {y : Int64} {cs : List (Nat × Nat)} (ha : a + 1 < nL) (hlen : a ≤ ls.length) (hn : noLong ls a = true) (hloc : locO ad nL lsA ls) (hm : idxL b a = true) (hd : decode cc pc = .ok (instrOf (pc, (32, a, b, d), c0, cs)))
    (kk : ∀ lsB, locO ad nL lsB (setG (setG ls a (some (.inr y))) (a + 1) none) → W p l e R s m args below meth c H locs cells slots QM (F0 m (nextPc (pc, (32, a, b, d), c0, cs)) lsB rest)) : W p l e R s m args below meth c H locs cells slots QM (F0 m pc lsA (.long y :: rest)) := by
  obtain ⟨hx, hb, -⟩ := id F
  match b, hm, hd, kk with
  | 0, hm, hd, kk => exact lv_lstore_n hx hb hd (Nat.mod_eq_of_lt (of_decide_eq_true hm)) hloc.1 ha rfl (fun lsB hB => kk lsB (locO_set2 hloc ha hlen hn y rfl hB))
  | n + 1, hm, hd, kk => exact lv_lstore hx hb hd hloc.1 ha rfl (fun lsB hB => kk lsB (locO_set2 hloc ha hlen hn y rfl hB))
theorem l_loadL (F : FrOk p s m args meth c D cA ad A L xs cc 24 nL) {pc a b d : Nat} {c0 : Int32} {y : Int64} {cs : List (Nat × Nat)} (hm : idxL b a = true) (hd : decode cc pc = .ok (instrOf (pc, (31, a, b, d), c0, cs))) (hg : lsA[a]? = some (.val (.long y)))
    (kk : W p l e R s m args below meth c H locs cells slots QM (F0 m (nextPc (pc, (31, a, b, d), c0, cs)) lsA (.long y :: rest))) : W p l e R s m args below meth c H locs cells slots QM (F0 m pc lsA rest) := by
  obtain ⟨hx, hb, -⟩ := id F
  match b, hm, hd, kk with
  | 0, hm, hd, kk => exact lv_lload_n hx hb hd (Nat.mod_eq_of_lt (of_decide_eq_true hm)) hg kk
  | n + 1, hm, hd, kk => exact lv_lload hx hb hd hg kk
theorem l_iinc (F : FrOk p s m args meth c D cA ad A L xs cc 24 nL) {pc a : Nat} {c0 x : Int32} (ha : a < nL) (hlen : a ≤ ls.length) (hn : noLong ls a = true) (hloc : locO ad nL lsA ls) (hg : getG ls a = some (some (.inl (.inl x)))) (hd : decode cc pc = .ok (.iinc a c0.toInt, 3))
    (kk : ∀ lsB, locO ad nL lsB (setG ls a (some (.inl (.inl (x + c0))))) → W p l e R s m args below meth c H locs cells slots QM (F0 m (pc + 3) lsB rest)) : W p l e R s m args below meth c H locs cells slots QM (F0 m pc lsA rest) := by
  obtain ⟨hx, hb, -⟩ := id F
  have hmem : (a, Value.int x) ∈ enumO ad 0 ls := mem_enumO.mpr ⟨Nat.zero_le _, .inl (.inl x), by rw [getG_eq] at hg; exact hg, rfl⟩
  obtain ⟨k, hk⟩ := List.getElem?_of_mem hmem
  exact lv_iinc hx hb hd hloc.1 hk (by rw [Int32_ofInt_toInt]) ha rfl (fun lsB hB => kk lsB (locO_set1 hloc ha hlen hn (.inl (.inl (x + c0))) rfl hB))
theorem l_const2 (F : FrOk p s m args meth c D cA ad A L xs cc 24 nL) {pc a : Nat} {c0 : Int32} (hm : decide ((a, c0) ∈ [(9, (7 : Int32)), (11, 31)]) = true) (hd : decode cc pc = .ok (.ldc2_w a, 3))
    (kk : W p l e R s m args below meth c H locs cells slots QM (F0 m (pc + 3) lsA (.long c0.toInt64 :: rest))) : W p l e R s m args below meth c H locs cells slots QM (F0 m pc lsA rest) := by
  obtain ⟨hx, hb, hmlc, hown, hlkk, hT, hK, hA, hX⟩ := id F
  have hm := of_decide_eq_true hm
  rcases List.mem_cons.mp hm with q | hm
  · cases q
    exact lv_ldc2 hx hb hown (hT.use cl_9) hd kk
  rcases List.mem_cons.mp hm with q | hm
  · cases q
    exact lv_ldc2 hx hb hown (hT.use cl_11) hd kk
  cases hm
end LS
