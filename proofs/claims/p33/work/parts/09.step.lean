/-! one step of the small machine is the machine's -/
theorem okV_cons {v : MV} {st : List MV} (h1 : okV v) (h2 : ∀ w ∈ st, okV w) : ∀ w ∈ v :: st, okV w := fun w hw => by
  rcases List.mem_cons.mp hw with rfl | h
  · exact h1
  · exact h2 w h
theorem okV_head {v : MV} {st : List MV} (h : ∀ w ∈ v :: st, okV w) : okV v := h v List.mem_cons_self
theorem okV_tail {v : MV} {st : List MV} (h : ∀ w ∈ v :: st, okV w) : ∀ w ∈ st, okV w := fun w hw => h w (List.mem_cons_of_mem _ hw)
theorem okR_obj {q i : Nat} (h : okR (q, i)) (hq : q < 24) : i < cntK q := by
  rcases h with h | h
  · exact h
  · cases h; omega
theorem boolW_t {b : Bool} {q : Prop} (h : boolW b q) : b = true ∧ q := by
  cases b with
  | true => exact ⟨rfl, h⟩
  | false => exact h.elim
theorem cat_sum (ad : Nat × Nat → Nat) (st : List MV) : ((st.map (trv ad)).map fun v => v.category).sum = st.length := by
  induction st with
  | nil => rfl
  | cons v st ih => simp only [List.map_cons, List.sum_cons, List.length_cons, trv_cat, ih]; omega
theorem cmpTF {b : Nat} {x y : Int32} (h : ¬ cmpT b x y) : cmpF b x y := by
  unfold cmpT at h
  unfold cmpF
  split at h <;> first | exact h | exact Classical.not_not.mp h | omega
theorem int_tgt {pc a : Nat} : (pc : Int) + ((a : Int) - (pc : Int)) = (a : Int) := by omega
section SC
variable {p : Program} {l : Launch} {e : Env} {R : Room} {s : State} {m : MethodId} {args : Array Value} {below : List Frame} {meth : Method} {c : Code} {cells slots : Nat} {QM : State → Prop}
variable {D : va_G} {cA : Nat → ClassId} {ad : Nat × Nat → Nat} {A : Nat → Prop} {L : Nat} {xs : Nat → Int32} {cc : ByteArray} {o nL : Nat} {pc : Nat} {lsA : Array Slot} {H : Heap} {locs : List Loc} {z : St}
theorem RepU.blind {U : State} {g : JFrame} {mk : MethodId} {a : Array Value} (h : RepU D cA ad L xs z U) : RepU D cA ad L xs z (U.calling g mk a) :=
  ⟨h.1, va_K.moved (u := U) (U := U.calling g mk a) (Vm.Alike.refl U.vm) h.2.1, Tk.same (s := U) (U := U.calling g mk a) rfl h.2.2.1, va_X.moved (u := U) (U := U.calling g mk a) (Vm.Alike.refl U.vm) h.2.2.2⟩
theorem pc_blind (as : List Value) : FrameBlind (va_Pc as (RepU D cA ad L xs z)) := fun a U g mk q => ⟨q.1, q.2.blind⟩
theorem rep_at (F : FrOk p s m args meth c D cA ad A L xs cc o nL) (hH : Hp D cA ad z H) (hS : va_S A s.heap H locs) : ∀ U : State, U.heap = H → s.WarmedH U.vm → RepU D cA ad L xs z U := by
  obtain ⟨hx, hb, hml, hown, hlk, hT, hK, hA, hX, hbl, hbA⟩ := F
  intro U hU hW
  exact ⟨by rw [hU]; exact hH, va_K.moved hW.alike hK, Tk.warm hW hT, (va_X.moved hW.alike hX).kept (by rw [hU]; exact hS.2.1 _ hbl hbA)⟩
theorem sm_call {Q' : Option MV → St → Prop} {a : Array Value} {rest st0 : List Value} (hr : va_Run p l e R s m args below meth c H locs cells slots 0 0 (F0 m pc lsA st0) rest (QcM D cA ad A L xs Q' a) A) (hS : va_S A s.heap H locs)
    (kk : ∀ (r : Option Int32) (z' : St) (H1 : Heap) (locs1 : List Loc), Q' (r.map Sum.inl) z' → Hp D cA ad z' H1 → va_S A s.heap H1 locs1 → W p l e R s m args below meth c H1 locs1 cells slots QM (F0 m (pc + 3) lsA ((r.map Value.int).toList ++ rest))) : W p l e R s m args below meth c H locs cells slots QM (F0 m pc lsA st0) := by
  intro T hT X
  obtain ⟨v, st₀, t, T', L', h0, X', hL, e1, e2, ⟨⟨r, z', hv, hq, hrep⟩, hz, hk⟩, st⟩ := hr T hT X
  cases hv
  rw [h0] at hz hk
  obtain ⟨t2, a1, b1⟩ := kk r z' T'.heap (locs ++ L') hq (by rw [e1]; exact hrep.1) ⟨Nat.le_trans hS.1 (by rw [e1]; exact hz), fun q h1 h2 => by rw [e1, hk q (Nat.lt_of_lt_of_le h1 hS.1) h2]; exact hS.2.1 q h1 h2, fun q hq => by
    rcases List.mem_append.mp hq with h | h
    · exact hS.2.2 q h
    · exact hL q h⟩ T' rfl X'
  exact ⟨t2, st t2 a1, b1⟩
/-- a callee's contract -/
def MetC (l : Launch) (D : va_G) (cA : Nat → ClassId) (ad : Nat × Nat → Nat) (A : Nat → Prop) (L : Nat) (xs : Nat → Int32) (f b : Nat) (as : List MV) (z : St) (Q : Option MV → St → Prop) : Prop :=
  Met l (mRow b).1 [Cond.code (mRow b).1 (mRow b).2.1 (mRow b).2.2.1 (mRow b).2.2.2.1] (rmF f) (va_Pc (as.map (trv ad)) (RepU D cA ad L xs z)) (QcM D cA ad A L xs Q) 0 0 A
theorem s_call (F : FrOk p s m args meth c D cA ad A L xs cc o nL) {a b d f : Nat} {as st : List MV} {Q' : Option MV → St → Prop} (hml : (o, a, b, (if d = 2 then 1 else 0)) ∈ mlT) (hni : b ∉ initL) (hst : (mRow b).2.2.2.2.2.2 = decide (¬ d = 0)) (hn : as.length = (mRow b).2.2.2.2.2.1)
    (hrecv : d = 0 → ∃ i as', as = .inr ((mRow b).2.2.2.2.1, i) :: as' ∧ (mRow b).2.2.2.2.1 < 10 ∧ i < cntK (mRow b).2.2.2.2.1)
    (hM : MetC l D cA ad A L xs f b as z Q') (hf1 : f + 1 ≤ R.frames) (hf2 : 38 * f + 38 ≤ R.locals) (hcs : cells ≤ R.cells ∧ slots ≤ R.slots) (hlen : st.length ≤ 8)
    (hH : Hp D cA ad z H) (hS : va_S A s.heap H locs) (hsz : lsA.size = nL) (hd : decode cc pc = .ok (if d = 0 then Instr.invokevirtual a else Instr.invokestatic a, 3))
    (kk : ∀ (r : Option Int32) (z' : St) (H1 : Heap) (locs1 : List Loc), Q' (r.map Sum.inl) z' → Hp D cA ad z' H1 → va_S A s.heap H1 locs1 → W p l e R s m args below meth c H1 locs1 cells slots QM (F0 m (pc + 3) lsA ((r.map Value.int).toList ++ st.map (trv ad)))) : W p l e R s m args below meth c H locs cells slots QM (F0 m pc lsA ((as.reverse ++ st).map (trv ad))) := by
  obtain ⟨hx, hb, hmlc, hown, hlk, hT, hK, hA, hX⟩ := id F
  obtain ⟨⟨w1, w2, w3⟩, ⟨h1, h2, h3, h4, h5, h6⟩, h7⟩ := mlT_ok _ hml
  simp only at w1 w2 w3 h1 h2 h3 h4 h5 h6 h7
  have hrm : 2 * (F0 m pc lsA ((as.reverse ++ st).map (trv ad))).monitorRoom + ((st.map (trv ad)).map fun v => v.category).sum ≤ 8 := lv_room (by rw [cat_sum]; exact hlen)
  have hloc : 8 + ((mRow b).2.2.1 + 11) + (rmF f).locals ≤ R.locals := by show 8 + ((mRow b).2.2.1 + 11) + 38 * f ≤ _; omega
  have hws : ∀ w ∈ [Cond.code (mRow b).1 (mRow b).2.1 (mRow b).2.2.1 (mRow b).2.2.2.1], ∀ (a' : Array Value) (U : State), s.WarmedH U.vm → w.before a' U = true := by
    intro w hw a' U hW
    rw [List.mem_singleton.mp hw]
    exact (Tk.warm hW hT).use w1
  by_cases hd0 : d = 0
  · subst hd0
    obtain ⟨i, as', rfl, hc11, hi⟩ := hrecv rfl
    have hstF : (mRow b).2.2.2.2.2.2 = false := hst
    rw [hstF] at w3 h2
    rw [if_neg (by decide)] at w3 h2
    rw [if_pos (by decide)] at h7
    obtain ⟨k, hk⟩ := smW_get (cA := cA) (ad := ad) z (r := ((mRow b).2.2.2.2.1, i)) hi
    rw [cell_obj hc11] at hk
    have hrc := va_recv hK hH.1 (cl_at hc11) hk
    rw [h4] at hrc
    have hsel : inT (.selects (mRow b).1.cls (mRow b).1 (mRow b).1) := by
      rcases w3.2 with q | q
      · exact absurd q (initL_ok _ (mlT_lt _ hml) hni)
      · exact q
    refine sm_call (va_runV (C := (mRow b).1.cls) (own := cnm o) (As := as'.map (trv ad)) (rest := st.map (trv ad)) (index := a) (Ts := []) (b := ad ((mRow b).2.2.2.2.1, i)) (n := as'.length) ⟨hx, hb, hmlc, hown, fun w hw => by cases hw⟩ hM
      ⟨⟨rfl, rfl, hf1, hloc, hws, List.mem_cons_self, hT.use w1, hT.use w2, h1, fun sig hsig => ?_, hT.use h7⟩, hT.use w3.1, hT.use hsel⟩
      ⟨pc_blind _, hrc, fun U hU hW => ⟨rfl, rep_at F hH hS U hU hW⟩⟩ rfl (by simp) hsz ?_ hrm hd ⟨hcs.1, hcs.2⟩) hS kk
    · rw [hsig] at h2
      have h9 := Option.some.inj h2
      rw [List.length_cons] at hn
      rw [← hn] at h9
      exact h9.symm
    · simp [trv]
  · have hstT : (mRow b).2.2.2.2.2.2 = true := by rw [hst]; exact decide_eq_true hd0
    rw [hstT] at w3 h2
    rw [if_pos rfl] at w3 h2
    have hsg : ∀ sig, parseMethodDescriptor (mRow b).1.desc = some sig → as.length = sig.parameters.length := fun sig hsig => by
      rw [hsig] at h2
      have h9 := Option.some.inj h2
      rw [Nat.sub_zero] at h9
      rw [hn, ← h9]
    rw [if_neg hd0] at hd
    by_cases hd2 : d = 2
    · rw [if_pos hd2, if_neg (by decide)] at h7
      refine sm_call (va_runSN (own := cnm o) (host := RX9) (As := as.map (trv ad)) (rest := st.map (trv ad)) (index := a) (Ts := []) (n := as.length) ⟨hx, hb, hmlc, hown, fun w hw => by cases hw⟩ hM
        ⟨⟨⟨rfl, rfl, hf1, hloc, hws, List.mem_cons_self⟩, hT.use w1, hT.use w2, h1, hsg, hT.use h7⟩, hT.use w3, trivial⟩
        ⟨pc_blind _, fun U hU hW => ⟨rfl, rep_at F hH hS U hU hW⟩⟩ rfl (by simp) hsz (by simp) hrm hd ⟨hcs.1, hcs.2⟩) hS kk
    · rw [if_neg hd2, if_pos rfl] at h7
      refine sm_call (va_runS (own := cnm o) (As := as.map (trv ad)) (rest := st.map (trv ad)) (index := a) (Ts := []) (n := as.length) ⟨hx, hb, hmlc, hown, fun w hw => by cases hw⟩ hM
        ⟨⟨rfl, rfl, hf1, hloc, hws, List.mem_cons_self, hT.use w1, hT.use w2, h1, hsg, hT.use h7⟩, hT.use w3⟩
        ⟨pc_blind _, fun U hU hW => ⟨rfl, rep_at F hH hS U hU hW⟩⟩ rfl (by simp) hsz (by simp) hrm hd ⟨hcs.1, hcs.2⟩) hS kk
end SC
