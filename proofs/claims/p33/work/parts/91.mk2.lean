/-! THE MAKING: arrays and calls -/
theorem arrV_ext {cI : ClassId} {N : Nat} {f g : Nat → Value} (h : ∀ j, j < N → f j = g j) : arrV cI N f = arrV cI N g := by
  unfold arrV
  congr 1
  apply congrArg
  funext j
  exact h j.val j.isLt
def icT : List (Nat × Nat × Nat × Nat) := [(24, 121, 80, 0), (9, 9, 46, 0), (8, 48, 18, 0), (9, 21, 13, 0), (3, 17, 46, 0), (8, 36, 29, 1), (5, 11, 1, 1), (8, 47, 31, 1), (6, 11, 1, 1), (6, 20, 36, 1), (4, 17, 8, 1), (2, 11, 1, 1), (2, 20, 36, 1), (9, 36, 0, 1)]
set_option maxRecDepth 100000 in
theorem icT_ml : ∀ q ∈ icT, q ∈ mlT ∧ (mRow q.2.2.1).1.name = "<init>" ∧ (mRow q.2.2.1).2.2.2.2.2.2 = false ∧ (mRow q.2.2.1).2.2.2.2.2.1 = 1 ∧ q.2.2.1 < 123 ∧ (mRow q.2.2.1).2.2.2.1 = none := by decide +kernel
set_option maxRecDepth 100000 in
theorem bec_ml : (8, 41, 2, 0) ∈ mlT ∧ (mRow 2).2.2.2.2.2.2 = false ∧ (mRow 2).2.2.2.2.2.1 = 3 ∧ (mRow 2).2.2.2.2.1 = 1 ∧ (mRow 2).1.name ≠ "<init>" := by decide +kernel
/-- cells and slots that a constructor makes -/
def mcT (m : Nat) : Nat × Nat := match m with
  | 0 => (1, 80) | 8 => (3, 12) | 13 => (841, 3630) | 18 => (21, 95) | 29 => (1, 2) | 31 => (3, 12) | 36 => (1, 9) | 46 => (139, 596) | 80 => (1406, 6141) | _ => (0, 0)
def MetI (l : Launch) (D : va_G) (cA : Nat → ClassId) (A : Nat → Prop) (N0 f b : Nat) (as : List MV) (n : Nat) (σ σ' : List CE) : Prop :=
  Met l (mRow b).1 [Cond.code (mRow b).1 (mRow b).2.1 (mRow b).2.2.1 (mRow b).2.2.2.1] ({ frames := f, cells := (mcT b).1, slots := (mcT b).2, locals := 38 * f } : Room) (va_Pc (as.map (trv (adK N0))) (RepI D cA N0 n σ)) (va_Qv (fun _ : Unit => True) (fun _ t => RepI D cA N0 (n + (mcT b).1) σ' t) A) (mcT b).1 (mcT b).2 A
section MK2
variable {p : Program} {l : Launch} {e : Env} {R : Room} {s : State} {m : MethodId} {args : Array Value} {below : List Frame} {meth : Method} {c : Code} {cells slots : Nat} {QM : State → Prop}
variable {D : va_G} {cA : Nat → ClassId} {A : Nat → Prop} {cc : ByteArray} {o nL N0 n : Nat} {ini : Bool} {rest : List Value} {pc : Nat} {lsA : Array Slot} {H : Heap} {locs : List Loc} {σ : List CE}
theorem i_newa (F : FrI p s m args meth c D cA A cc o nL N0 ini) {a : Nat} {x : Int32} (ha : a < 3) (hx0 : 0 ≤ x.toInt) (hx1 : x.toInt ≤ 10000) (hH : HpK D cA N0 n σ H) (hS : va_S A s.heap H locs) (hc1 : cells + 1 ≤ R.cells) (hc2 : slots + x.toNatClampNeg ≤ R.slots) (hd : decode cc pc = .ok (.newarray (atOf a), 2))
    (kk : ∀ H1 : Heap, HpK D cA N0 (n + 1) (.inr (a, x.toNatClampNeg, .inl []) :: σ) H1 → va_S A s.heap H1 locs → W p l e R s m args below meth c H1 locs (cells + 1) (slots + x.toNatClampNeg) QM (F0 m (pc + 2) lsA (.ref (N0 + n) :: rest))) : W p l e R s m args below meth c H locs cells slots QM (F0 m pc lsA (.int x :: rest)) := by
  obtain ⟨hx, hb, hml, hown, hlk, hT, hK, hAk, hA, hin⟩ := id F
  have hxn : ¬ x < 0 := by
    rw [Int32.lt_iff_toInt_lt, Int32.toInt_zero]
    omega
  have hxc : x.toNatClampNeg ≤ 10000 := by
    have : x.toNatClampNeg = x.toInt.toNat := rfl
    omega
  have go : ∀ (ty : ArrayType) (t : FieldType), newarray.typeOf ty = t → (tysA cA)[a]? = some (cA a, t) → defaultValue t = .int 0 → componentBytes t ≤ 4 → (Cond.arrayClass t).before args s = true → decode cc pc = .ok (.newarray ty, 2) → (∀ cc : ClassId, va_RA s cc t ↔ s.vm.findClass ("[" ++ t.toString) = some cc) → W p l e R s m args below meth c H locs cells slots QM (F0 m pc lsA (.int x :: rest)) := by
    intro ty t ht h1 h2 h3 h4 h5 h6
    subst ht
    refine va_newaK hx hb h4 rfl h5 rfl hxn rfl (Nat.le_trans (Nat.mul_le_mul hxc h3) (by decide)) hc1 hc2 hH.2.1 fun H1 cB e1 z1 o1 hAr hNm => ?_
    have hcA : cB = cA a := Option.some.inj (hNm.symm.trans ((h6 _).mp (hK.2 a _ h1).2))
    subst hcA
    refine kk H1 (HpK_new hH ?_ z1 o1) (hS.grow (by rw [hH.2.1, z1]; omega) (fun q hq => o1 q (by rw [hH.2.1] at hq; exact hq)))
    show H1[N0 + n]? = some (arrV (cA a) x.toNatClampNeg (fun j => .int (lkI [] j)))
    rw [e1, h2]
    rfl
  match a, ha, hd with
  | 0, _, hd => exact go .int .int rfl rfl rfl (by decide) hAk.1.1 hd (fun _ => Iff.rfl)
  | 1, _, hd => exact go .boolean .boolean rfl rfl rfl (by decide) hAk.1.2.1 hd (fun _ => Iff.rfl)
  | 2, _, hd => exact go .byte .byte rfl rfl rfl (by decide) hAk.1.2.2 hd (fun _ => Iff.rfl)
theorem i_newq (F : FrI p s m args meth c D cA A cc o nL N0 ini) {a b : Nat} {x : Int32} (hcl : (o, a, b) ∈ clT) (ht : tyA b < 8) (hx0 : 0 ≤ x.toInt) (hx1 : x.toInt ≤ 10000) (hH : HpK D cA N0 n σ H) (hS : va_S A s.heap H locs) (hc1 : cells + 1 ≤ R.cells) (hc2 : slots + x.toNatClampNeg ≤ R.slots) (hd : decode cc pc = .ok (.anewarray a, 3))
    (kk : ∀ H1 : Heap, HpK D cA N0 (n + 1) (.inr (tyA b, x.toNatClampNeg, .inr []) :: σ) H1 → va_S A s.heap H1 locs → W p l e R s m args below meth c H1 locs (cells + 1) (slots + x.toNatClampNeg) QM (F0 m (pc + 3) lsA (.ref (N0 + n) :: rest))) : W p l e R s m args below meth c H locs cells slots QM (F0 m pc lsA (.int x :: rest)) := by
  obtain ⟨hx, hb, hml, hown, hlk, hT, hK, hAk, hA, hin⟩ := id F
  have hcl2 := clT_ok _ hcl
  obtain ⟨t1, t2, t3⟩ := tyA_ok (cA := cA) ht
  have hxn : ¬ x < 0 := by
    rw [Int32.lt_iff_toInt_lt, Int32.toInt_zero]
    omega
  have hxc : x.toNatClampNeg ≤ 10000 := by
    have : x.toNatClampNeg = x.toInt.toNat := rfl
    omega
  refine W.anew (C := cnm b) hx hb hown (hT.use hcl2) (va_AO.use (t3 s hAk)) rfl hd rfl hxn (Nat.le_trans (Nat.mul_le_mul_right 4 hxc) (by decide)) hc1 hc2 fun cB kA comp f1 f2 f3 f4 => ?_
  have hcA : cB = cA (tyA b) := by
    obtain ⟨_, _, _, _, _, g⟩ := (hK.2 _ _ t1).2
    exact Option.some.inj (f1.symm.trans g)
  subst hcA
  rw [hH.2.1]
  generalize hH1 : H.push ({ cls := cA (tyA b), slots := Array.replicate x.toNatClampNeg .null, vm := .none } : Cell) = H1
  have z1 : H1.size = N0 + n + 1 := by rw [← hH1, Array.size_push, hH.2.1]
  have e1 : H1[N0 + n]? = some (arrV (cA (tyA b)) x.toNatClampNeg (fun _ => .null)) := by rw [← hH1, ← hH.2.1, Array.getElem?_push_size, ← arrV_new]
  have o1 : ∀ q : Nat, q < N0 + n → H1[q]? = H[q]? := fun q hq => by
    rw [← hH.2.1] at hq
    rw [← hH1, Array.getElem?_push, if_neg (Nat.ne_of_lt hq)]
  exact kk H1 (HpK_new hH e1 z1 o1) (hS.grow (by rw [hH.2.1, z1]; omega) (fun q hq => o1 q (by rw [hH.2.1] at hq; exact hq)))
theorem i_aald (F : FrI p s m args meth c D cA A cc o nL N0 ini) {b k len r : Nat} {wr : List (Nat × Nat)} {i : Int32} (ht : tyA b < 8) (hk : k < n) (he : getE σ (n - 1 - k) = some (.inr (tyA b, len, .inr wr))) (hi : inA i len) (hr : lkR wr i.toNatClampNeg = some r) (hH : HpK D cA N0 n σ H) (hd : decode cc pc = .ok (.aaload, 1))
    (kk : W p l e R s m args below meth c H locs cells slots QM (F0 m (pc + 1) lsA (.ref (N0 + r) :: rest))) : W p l e R s m args below meth c H locs cells slots QM (F0 m pc lsA (.int i :: .ref (N0 + k) :: rest)) := by
  obtain ⟨hx, hb, hml, hown, hlk, hT, hK, hAk, hA, hin⟩ := id F
  obtain ⟨t1, t2, t3⟩ := tyA_ok (cA := cA) ht
  refine va_aldq (D := D) (cl := vwCl) hx hb hK hH.2.2 (n - 1 - k) (tyA b) (cell_at hH hk he) t1 (vp_of_inA hi) hd ?_
  rw [hr]
  exact kk
theorem i_aast (F : FrI p s m args meth c D cA A cc o nL N0 ini) {b k len v : Nat} {wr : List (Nat × Nat)} {fs : List (Option MV)} {i : Int32} (ht : tyA b < 8) (hk : k < n) (he : getE σ (n - 1 - k) = some (.inr (tyA b, len, .inr wr))) (hi : inA i len) (hv : v < n) (hve : getE σ (n - 1 - v) = some (.inl (b, fs))) (hH : HpK D cA N0 n σ H) (hS : va_S A s.heap H locs) (hd : decode cc pc = .ok (.aastore, 1))
    (kk : ∀ (H1 : Heap) (locs1 : List Loc), HpK D cA N0 n (setE σ (n - 1 - k) (.inr (tyA b, len, .inr ((i.toNatClampNeg, v) :: wr)))) H1 → va_S A s.heap H1 locs1 → W p l e R s m args below meth c H1 locs1 cells slots QM (F0 m (pc + 1) lsA rest)) : W p l e R s m args below meth c H locs cells slots QM (F0 m pc lsA (.ref (N0 + v) :: .int i :: .ref (N0 + k) :: rest)) := by
  obtain ⟨hx, hb, hml, hown, hlk, hT, hK, hAk, hA, hin⟩ := id F
  obtain ⟨t1, t2, t3⟩ := tyA_ok (cA := cA) ht
  have h0 : ¬ i < 0 := fun q => vp_of_inA hi (Or.inl q)
  have hlt := inA_lt hi
  obtain ⟨r', hr', cellV, g1, g2, g3, -⟩ := hH.2.2 _ _ (cell_at hH hv hve)
  have hcls := (hK.1 b _ (cl_at t2)).2
  obtain ⟨kA, comp, k1, k2, k3, -⟩ := (hK.2 _ _ t1).2
  have hcomp : comp = D.1 b := Option.some.inj (k3.symm.trans hcls.1)
  subst hcomp
  obtain ⟨kC, hkC, -⟩ := hcls.2
  have ha : H[N0 + k]? = some (vp_cell (cA (tyA b)) (len, .inr (.inr (.inr (.inr (fun j => (lkR wr j).map (fun k => N0 + k))))))) := hH.2.2 _ _ (cell_at hH hk he)
  refine W.aast hx hb ha (fun q h => by cases h) (fun h => by cases h) k1 k2 rfl hkC ⟨h0, by show _ < (arrV _ _ _).slots.size; rw [arrV_size]; exact hlt⟩ g1 (fun q h => by rw [g3] at h; cases h) (by rw [g2]; exact hkC) (by rw [g2]; exact va_assign hcls) rfl rfl hd fun H1 e1 z1 oq => ?_
  refine kk H1 _ (HpK_set hH hk he ?_ z1 oq) (hS.put z1 oq (hA _ (Nat.le_add_right _ _)))
  show H1[N0 + k]? = some (arrV (cA (tyA b)) len (fun j => va_rf ((lkR ((i.toNatClampNeg, v) :: wr) j).map (fun k => N0 + k))))
  rw [e1, vp_cell_q, arrV_store]
  refine congrArg some (arrV_ext fun j _ => ?_)
  by_cases hj : j = i.toNatClampNeg
  · simp [updV, lkR, hj, va_rf]
  · simp [updV, lkR, hj]
theorem i_iast (F : FrI p s m args meth c D cA A cc o nL N0 ini) {k len : Nat} {wr : List (Nat × Int32)} {i x : Int32} (hk : k < n) (he : getE σ (n - 1 - k) = some (.inr (0, len, .inl wr))) (hi : inA i len) (hH : HpK D cA N0 n σ H) (hS : va_S A s.heap H locs) (hd : decode cc pc = .ok (.iastore, 1))
    (kk : ∀ (H1 : Heap) (locs1 : List Loc), HpK D cA N0 n (setE σ (n - 1 - k) (.inr (0, len, .inl ((i.toNatClampNeg, x) :: wr)))) H1 → va_S A s.heap H1 locs1 → W p l e R s m args below meth c H1 locs1 cells slots QM (F0 m (pc + 1) lsA rest)) : W p l e R s m args below meth c H locs cells slots QM (F0 m pc lsA (.int x :: .int i :: .ref (N0 + k) :: rest)) := by
  obtain ⟨hx, hb, hml, hown, hlk, hT, hK, hAk, hA, hin⟩ := id F
  have ha : H[N0 + k]? = some (vp_cell (cA 0) (len, .inl (lkI wr))) := hH.2.2 _ _ (cell_at hH hk he)
  refine W.iast hx hb ha ((hK.2 0 _ rfl).1 len (fun j => .int (lkI wr j))) (fun q => by cases q) (by show ¬ (i < 0 ∨ (arrV _ _ _).slots.size ≤ _); rw [arrV_size]; exact vp_of_inA hi) rfl rfl hd fun H1 e1 z1 oq => ?_
  refine kk H1 _ (HpK_set hH hk he ?_ z1 oq) (hS.put z1 oq (hA _ (Nat.le_add_right _ _)))
  show H1[N0 + k]? = some (arrV (cA 0) len (fun j => .int (lkI ((i.toNatClampNeg, x) :: wr) j)))
  rw [e1, vp_cell_i, arrV_store]
  refine congrArg some (arrV_ext fun j _ => ?_)
  by_cases hj : j = i.toNatClampNeg
  · simp [updV, lkI, hj]
  · simp [updV, lkI, hj]
theorem hws_of (hT : Tk s) {w : Cond} (w1 : inT w) : ∀ v ∈ [w], ∀ (a' : Array Value) (U : State), s.WarmedH U.vm → v.before a' U = true := by
  intro v hv a' U hW
  rw [List.mem_singleton.mp hv]
  exact (Tk.warm hW hT).use w1
theorem i_init (F : FrI p s m args meth c D cA A cc o nL N0 ini) {a b d f k : Nat} {st : List MV} {σ' : List CE} (hic : (o, a, b, d) ∈ icT) (hd2 : d = 0 ∨ d = 1)
    (hM : MetI l D cA A N0 f b [.inr (0, k)] n σ σ') (hf1 : f + 1 ≤ R.frames) (hf2 : 38 * f + 38 ≤ R.locals) (hcs : cells + (mcT b).1 ≤ R.cells ∧ slots + (mcT b).2 ≤ R.slots) (hlen : st.length ≤ 8)
    (hH : HpK D cA N0 n σ H) (hS : va_S A s.heap H locs) (hsz : lsA.size = nL) (hd : decode cc pc = .ok (.invokespecial a, 3))
    (kk : ∀ (H1 : Heap) (locs1 : List Loc), HpK D cA N0 (n + (mcT b).1) σ' H1 → va_S A s.heap H1 locs1 → W p l e R s m args below meth c H1 locs1 (cells + (mcT b).1) (slots + (mcT b).2) QM (F0 m (pc + 3) lsA (st.map (trv (adK N0))))) : W p l e R s m args below meth c H locs cells slots QM (F0 m pc lsA (.ref (N0 + k) :: st.map (trv (adK N0)))) := by
  obtain ⟨hx, hb, hmlc, hown, hlk, hT, hK, hAk, hA, hin⟩ := id F
  obtain ⟨hml, hnm, hstc, hna, hb123, hrn⟩ := icT_ml _ hic
  simp only at hnm hstc hna hb123 hrn
  obtain ⟨⟨w1, w2, w3⟩, ⟨h1, h2, h3, h4, h5, h6⟩, h7⟩ := mlT_ok _ hml
  simp only at w1 w2 w3 h1 h2 h3 h4 h5 h6 h7
  rw [hstc] at w3 h2
  rw [if_neg (by decide)] at w3 h2
  rw [hna] at h2
  rw [hrn] at w1
  unfold MetI at hM
  rw [hrn] at hM
  have hrm : 2 * (F0 m pc lsA (.ref (N0 + k) :: st.map (trv (adK N0)))).monitorRoom + ((st.map (trv (adK N0))).map fun v => v.category).sum ≤ 8 := lv_room (by rw [cat_sum]; exact hlen)
  have hloc : 8 + ((mRow b).2.2.1 + 11) + 38 * f ≤ R.locals := by omega
  have hsg : ∀ sig, parseMethodDescriptor (mRow b).1.desc = some sig → 0 = sig.parameters.length := fun sig hsig => by
    rw [hsig] at h2
    exact (Option.some.inj h2).symm
  have go : va_Run p l e R s m args below meth c H locs cells slots (mcT b).1 (mcT b).2 (F0 m pc lsA (.ref (N0 + k) :: st.map (trv (adK N0)))) (st.map (trv (adK N0))) (va_Qv (fun _ : Unit => True) (fun _ t => RepI D cA N0 (n + (mcT b).1) σ' t) A (Value.ref (N0 + k) :: []).toArray) A := by
    rcases hd2 with rfl | rfl
    · rw [if_pos rfl] at h7
      exact va_runI (own := cnm o) (As := []) (rest := st.map (trv (adK N0))) (index := a) (Ts := []) (b := N0 + k) (n := 0) ⟨hx, hb, hmlc, hown, fun w hw => by cases hw⟩ hM
        ⟨⟨rfl, rfl, hf1, hloc, hws_of hT w1, List.mem_cons_self, hT.use w1, hT.use w2, h1, hsg, hT.use h7⟩, hnm, hT.use w3.1⟩
        ⟨pcI_blind _, fun U hU hW => ⟨rfl, RepI.at F hH U hU hW⟩⟩ rfl rfl hsz rfl hrm hd hcs
    · rw [if_neg (by decide)] at h7
      exact va_runIN (own := cnm o) (host := RX9) (As := []) (rest := st.map (trv (adK N0))) (index := a) (Ts := []) (b := N0 + k) (n := 0) ⟨hx, hb, hmlc, hown, fun w hw => by cases hw⟩ hM
        ⟨⟨⟨rfl, rfl, hf1, hloc, hws_of hT w1, List.mem_cons_self⟩, hT.use w1, hT.use w2, h1, hsg, hT.use h7⟩, hnm, hT.use w3.1⟩
        ⟨pcI_blind _, fun U hU hW => ⟨rfl, RepI.at F hH U hU hW⟩⟩ rfl rfl hsz rfl hrm hd hcs
  exact va_callv go hS (fun _ _ h => h) (fun _ h => h) fun u t H1 locs1 ht hvm hp hB hz hk hS1 => kk H1 locs1 (by rw [← ht]; exact hB.1) hS1
theorem i_become (F : FrI p s m args meth c D cA A cc o nL N0 ini) {f k : Nat} {fs : List (Option MV)} {x y : Int32} {st : List MV} {σ' : List CE} (ho : o = 8) (hk : k < n) (he : getE σ (n - 1 - k) = some (.inl (1, fs)))
    (hM : MetI l D cA A N0 f 2 [.inr (0, k), .inl x, .inl y] n σ σ') (hf1 : f + 1 ≤ R.frames) (hf2 : 38 * f + 38 ≤ R.locals) (hcs : cells ≤ R.cells ∧ slots ≤ R.slots) (hlen : st.length ≤ 8)
    (hH : HpK D cA N0 n σ H) (hS : va_S A s.heap H locs) (hsz : lsA.size = nL) (hd : decode cc pc = .ok (.invokevirtual 41, 3))
    (kk : ∀ (H1 : Heap) (locs1 : List Loc), HpK D cA N0 n σ' H1 → va_S A s.heap H1 locs1 → W p l e R s m args below meth c H1 locs1 cells slots QM (F0 m (pc + 3) lsA (st.map (trv (adK N0))))) : W p l e R s m args below meth c H locs cells slots QM (F0 m pc lsA (.int y :: .int x :: .ref (N0 + k) :: st.map (trv (adK N0)))) := by
  obtain ⟨hx, hb, hmlc, hown, hlk, hT, hK, hAk, hA, hin⟩ := id F
  subst ho
  obtain ⟨hml, hstc, hna, hcls, hnm⟩ := bec_ml
  obtain ⟨⟨w1, w2, w3⟩, ⟨h1, h2, h3, h4, h5, h6⟩, h7⟩ := mlT_ok _ hml
  simp only at w1 w2 w3 h1 h2 h3 h4 h5 h6 h7
  rw [hstc] at w3 h2
  rw [if_neg (by decide)] at w3 h2
  rw [if_pos trivial] at h7
  rw [hna] at h2
  have hrm : 2 * (F0 m pc lsA (.int y :: .int x :: .ref (N0 + k) :: st.map (trv (adK N0)))).monitorRoom + ((st.map (trv (adK N0))).map fun v => v.category).sum ≤ 8 := lv_room (by rw [cat_sum]; exact hlen)
  have hloc : 8 + ((mRow 2).2.2.1 + 11) + 38 * f ≤ R.locals := by omega
  have hsg : ∀ sig, parseMethodDescriptor (mRow 2).1.desc = some sig → 2 = sig.parameters.length := fun sig hsig => by
    rw [hsig] at h2
    exact (Option.some.inj h2).symm
  have hrc := va_recv hK hH.2.2 (cl_at (by decide : 1 < 10)) (cell_at hH hk he)
  have h4' : (cnm 1, tOf 1, nfK 1).1 = (mRow 2).1.cls := by rw [← h4, hcls]
  rw [h4'] at hrc
  have hsel : inT (.selects (mRow 2).1.cls (mRow 2).1 (mRow 2).1) := by
    rcases w3.2 with q | q
    · exact absurd q hnm
    · exact q
  have go : va_Run p l e R s m args below meth c H locs cells slots 0 0 (F0 m pc lsA (.int y :: .int x :: .ref (N0 + k) :: st.map (trv (adK N0)))) (st.map (trv (adK N0))) (va_Qv (fun _ : Unit => True) (fun _ t => RepI D cA N0 (n + 0) σ' t) A (Value.ref (N0 + k) :: [.int x, .int y]).toArray) A :=
    va_runV (C := (mRow 2).1.cls) (own := cnm 8) (As := [.int x, .int y]) (rest := st.map (trv (adK N0))) (index := 41) (Ts := []) (b := N0 + k) (n := 2) ⟨hx, hb, hmlc, hown, fun w hw => by cases hw⟩ hM
      ⟨⟨rfl, rfl, hf1, hloc, hws_of hT w1, List.mem_cons_self, hT.use w1, hT.use w2, h1, hsg, hT.use h7⟩, hT.use w3.1, hT.use hsel⟩
      ⟨pcI_blind _, hrc, fun U hU hW => ⟨rfl, RepI.at F hH U hU hW⟩⟩ rfl rfl hsz rfl hrm hd hcs
  exact va_callv go hS (fun _ _ h => h) (fun _ h => h) fun u t H1 locs1 ht hvm hp hB hz hk hS1 => kk H1 locs1 (by rw [← ht]; exact hB.1) hS1
end MK2
