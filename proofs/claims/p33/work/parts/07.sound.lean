/-! THE SMALL MACHINE IS SOUND: what its stretches reach, the machine reaches -/
/-- the classes by their numbers -/
theorem cl_at {o : Nat} (h : o < 10) : vwCl[o]? = some (cnm o, tOf o, nfK o) := by
  match o, h with
  | 0, _ => rfl | 1, _ => rfl | 2, _ => rfl | 3, _ => rfl | 4, _ => rfl | 5, _ => rfl | 6, _ => rfl | 7, _ => rfl | 8, _ => rfl | 9, _ => rfl
  | n + 10, h => exact absurd h (by omega)
theorem wx_at {o : Nat} (h : o < 10) : ∀ w ∈ u_ws (cnm o) (tOf o) (nfK o), inT w := by
  match o, h with
  | 0, _ => exact wx_0 | 1, _ => exact wx_1 | 2, _ => exact wx_2 | 3, _ => exact wx_3 | 4, _ => exact wx_4 | 5, _ => exact wx_5 | 6, _ => exact wx_6 | 7, _ => exact wx_7 | 8, _ => exact wx_8 | 9, _ => exact wx_9
  | n + 10, h => exact absurd h (by omega)
def ty0K (o : Nat) : Nat → FieldType := match o with
  | 0 => tyX0 | 1 => tyX1 | 2 => tyX2 | 3 => tyX3 | 4 => tyX4 | 5 => tyX5 | 6 => tyX6 | 7 => tyX7 | 8 => tyX8 | _ => tyX9
theorem ty_at {o : Nat} (h : o < 10) : ∀ k, k < nfK o → parseFieldDescriptor (tOf o k).2.2.1 = some (ty0K o k) := by
  match o, h with
  | 0, _ => exact tyX0_ok | 1, _ => exact tyX1_ok | 2, _ => exact tyX2_ok | 3, _ => exact tyX3_ok | 4, _ => exact tyX4_ok | 5, _ => exact tyX5_ok | 6, _ => exact tyX6_ok | 7, _ => exact tyX7_ok | 8, _ => exact tyX8_ok | 9, _ => exact tyX9_ok
  | n + 10, h => exact absurd h (by omega)
theorem nm_at {o : Nat} (h : o < 10) : ∀ a, a < nfK o → ∀ b, b < nfK o → a ≠ b → (tOf o a).2.1 ≠ (tOf o b).2.1 := by
  match o, h with
  | 0, _ => exact nmX0 | 1, _ => exact nmX1 | 2, _ => exact nmX2 | 3, _ => exact nmX3 | 4, _ => exact nmX4 | 5, _ => exact nmX5 | 6, _ => exact nmX6 | 7, _ => exact nmX7 | 8, _ => exact nmX8 | 9, _ => exact nmX9
  | n + 10, h => exact absurd h (by omega)
theorem tn_at : ∀ o, o < 10 → ∀ k, k < nfK o → (tOf o k).1 = cnm o := by decide +kernel
/-- what is put: fields that are no links are int or boolean, and not final -/
theorem ft_at : ∀ o, o < 10 → ∀ k, k < nfK o → lk o k 0 = none → (tOf o k).2.2.2 = false ∧ (ty0K o k = .int ∨ (ty0K o k = .boolean ∧ o = 2 ∧ k = 5)) := by decide +kernel
theorem ft_int : ∀ o, o < 10 → ∀ k, k < nfK o → lk o k 0 = none → ¬ (o = 2 ∧ k = 5) → ty0K o k = .int := by decide +kernel
theorem flT_lt : ∀ q ∈ flT, q.2.2.1 < 10 ∧ q.2.2.2 < nfK q.2.2.1 := by decide +kernel
theorem lk_none {c k i : Nat} (h : lk c k i = none) : ∀ j, lk c k j = none := by
  intro j
  unfold lk at h ⊢
  split at h <;> first
    | rfl
    | (cases h; done)
    | (split at h <;> first | rfl | (cases h; done))
section SS
variable {p : Program} {l : Launch} {e : Env} {R : Room} {s : State} {m : MethodId} {args : Array Value} {below : List Frame} {meth : Method} {c : Code} {cells slots : Nat} {QM : State → Prop}
variable {D : va_G} {cA : Nat → ClassId} {ad : Nat × Nat → Nat} {A : Nat → Prop} {L : Nat} {xs : Nat → Int32} {cc : ByteArray} {o nL : Nat} {rest : List Value} {pc : Nat} {lsA : Array Slot} {H : Heap} {locs : List Loc} {z : St}
/-- what stands fast within a frame -/
def FrOk (p : Program) (s : State) (m : MethodId) (args : Array Value) (meth : Method) (c : Code) (D : va_G) (cA : Nat → ClassId) (ad : Nat × Nat → Nat) (A : Nat → Prop) (L : Nat) (xs : Nat → Int32) (cc : ByteArray) (o nL : Nat) : Prop :=
  p.tables.exec = Jvm.exec ∧ c.code = cc ∧ c.maxLocals = nL ∧ s.vm.findClass (cnm o) = some m.cls ∧ meth.locks = false ∧ Tk s ∧ va_K D vwCl (tysA cA) s ∧ adOk ad A ∧ va_X (ad (24, 0)) L xs s s.heap ∧ ad (24, 0) < s.heap.size ∧ ¬ A (ad (24, 0))
theorem FrOk.ts (F : FrOk p s m args meth c D cA ad A L xs cc o nL) {w : Cond} (h : inT w) : w.before args s = true := F.2.2.2.2.2.1.use h
/-- the machine, from this place, these locals, this stack and this store on, comes to QM -/
def XwP (p : Program) (l : Launch) (e : Env) (R : Room) (s : State) (m : MethodId) (args : Array Value) (below : List Frame) (meth : Method) (c : Code) (cells slots : Nat) (QM : State → Prop) (D : va_G) (cA : Nat → ClassId) (ad : Nat × Nat → Nat) (A : Nat → Prop) (nL : Nat) (pc : Nat) (ls st : List MV) (z : St) : Prop :=
  (∀ v ∈ ls, okV v) → (∀ v ∈ st, okV v) → ∀ (H : Heap) (locs : List Loc) (lsA : Array Slot), Hp D cA ad z H → va_S A s.heap H locs → locOk ad nL lsA ls → W p l e R s m args below meth c H locs cells slots QM (F0 m pc lsA (st.map (trv ad)))
theorem s_get (F : FrOk p s m args meth c D cA ad A L xs cc o nL) {a b d i : Nat} (hfl : (o, a, b, d) ∈ flT) (hi : i < cntK b) (hH : Hp D cA ad z H) (hd : decode cc pc = .ok (.getfield a, 3))
    (kk : W p l e R s m args below meth c H locs cells slots QM (F0 m (pc + 3) lsA (trv ad (fv z b i d) :: rest))) : W p l e R s m args below meth c H locs cells slots QM (F0 m pc lsA (.ref (ad (b, i)) :: rest)) := by
  obtain ⟨hx, hb, hml, hown, hlk, hT, hK, hA, hX⟩ := id F
  have h1 := flT_ok _ hfl
  obtain ⟨h2, h3⟩ := flT_lt _ hfl
  simp only at h2 h3
  obtain ⟨k, hk⟩ := smW_get (cA := cA) (ad := ad) z (r := (b, i)) hi
  rw [cell_obj h2] at hk
  refine va_get (D := D) (cl := vwCl) (ci := b) (C := cnm b) (T := tOf b) (N := nfK b) (ref := cnm b) (Ts := u_ws (cnm b) (tOf b) (nfK b)) hx hb (fun w hw => F.ts (wx_at h2 w hw)) (fun w hw => hw) hown hK hH.1 k hk (cl_at h2) d h3 (F.ts h1) (fun x hx => by rw [← tn_at b h2 d h3]; exact hx) (v := trv ad (fv z b i d)) ?_ hd kk
  rw [List.getElem?_map, List.getElem?_range h3]
  rfl
theorem cell_putV {c i k : Nat} (hc : c < 10) (hk : k < nfK c) (hl : lk c k i = none) (z : St) (x : Int32) : cellD cA ad (putV z c i k x) (c, i) = .inr (c, ((List.range (nfK c)).map (fun k => trv ad (fv z c i k))).set k (.int x)) := by
  rw [cell_obj hc]
  congr 2
  apply List.ext_getElem?
  intro j
  by_cases hj : j = k
  · subst hj
    rw [List.getElem?_set_self (by simpa using hk), List.getElem?_map, List.getElem?_range hk]
    simp [fv, hl, putV, trv]
  · rw [List.getElem?_set_ne (Ne.symm hj), List.getElem?_map, List.getElem?_map]
    cases hr : (List.range (nfK c))[j]? with
    | none => rfl
    | some j' =>
      have : j' = j := by
        have hlt : j < nfK c := by simpa using (List.getElem?_eq_some_iff.mp hr).1
        rw [List.getElem?_range hlt] at hr
        exact (Option.some.inj hr).symm
      subst this
      simp only [Option.map_some, fv, putV]
      cases lk c j' i with
      | some r => rfl
      | none => simp [hj]
theorem fv_put {c i k c' i' k' : Nat} {z : St} {x : Int32} (h : (c', i') ≠ (c, i)) : fv (putV z c i k x) c' i' k' = fv z c' i' k' := by
  unfold fv putV
  cases lk c' k' i' with
  | some r => rfl
  | none =>
    have : ¬ (c' = c ∧ i' = i ∧ k' = k) := fun q => h (by rw [q.1, q.2.1])
    simp [this]
theorem cell_putV_ne {c i k : Nat} {z : St} {x : Int32} (r' : Nat × Nat) (h : r' ≠ (c, i)) : cellD cA ad (putV z c i k x) r' = cellD cA ad z r' := by
  obtain ⟨c', i'⟩ := r'
  have e1 : (putV z c i k x).2 = z.2 := rfl
  have e2 : (putV z c i k x).1 c' i' = z.1 c' i' := by
    funext d
    have : ¬ (c' = c ∧ i' = i ∧ d = k) := fun q => h (by rw [q.1, q.2.1])
    simp [putV, this]
  have e3 : (fun k' => trv ad (fv (putV z c i k x) c' i' k')) = (fun k' => trv ad (fv z c' i' k')) := by
    funext k'
    rw [fv_put h]
  unfold cellD
  simp only [e1, e2, e3]
theorem s_put (F : FrOk p s m args meth c D cA ad A L xs cc o nL) {a b d i : Nat} {x : Int32} (hfl : (o, a, b, d) ∈ flT) (hi : i < cntK b) (hl : lk b d i = none) (hbool : b = 2 ∧ d = 5 → x = 0 ∨ x = 1) (hH : Hp D cA ad z H) (hS : va_S A s.heap H locs) (hd : decode cc pc = .ok (.putfield a, 3))
    (kk : ∀ (H1 : Heap) (locs1 : List Loc), Hp D cA ad (putV z b i d x) H1 → va_S A s.heap H1 locs1 → W p l e R s m args below meth c H1 locs1 cells slots QM (F0 m (pc + 3) lsA rest)) : W p l e R s m args below meth c H locs cells slots QM (F0 m pc lsA (.int x :: .ref (ad (b, i)) :: rest)) := by
  obtain ⟨hx, hb, hml, hown, hlk, hT, hK, hA, hX⟩ := id F
  have h1 := flT_ok _ hfl
  obtain ⟨h2, h3⟩ := flT_lt _ hfl
  simp only at h2 h3
  obtain ⟨k, hk⟩ := smW_get (cA := cA) (ad := ad) z (r := (b, i)) hi
  have hk0 := hk
  rw [cell_obj h2] at hk
  obtain ⟨f1, f2⟩ := ft_at b h2 d h3 (lk_none hl 0)
  have hty := ty_at h2 d h3
  have hnf : narrow (ty0K b d) (.int x) = .int x ∧ fits (ty0K b d) (.int x) = true := by
    rcases f2 with e | ⟨e, e2, e3⟩
    · rw [e]; exact ⟨rfl, rfl⟩
    · rw [e]
      rcases hbool ⟨e2, e3⟩ with rfl | rfl <;> decide
  refine va_put (D := D) (cl := vwCl) (ci := b) (C := cnm b) (T := tOf b) (N := nfK b) (ref := cnm b) (Ts := u_ws (cnm b) (tOf b) (nfK b)) (ty := ty0K b d) (v := .int x) hx hb (fun w hw => F.ts (wx_at h2 w hw)) (fun w hw => hw) (ty0K b) (ty_at h2) (nm_at h2) hown hK hH.1 (smW_D hA z) hS k hk (cl_at h2) d h3 (F.ts h1) (fun x hx => by rw [← tn_at b h2 d h3]; exact hx) f1 hty hnf.1 hnf.2 (by simpa using h3) hd (fun H1 locs1 hP hD hS1 => ?_)
  refine kk H1 locs1 ⟨?_, hH.2⟩ hS1
  rw [← smW_set hA hk0 hi (cell_putV h2 h3 hl z x) (fun r' hr => cell_putV_ne r' hr)]
  exact hP
end SS
