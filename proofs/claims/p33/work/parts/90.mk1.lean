/-! THE MAKING: the constructors, run over a table of cells: cell k has the address N0 + k, the newest cell stands first -/
/-- a cell: (class, fields), or (type, length, what was written) -/
abbrev CE : Type := (Nat × List (Option MV)) ⊕ (Nat × Nat × (List (Nat × Int32) ⊕ List (Nat × Nat)))
def lkI : List (Nat × Int32) → Nat → Int32
  | [], _ => 0
  | (i, x) :: l, j => if j = i then x else lkI l j
def lkR : List (Nat × Nat) → Nat → Option Nat
  | [], _ => none
  | (i, x) :: l, j => if j = i then some x else lkR l j
abbrev adK (N0 : Nat) : Nat × Nat → Nat := fun r => N0 + r.2
def oV (N0 : Nat) (v : Option MV) : Value := match v with
  | none => .null
  | some v => trv (adK N0) v
def toE (cA : Nat → ClassId) (N0 : Nat) (e : CE) : va_E := match e with
  | .inl (c, fs) => .inr (c, fs.map (oV N0))
  | .inr (t, n, .inl l) => .inl (cA t, n, .inl (lkI l))
  | .inr (t, n, .inr l) => .inl (cA t, n, .inr (.inr (.inr (.inr (fun j => (lkR l j).map (fun k => N0 + k))))))
def wsOf (cA : Nat → ClassId) (N0 : Nat) : List CE → va_W
  | [] => []
  | e :: σ => (N0 + σ.length, toE cA N0 e) :: wsOf cA N0 σ
def HpK (D : va_G) (cA : Nat → ClassId) (N0 n : Nat) (σ : List CE) (H : Heap) : Prop := σ.length = n ∧ H.size = N0 + n ∧ va_P D vwCl (wsOf cA N0 σ) H
def getE : List CE → Nat → Option CE
  | [], _ => none
  | e :: _, 0 => some e
  | _ :: σ, j + 1 => getE σ j
def setE : List CE → Nat → CE → List CE
  | [], _, _ => []
  | _ :: σ, 0, e => e :: σ
  | x :: σ, j + 1, e => x :: setE σ j e
section MK0
variable {cA : Nat → ClassId} {N0 n k : Nat} {D : va_G} {H H1 : Heap}
theorem setE_len : ∀ (σ : List CE) (j : Nat) (e : CE), (setE σ j e).length = σ.length
  | [], _, _ => rfl
  | _ :: _, 0, _ => rfl
  | x :: σ, j + 1, e => congrArg (· + 1) (setE_len σ j e)
theorem wsOf_get : ∀ (σ : List CE) (j : Nat) (e : CE), getE σ j = some e → (wsOf cA N0 σ)[j]? = some (N0 + (σ.length - 1 - j), toE cA N0 e) ∧ j < σ.length
  | [], _, _, h => by cases h
  | x :: σ, 0, e, h => by
    cases h
    exact ⟨rfl, Nat.succ_pos _⟩
  | x :: σ, j + 1, e, h => by
    obtain ⟨h1, h2⟩ := wsOf_get σ j e h
    refine ⟨?_, Nat.succ_lt_succ h2⟩
    show (wsOf cA N0 σ)[j]? = _
    rw [h1]
    have : (x :: σ).length - 1 - (j + 1) = σ.length - 1 - j := by rw [List.length_cons]; omega
    rw [this]
theorem wsOf_ad : ∀ (σ : List CE) (j : Nat) (q : Nat × va_E), (wsOf cA N0 σ)[j]? = some q → q.1 = N0 + (σ.length - 1 - j) ∧ j < σ.length
  | [], _, _, h => by cases h
  | x :: σ, 0, q, h => by
    cases h
    exact ⟨rfl, Nat.succ_pos _⟩
  | x :: σ, j + 1, q, h => by
    obtain ⟨h1, h2⟩ := wsOf_ad σ j q h
    refine ⟨?_, Nat.succ_lt_succ h2⟩
    rw [h1, List.length_cons]
    omega
theorem wsOf_set : ∀ (σ : List CE) (j : Nat) (e : CE), j < σ.length → wsOf cA N0 (setE σ j e) = (wsOf cA N0 σ).set j (N0 + (σ.length - 1 - j), toE cA N0 e)
  | [], _, _, h => by cases h
  | x :: σ, 0, e, h => rfl
  | x :: σ, j + 1, e, h => by
    have ih := wsOf_set σ j e (Nat.lt_of_succ_lt_succ h)
    show (N0 + (setE σ j e).length, toE cA N0 x) :: wsOf cA N0 (setE σ j e) = (N0 + σ.length, toE cA N0 x) :: ((wsOf cA N0 σ).set j (N0 + ((x :: σ).length - 1 - (j + 1)), toE cA N0 e))
    have e1 : (x :: σ).length - 1 - (j + 1) = σ.length - 1 - j := by rw [List.length_cons]; omega
    rw [ih, setE_len, e1]
theorem wsOf_D (σ : List CE) : va_D (fun q => N0 ≤ q) (wsOf cA N0 σ) := ⟨fun i j p q hi hj e => by
  obtain ⟨h1, h2⟩ := wsOf_ad σ i p hi
  obtain ⟨h3, h4⟩ := wsOf_ad σ j q hj
  omega, fun k q hk => by
  have := (wsOf_ad σ k q hk).1
  omega⟩
theorem cell_at {σ : List CE} {e : CE} (hH : HpK D cA N0 n σ H) (hk : k < n) (he : getE σ (n - 1 - k) = some e) : (wsOf cA N0 σ)[n - 1 - k]? = some (N0 + k, toE cA N0 e) := by
  obtain ⟨h1, h2⟩ := wsOf_get (cA := cA) (N0 := N0) σ _ e he
  rw [h1, hH.1]
  have : n - 1 - (n - 1 - k) = k := by omega
  rw [this]
theorem HpK_set {σ : List CE} {e e0 : CE} (hH : HpK D cA N0 n σ H) (hk : k < n) (he : getE σ (n - 1 - k) = some e0) (h : va_at D vwCl (N0 + k, toE cA N0 e) H1) (hz : H1.size = H.size) (oq : ∀ q : Nat, q ≠ N0 + k → H1[q]? = H[q]?) : HpK D cA N0 n (setE σ (n - 1 - k) e) H1 := by
  have hj : n - 1 - k < σ.length := by rw [hH.1]; omega
  refine ⟨(setE_len _ _ _).trans hH.1, hz.trans hH.2.1, ?_⟩
  rw [wsOf_set σ _ e hj, hH.1]
  have : n - 1 - (n - 1 - k) = k := by omega
  rw [this]
  exact hH.2.2.set (wsOf_D σ) (cell_at hH hk he) h oq
theorem HpK_new {σ : List CE} {e : CE} (hH : HpK D cA N0 n σ H) (h : va_at D vwCl (N0 + n, toE cA N0 e) H1) (hz : H1.size = N0 + n + 1) (oq : ∀ q : Nat, q < N0 + n → H1[q]? = H[q]?) : HpK D cA N0 (n + 1) (e :: σ) H1 := by
  refine ⟨congrArg (· + 1) hH.1, hz, fun k q hk => ?_⟩
  match k, hk with
  | 0, hk =>
    have e1 : (N0 + σ.length, toE cA N0 e) = q := Option.some.inj hk
    rw [hH.1] at e1
    rw [← e1]
    exact h
  | k + 1, hk =>
    have hk : (wsOf cA N0 σ)[k]? = some q := hk
    refine (hH.2.2 k q hk).kept (oq _ ?_)
    have := (hH.2.2 k q hk).lt
    rw [hH.2.1] at this
    exact this
end MK0
/-- blank objects -/
def blkF (b : Nat) : List (Option MV) := (List.range (nfK b)).map (fun k => match lk b k 0 with
  | none => some (.inl 0)
  | some _ => none)
def isRefT (t : FieldType) : Bool := match t with
  | .object _ => true
  | .array _ => true
  | _ => false
theorem blk_def : ∀ o, o < 10 → ∀ k, k < nfK o → defaultValue (ty0K o k) = (match lk o k 0 with
  | none => Value.int 0
  | some _ => Value.null) := by decide +kernel
def putOk (ini : Bool) (o b d : Nat) (v : MV) : Bool := (match v with
  | .inl _ => decide (ty0K b d = .int)
  | .inr _ => isRefT (ty0K b d)) && (!(tOf b d).2.2.2 || (ini && decide (o = b)))
theorem putOk_fits {ini : Bool} {o b d N0 : Nat} {v : MV} (h : putOk ini o b d v = true) : narrow (ty0K b d) (trv (adK N0) v) = trv (adK N0) v ∧ fits (ty0K b d) (trv (adK N0) v) = true := by
  unfold putOk at h
  rw [Bool.and_eq_true] at h
  have h := h.1
  cases v with
  | inl x =>
    have h : ty0K b d = .int := of_decide_eq_true h
    rw [h]
    exact ⟨rfl, rfl⟩
  | inr r =>
    have h : isRefT (ty0K b d) = true := h
    generalize ty0K b d = t at h
    cases t <;> first | (cases h; done) | exact ⟨rfl, rfl⟩
theorem putOk_fin {ini : Bool} {o b d : Nat} {v : MV} (h : putOk ini o b d v = true) (hf : (tOf b d).2.2.2 = true) : ini = true ∧ o = b := by
  unfold putOk at h
  rw [Bool.and_eq_true, hf] at h
  have h := h.2
  simp only [Bool.not_true, Bool.false_or, Bool.and_eq_true, decide_eq_true_eq] at h
  exact h
/-- class links of the makings; the type of an array of a class's objects; calls -/
def clT : List (Nat × Nat × Nat) := [(9, 19, 3), (9, 34, 0), (9, 7, 8), (2, 18, 7), (2, 9, 1), (3, 11, 8), (4, 9, 2), (5, 9, 1), (6, 18, 7), (6, 9, 1), (8, 17, 6), (8, 23, 4), (8, 9, 5), (24, 14, 9)]
def clOk (q : Nat × Nat × Nat) : Prop := inT (.classLink (cnm q.1) q.2.1 (cnm q.2.2))
theorem clk_0 : clOk (9, 19, 3) := inT_at 224 (by decide +kernel)
theorem clk_1 : clOk (9, 34, 0) := inT_at 244 (by decide +kernel)
theorem clk_2 : clOk (9, 7, 8) := inT_at 35 (by decide +kernel)
theorem clk_3 : clOk (2, 18, 7) := inT_at 138 (by decide +kernel)
theorem clk_4 : clOk (2, 9, 1) := inT_at 136 (by decide +kernel)
theorem clk_5 : clOk (3, 11, 8) := inT_at 230 (by decide +kernel)
theorem clk_6 : clOk (4, 9, 2) := inT_at 129 (by decide +kernel)
theorem clk_7 : clOk (5, 9, 1) := inT_at 52 (by decide +kernel)
theorem clk_8 : clOk (6, 18, 7) := inT_at 88 (by decide +kernel)
theorem clk_9 : clOk (6, 9, 1) := inT_at 86 (by decide +kernel)
theorem clk_10 : clOk (8, 17, 6) := inT_at 43 (by decide +kernel)
theorem clk_11 : clOk (8, 23, 4) := inT_at 45 (by decide +kernel)
theorem clk_12 : clOk (8, 9, 5) := inT_at 41 (by decide +kernel)
theorem clk_13 : clOk (24, 14, 9) := inT_at 27 (by decide +kernel)
theorem clT_ok : ∀ q ∈ clT, clOk q := List.forall_mem_cons.mpr ⟨clk_0, List.forall_mem_cons.mpr ⟨clk_1, List.forall_mem_cons.mpr ⟨clk_2, List.forall_mem_cons.mpr ⟨clk_3, List.forall_mem_cons.mpr ⟨clk_4, List.forall_mem_cons.mpr ⟨clk_5, List.forall_mem_cons.mpr ⟨clk_6, List.forall_mem_cons.mpr ⟨clk_7, List.forall_mem_cons.mpr ⟨clk_8, List.forall_mem_cons.mpr ⟨clk_9, List.forall_mem_cons.mpr ⟨clk_10, List.forall_mem_cons.mpr ⟨clk_11, List.forall_mem_cons.mpr ⟨clk_12, List.forall_mem_cons.mpr ⟨clk_13, fun _ h => absurd h List.not_mem_nil⟩⟩⟩⟩⟩⟩⟩⟩⟩⟩⟩⟩⟩⟩
def nwOk (c : Nat) : Prop := inT (.instantiable (cnm c) (nfK c)) ∧ inT (.initialized (cnm c))
theorem nwk_0 : nwOk 0 := ⟨inT_at 245 (by decide +kernel), inT_at 24 (by decide +kernel)⟩
theorem nwk_1 : nwOk 1 := ⟨inT_at 53 (by decide +kernel), inT_at 18 (by decide +kernel)⟩
theorem nwk_2 : nwOk 2 := ⟨inT_at 131 (by decide +kernel), inT_at 22 (by decide +kernel)⟩
theorem nwk_3 : nwOk 3 := ⟨inT_at 225 (by decide +kernel), inT_at 23 (by decide +kernel)⟩
theorem nwk_4 : nwOk 4 := ⟨inT_at 124 (by decide +kernel), inT_at 21 (by decide +kernel)⟩
theorem nwk_5 : nwOk 5 := ⟨inT_at 47 (by decide +kernel), inT_at 17 (by decide +kernel)⟩
theorem nwk_6 : nwOk 6 := ⟨inT_at 81 (by decide +kernel), inT_at 19 (by decide +kernel)⟩
theorem nwk_7 : nwOk 7 := ⟨inT_at 89 (by decide +kernel), inT_at 20 (by decide +kernel)⟩
theorem nwk_8 : nwOk 8 := ⟨inT_at 36 (by decide +kernel), inT_at 16 (by decide +kernel)⟩
theorem nwk_9 : nwOk 9 := ⟨inT_at 28 (by decide +kernel), inT_at 15 (by decide +kernel)⟩
theorem nw_at {o : Nat} (h : o < 10) : nwOk o := by
  match o, h with
  | 0, _ => exact nwk_0
  | 1, _ => exact nwk_1
  | 2, _ => exact nwk_2
  | 3, _ => exact nwk_3
  | 4, _ => exact nwk_4
  | 5, _ => exact nwk_5
  | 6, _ => exact nwk_6
  | 7, _ => exact nwk_7
  | 8, _ => exact nwk_8
  | 9, _ => exact nwk_9
  | n + 10, h => exact absurd h (by omega)
def obT : List (Nat × Nat) := [(0, 3), (1, 1), (2, 3), (3, 3), (4, 3), (5, 3), (6, 3), (7, 3), (8, 3), (9, 1)]
def obOk (q : Nat × Nat) : Prop := inT (.methodLink (cnm q.1) q.2 Lib.objectInit)
theorem obk_0 : obOk (0, 3) := inT_at 249 (by decide +kernel)
theorem obk_1 : obOk (1, 1) := inT_at 57 (by decide +kernel)
theorem obk_2 : obOk (2, 3) := inT_at 135 (by decide +kernel)
theorem obk_3 : obOk (3, 3) := inT_at 229 (by decide +kernel)
theorem obk_4 : obOk (4, 3) := inT_at 128 (by decide +kernel)
theorem obk_5 : obOk (5, 3) := inT_at 51 (by decide +kernel)
theorem obk_6 : obOk (6, 3) := inT_at 85 (by decide +kernel)
theorem obk_7 : obOk (7, 3) := inT_at 93 (by decide +kernel)
theorem obk_8 : obOk (8, 3) := inT_at 40 (by decide +kernel)
theorem obk_9 : obOk (9, 1) := inT_at 32 (by decide +kernel)
theorem obT_ok : ∀ q ∈ obT, obOk q := List.forall_mem_cons.mpr ⟨obk_0, List.forall_mem_cons.mpr ⟨obk_1, List.forall_mem_cons.mpr ⟨obk_2, List.forall_mem_cons.mpr ⟨obk_3, List.forall_mem_cons.mpr ⟨obk_4, List.forall_mem_cons.mpr ⟨obk_5, List.forall_mem_cons.mpr ⟨obk_6, List.forall_mem_cons.mpr ⟨obk_7, List.forall_mem_cons.mpr ⟨obk_8, List.forall_mem_cons.mpr ⟨obk_9, fun _ h => absurd h List.not_mem_nil⟩⟩⟩⟩⟩⟩⟩⟩⟩⟩
theorem obi_ok : inT (.instanceMethod Lib.objectInit) ∧ inT (.code Lib.objectInit ⟨#[0xb1]⟩ 1 none) := ⟨inT_at 33 (by decide +kernel), inT_at 34 (by decide +kernel)⟩
/-! arrays' classes -/
def Ak (U : State) : Prop := ((Cond.arrayClass .int).before #[] U = true ∧ (Cond.arrayClass .boolean).before #[] U = true ∧ (Cond.arrayClass .byte).before #[] U = true) ∧ (va_AO RX5 U ∧ va_AO RX6 U ∧ va_AO RX4 U ∧ va_AO RX2 U ∧ va_AO RX8 U)
theorem Ak.warm {s U : State} (hW : s.WarmedH U.vm) (h : Ak s) : Ak U := ⟨⟨word_at hW (Or.inr ⟨_, rfl⟩) h.1.1, word_at hW (Or.inr ⟨_, rfl⟩) h.1.2.1, word_at hW (Or.inr ⟨_, rfl⟩) h.1.2.2⟩, ⟨va_AO.moved hW.alike h.2.1, va_AO.moved hW.alike h.2.2.1, va_AO.moved hW.alike h.2.2.2.1, va_AO.moved hW.alike h.2.2.2.2.1, va_AO.moved hW.alike h.2.2.2.2.2⟩⟩
def tyA (b : Nat) : Nat := match b with
  | 5 => 3 | 6 => 4 | 4 => 5 | 2 => 6 | 8 => 7 | _ => 99
theorem tyA_ok {cA : Nat → ClassId} {b : Nat} (h : tyA b < 8) : (tysA cA)[tyA b]? = some (cA (tyA b), .object (cnm b)) ∧ b < 10 ∧ ∀ U : State, Ak U → va_AO (cnm b) U := by
  unfold tyA at h ⊢
  split at h
  · exact ⟨rfl, by omega, fun U h => h.2.1⟩
  · exact ⟨rfl, by omega, fun U h => h.2.2.1⟩
  · exact ⟨rfl, by omega, fun U h => h.2.2.2.1⟩
  · exact ⟨rfl, by omega, fun U h => h.2.2.2.2.1⟩
  · exact ⟨rfl, by omega, fun U h => h.2.2.2.2.2⟩
  · omega
/-- the world of a making in a state -/
def RepI (D : va_G) (cA : Nat → ClassId) (N0 n : Nat) (σ : List CE) (U : State) : Prop := HpK D cA N0 n σ U.heap ∧ va_K D vwCl (tysA cA) U ∧ Tk U ∧ Ak U
def FrI (p : Program) (s : State) (m : MethodId) (args : Array Value) (meth : Method) (c : Code) (D : va_G) (cA : Nat → ClassId) (A : Nat → Prop) (cc : ByteArray) (o nL N0 : Nat) (ini : Bool) : Prop :=
  p.tables.exec = Jvm.exec ∧ c.code = cc ∧ c.maxLocals = nL ∧ s.vm.findClass (cnm o) = some m.cls ∧ meth.locks = false ∧ Tk s ∧ va_K D vwCl (tysA cA) s ∧ Ak s ∧ (∀ q, N0 ≤ q → A q) ∧ (ini = true → meth.name = "<init>")
section MK1
variable {p : Program} {l : Launch} {e : Env} {R : Room} {s : State} {m : MethodId} {args : Array Value} {below : List Frame} {meth : Method} {c : Code} {cells slots : Nat} {QM : State → Prop}
variable {D : va_G} {cA : Nat → ClassId} {A : Nat → Prop} {cc : ByteArray} {o nL N0 n : Nat} {ini : Bool} {rest : List Value} {pc : Nat} {lsA : Array Slot} {H : Heap} {locs : List Loc} {σ : List CE}
theorem RepI.at (F : FrI p s m args meth c D cA A cc o nL N0 ini) (hH : HpK D cA N0 n σ H) : ∀ U : State, U.heap = H → s.WarmedH U.vm → RepI D cA N0 n σ U := by
  obtain ⟨hx, hb, hml, hown, hlk, hT, hK, hAk, hA, hin⟩ := F
  intro U hU hW
  exact ⟨by rw [hU]; exact hH, va_K.moved hW.alike hK, Tk.warm hW hT, Ak.warm hW hAk⟩
theorem RepI.blind {U : State} {g : JFrame} {mk : MethodId} {a : Array Value} (h : RepI D cA N0 n σ U) : RepI D cA N0 n σ (U.calling g mk a) :=
  ⟨h.1, va_K.moved (u := U) (U := U.calling g mk a) (Vm.Alike.refl U.vm) h.2.1, Tk.same (s := U) (U := U.calling g mk a) rfl h.2.2.1, h.2.2.2⟩
theorem pcI_blind (as : List Value) : FrameBlind (va_Pc as (RepI D cA N0 n σ)) := fun a U g mk q => ⟨q.1, q.2.blind⟩
theorem i_get (F : FrI p s m args meth c D cA A cc o nL N0 ini) {a b d k : Nat} {fs : List (Option MV)} {v : MV} (hfl : (o, a, b, d) ∈ flT) (hk : k < n) (he : getE σ (n - 1 - k) = some (.inl (b, fs))) (hv : fs[d]? = some (some v)) (hH : HpK D cA N0 n σ H) (hd : decode cc pc = .ok (.getfield a, 3))
    (kk : W p l e R s m args below meth c H locs cells slots QM (F0 m (pc + 3) lsA (trv (adK N0) v :: rest))) : W p l e R s m args below meth c H locs cells slots QM (F0 m pc lsA (.ref (N0 + k) :: rest)) := by
  obtain ⟨hx, hb, hml, hown, hlk, hT, hK, hAk, hA, hin⟩ := id F
  have h1 := flT_ok _ hfl
  obtain ⟨h2, h3⟩ := flT_lt _ hfl
  simp only at h2 h3
  refine va_get (D := D) (cl := vwCl) (ci := b) (C := cnm b) (T := tOf b) (N := nfK b) (ref := cnm b) (Ts := u_ws (cnm b) (tOf b) (nfK b)) hx hb (fun w hw => hT.use (wx_at h2 w hw)) (fun w hw => hw) hown hK hH.2.2 (n - 1 - k) (cell_at hH hk he) (cl_at h2) d h3 (hT.use h1) (fun x hx => by rw [← tn_at b h2 d h3]; exact hx) (v := trv (adK N0) v) ?_ hd kk
  rw [List.getElem?_map, hv]
  rfl
theorem i_put (F : FrI p s m args meth c D cA A cc o nL N0 ini) {a b d k : Nat} {fs : List (Option MV)} {v : MV} (hfl : (o, a, b, d) ∈ flT) (hk : k < n) (he : getE σ (n - 1 - k) = some (.inl (b, fs))) (hl : d < fs.length) (hok : putOk ini o b d v = true) (hH : HpK D cA N0 n σ H) (hS : va_S A s.heap H locs) (hd : decode cc pc = .ok (.putfield a, 3))
    (kk : ∀ (H1 : Heap) (locs1 : List Loc), HpK D cA N0 n (setE σ (n - 1 - k) (.inl (b, fs.set d (some v)))) H1 → va_S A s.heap H1 locs1 → W p l e R s m args below meth c H1 locs1 cells slots QM (F0 m (pc + 3) lsA rest)) : W p l e R s m args below meth c H locs cells slots QM (F0 m pc lsA (trv (adK N0) v :: .ref (N0 + k) :: rest)) := by
  obtain ⟨hx, hb, hml, hown, hlk, hT, hK, hAk, hA, hin⟩ := id F
  have h1 := flT_ok _ hfl
  obtain ⟨h2, h3⟩ := flT_lt _ hfl
  simp only at h2 h3
  have hts : ∀ w ∈ u_ws (cnm b) (tOf b) (nfK b), w.before args s = true := fun w hw => hT.use (wx_at h2 w hw)
  have hap := va_apart (own := cnm o) (C := cnm b) (T := tOf b) (N := nfK b) (ci := b) hts (fun w h => h) (ty0K b) (ty_at h2) (nm_at h2) hK (cl_at h2)
  obtain ⟨r, e1, cell, q1, q2, q3, q4⟩ := hH.2.2 _ _ (cell_at hH hk he)
  have hr : r = (cnm b, tOf b, nfK b) := Option.some.inj (e1.symm.trans (cl_at h2))
  subst hr
  obtain ⟨hSl, hfc, kC, hkC, hkind⟩ := hK.1 b _ (cl_at h2)
  obtain ⟨cf, kf, fi, f, hi, hsl⟩ := hSl d h3
  have hty := ty_at h2 d h3
  have hst := (u_facts hfc hkC (u_lays hts (fun w h => h) h3) hi).1
  have hlay := hts _ (u_in_lay h3)
  obtain ⟨hn1, hn2⟩ := putOk_fits (N0 := N0) hok
  have hi2 : s.fieldFound? (cnm b) (tOf b d).2.1 (tOf b d).2.2.1 = some (cf, kf, fi, f) := by rw [← tn_at b h2 d h3]; exact hi
  have fin : ∀ H1 : Heap, H1[N0 + k]? = some (cell.setSlot f.slot (trv (adK N0) v)) → H1.size = H.size → (∀ q : Nat, q ≠ N0 + k → H1[q]? = H[q]?) → W p l e R s m args below meth c H1 (locs ++ [⟨N0 + k, f.slot⟩]) cells slots QM (F0 m (pc + 3) lsA rest) := by
    intro H1 g1 g2 g3
    refine kk H1 _ (HpK_set hH hk he ?_ g2 g3) (hS.put g2 g3 (hA _ (Nat.le_add_right _ _)))
    rw [hsl] at g1
    refine ⟨_, cl_at h2, t_OB.to (V := updV (vp_V (fs.map (oV N0))) d (trv (adK N0) v)) ⟨_, g1, q2, q3, t_set q4 hap h3 _⟩ (fun j _ => ?_)⟩
    rw [vp_updV_set (by rw [List.length_map]; exact hl), List.map_set]
    rfl
  unfold u_lay at hlay
  cases hfin : (tOf b d).2.2.2 with
  | false =>
    rw [hfin, if_neg (by decide)] at hlay
    rw [tn_at b h2 d h3] at hi
    have hlay2 := hlay
    rw [tn_at b h2 d h3] at hlay2
    have h6 := u_store hfc hkC hkind hlay2 hi hty hn1 hn2
    exact W.putK hx hb (f := f) ⟨hown, hT.use h1, ⟨_, _, _, hi⟩, hst⟩ (by rw [q2]; exact h6) q1 q3 (by rw [hsl]; exact k2_hasslot (q4 d h3)) rfl rfl hd fin
  | true =>
    rw [hfin, if_pos rfl] at hlay
    obtain ⟨hini, hob⟩ := putOk_fin hok hfin
    have hcf : m.cls = cf := by
      obtain ⟨_, _, c', _, _, _, -, -, hf', -, -, -, hown2, -⟩ := Cond.laysFinal_spec hlay
      have g : c' = cf := by have := hi.symm.trans hf'; simp at this; exact this.1.symm
      rw [tn_at b h2 d h3, ← hob] at hown2
      rw [← g]
      exact Option.some.inj (hown.symm.trans hown2)
    have h6 := u_fits hfc hkC hkind (Or.inr hlay) hi hty hn1 hn2
    exact W.putFinK hx hb hown (hT.use h1) hi2 hst hcf (hin hini) (by rw [q2]; exact h6) q1 q3 (by rw [hsl]; exact k2_hasslot (q4 d h3)) rfl rfl hd fin
theorem va_S.grow {A0 : Nat → Prop} {H0 H2 : Heap} (hS : va_S A0 H0 H locs) (z : H.size ≤ H2.size) (oq : ∀ q : Nat, q < H.size → H2[q]? = H[q]?) : va_S A0 H0 H2 locs := ⟨Nat.le_trans hS.1 z, fun q h1 h2 => (oq q (Nat.lt_of_lt_of_le h1 hS.1)).trans (hS.2.1 q h1 h2), hS.2.2⟩
theorem i_new (F : FrI p s m args meth c D cA A cc o nL N0 ini) {a b : Nat} (hcl : (o, a, b) ∈ clT) (hb11 : b < 10) (hH : HpK D cA N0 n σ H) (hS : va_S A s.heap H locs) (hc1 : cells + 1 ≤ R.cells) (hc2 : slots + nfK b ≤ R.slots) (hd : decode cc pc = .ok (.new a, 3))
    (kk : ∀ H1 : Heap, HpK D cA N0 (n + 1) (.inl (b, blkF b) :: σ) H1 → va_S A s.heap H1 locs → W p l e R s m args below meth c H1 locs (cells + 1) (slots + nfK b) QM (F0 m (pc + 3) lsA (.ref (N0 + n) :: rest))) : W p l e R s m args below meth c H locs cells slots QM (F0 m pc lsA rest) := by
  obtain ⟨hx, hb, hml, hown, hlk, hT, hK, hAk, hA, hin⟩ := id F
  have hcl2 := clT_ok _ hcl
  obtain ⟨w1, w2⟩ := nw_at hb11
  have hts : ∀ w ∈ u_ws (cnm b) (tOf b) (nfK b), w.before args s = true := fun w hw => hT.use (wx_at hb11 w hw)
  have hKn := hK.1 b _ (cl_at hb11)
  refine W.newcK (C := cnm b) hx hb hown (hT.use hcl2) (hT.use w1) (hT.use w2) rfl hd hc1 hc2 hKn.2.1 hH.2.1 fun H1 kC hkC e1 z1 o1 => ?_
  refine kk H1 (HpK_new hH ⟨_, cl_at hb11, (u_born (ty0K b) hts (fun w h => h) hKn hkC e1 (ty_at hb11)).to fun k hk => ?_⟩ z1 o1) (hS.grow (by rw [hH.2.1, z1]; omega) (fun q hq => o1 q (by rw [hH.2.1] at hq; exact hq)))
  rw [blk_def b hb11 k hk]
  have : (blkF b)[k]? = some (match lk b k 0 with
    | none => some (.inl 0)
    | some _ => none) := by
    unfold blkF
    rw [List.getElem?_map, List.getElem?_range hk]
    rfl
  simp only [vp_V, List.getD_eq_getElem?_getD, List.getElem?_map, this]
  cases lk b k 0 <;> rfl
end MK1
