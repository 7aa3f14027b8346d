/-! THE MAKING: the run -/
def stepC (call : Nat → List MV → List CE → Nat → Option (List CE)) (o : Nat) (ini : Bool) (mc ms n0 : Nat) (k : List Ent → List MV → List MV → List CE → Nat → Nat → Option (List CE)) (j : Nat → List MV → List MV → List CE → Nat → Nat → Option (List CE)) (es : List Ent) (ls st : List MV) (σ : List CE) (ce sl : Nat) : Option (List CE) :=
  match es with
  | [] => none
  | (pc, (op, a, b, d), c, cs) :: es => match op with
    | 0 => k es ls st σ ce sl
    | 1 => if b ≤ 2 then k es ls (.inl c :: st) σ ce sl else none
    | 2 => (match getL ls a with
      | some (.inl x) => if b ≤ 1 then k es ls (.inl x :: st) σ ce sl else none
      | some (.inr r) => if 2 ≤ b then k es ls (.inr r :: st) σ ce sl else none
      | none => none)
    | 3 => (match st with
      | .inl x :: st => if b ≤ 1 ∧ a ≤ ls.length then k es (setL ls a (.inl x)) st σ ce sl else none
      | _ => none)
    | 5 => (match getL ls a with
      | some (.inl x) => k es (setL ls a (.inl (x + c))) st σ ce sl
      | _ => none)
    | 7 => (match st with
      | .inl y :: .inl x :: st => if b = 3 then (if y.toInt ≤ x.toInt then j a ls st σ ce sl else k es ls st σ ce sl) else none
      | _ => none)
    | 8 => j a ls st σ ce sl
    | 9 => (match st with
      | .inr (_, i) :: st => (match getE σ (n0 + ce - 1 - i) with
        | some (.inl (cl, fs)) => if cl = b ∧ i < n0 + ce then (match fs[d]? with
          | some (some v) => k es ls (v :: st) σ ce sl
          | _ => none) else none
        | _ => none)
      | _ => none)
    | 10 => (match st with
      | v :: .inr (_, i) :: st => (match getE σ (n0 + ce - 1 - i) with
        | some (.inl (cl, fs)) => if cl = b ∧ i < n0 + ce ∧ d < fs.length ∧ putOk ini o b d v = true then k es ls st (setE σ (n0 + ce - 1 - i) (.inl (cl, fs.set d (some v)))) ce sl else none
        | _ => none)
      | _ => none)
    | 11 => (match st with
      | .inl x :: .inr (_, i) :: st => (match getE σ (n0 + ce - 1 - i) with
        | some (.inr (t, len, .inr wr)) => if a = 2 ∧ tyA 5 = t ∧ i < n0 + ce ∧ (0 ≤ x.toInt ∧ x.toInt < (len : Int)) then (match lkR wr x.toNatClampNeg with
          | some r => k es ls (.inr (0, r) :: st) σ ce sl
          | none => none) else none
        | _ => none)
      | _ => none)
    | 12 => (match st with
      | .inl y :: .inl x :: .inr (_, i) :: st => (match getE σ (n0 + ce - 1 - i) with
        | some (.inr (t, len, .inl wr)) => if a = 0 ∧ t = 0 ∧ i < n0 + ce ∧ (0 ≤ x.toInt ∧ x.toInt < (len : Int)) then k es ls st (setE σ (n0 + ce - 1 - i) (.inr (t, len, .inl ((x.toNatClampNeg, y) :: wr)))) ce sl else none
        | _ => none)
      | .inr (_, v) :: .inl x :: .inr (_, i) :: st => (match getE σ (n0 + ce - 1 - i) with
        | some (.inr (t, len, .inr wr)) => (match getE σ (n0 + ce - 1 - v) with
          | some (.inl (cl, fs)) => if a = 2 ∧ tyA cl = t ∧ t < 8 ∧ i < n0 + ce ∧ v < n0 + ce ∧ (0 ≤ x.toInt ∧ x.toInt < (len : Int)) then k es ls st (setE σ (n0 + ce - 1 - i) (.inr (t, len, .inr ((x.toNatClampNeg, v) :: wr)))) ce sl else none
          | _ => none)
        | _ => none)
      | _ => none)
    | 13 => (match st with
      | .inl y :: .inl x :: .inr (_, i) :: st => (match getE σ (n0 + ce - 1 - i) with
        | some (.inl (cl, fs)) => if cl = 1 ∧ o = 8 ∧ a = 41 ∧ b = 2 ∧ d = 0 ∧ i < n0 + ce ∧ st.length ≤ 8 then (match call 2 [.inr (0, i), .inl x, .inl y] σ (n0 + ce) with
          | some σ2 => k es ls st σ2 ce sl
          | none => none) else none
        | _ => none)
      | _ => none)
    | 14 => if a = 1 ∧ st.length = 0 ∧ ce = mc ∧ sl = ms then some σ else none
    | 15 => (match st with
      | v :: st => k es ls (v :: v :: st) σ ce sl
      | _ => none)
    | 21 => if (o, a, b) ∈ clT ∧ b < 10 ∧ ce + 1 ≤ mc ∧ sl + nfK b ≤ ms then k es ls (.inr (0, n0 + ce) :: st) (.inl (b, blkF b) :: σ) (ce + 1) (sl + nfK b) else none
    | 22 => (match st with
      | .inl x :: st => if a < 3 ∧ (0 ≤ x.toInt ∧ x.toInt ≤ 10000) ∧ ce + 1 ≤ mc ∧ sl + x.toNatClampNeg ≤ ms then k es ls (.inr (0, n0 + ce) :: st) (.inr (a, x.toNatClampNeg, .inl []) :: σ) (ce + 1) (sl + x.toNatClampNeg) else none
      | _ => none)
    | 23 => (match st with
      | .inl x :: st => if ((o, a, b) ∈ clT ∧ tyA b < 8) ∧ (0 ≤ x.toInt ∧ x.toInt ≤ 10000) ∧ ce + 1 ≤ mc ∧ sl + x.toNatClampNeg ≤ ms then k es ls (.inr (0, n0 + ce) :: st) (.inr (tyA b, x.toNatClampNeg, .inr []) :: σ) (ce + 1) (sl + x.toNatClampNeg) else none
      | _ => none)
    | 24 => (match st with
      | .inr (_, i) :: st => if b = 999 then (if (o, a) ∈ obT ∧ st.length ≤ 8 then k es ls st σ ce sl else none)
        else if (o, a, b, d) ∈ icT ∧ (d = 0 ∨ d = 1) ∧ (ce + (mcT b).1 ≤ mc ∧ sl + (mcT b).2 ≤ ms) ∧ st.length ≤ 8 then (match call b [.inr (0, i)] σ (n0 + ce) with
          | some σ2 => k es ls st σ2 (ce + (mcT b).1) (sl + (mcT b).2)
          | none => none) else none
      | _ => none)
    | _ => none
def cgo (call : Nat → List MV → List CE → Nat → Option (List CE)) (o : Nat) (ini : Bool) (mc ms n0 : Nat) (code : List Ent) : Nat → List Ent → List MV → List MV → List CE → Nat → Nat → Option (List CE)
  | 0 => fun _ _ _ _ _ _ => none
  | f + 1 => fun es ls st σ ce sl => stepC call o ini mc ms n0 (cgo call o ini mc ms n0 code f) (fun t ls st σ ce sl => cgo call o ini mc ms n0 code f (fromPc code t) ls st σ ce sl) es ls st σ ce sl
/-- method b on these arguments makes of this table that one -/
def cex : Nat → Nat → List MV → List CE → Nat → Option (List CE)
  | 0 => fun _ _ _ _ => none
  | f + 1 => fun b as σ n => if as.length = (mRow b).2.2.2.2.2.1 ∧ b < 123 ∧ retT b = 2 then cgo (cex f) (mRow b).2.2.2.2.1 (decide (b ∈ initL)) (mcT b).1 (mcT b).2 n (codT b) 100000 (codT b) as [] σ 0 0 else none
theorem ite_some {P : Prop} [Decidable P] {α : Type} {x : Option α} {y : α} (h : (if P then x else none) = some y) : P ∧ x = some y := by
  by_cases hp : P
  · rw [if_pos hp] at h
    exact ⟨hp, h⟩
  · rw [if_neg hp] at h
    cases h
theorem no_some {P : Prop} {α : Type} {y : α} (h : (none : Option α) = some y) : P := by cases h
theorem getE_app : ∀ {σ τ : List CE} {j : Nat} {e : CE}, getE σ j = some e → getE (σ ++ τ) j = some e
  | [], _, _, _, h => no_some h
  | _ :: _, _, 0, _, h => h
  | _ :: σ, τ, j + 1, _, h => getE_app (σ := σ) (τ := τ) h
theorem setE_app : ∀ {σ τ : List CE} {j : Nat} {e e2 : CE}, getE σ j = some e → setE (σ ++ τ) j e2 = setE σ j e2 ++ τ
  | [], _, _, _, _, h => no_some h
  | _ :: _, _, 0, _, _, _ => rfl
  | x :: σ, τ, j + 1, _, _, h => congrArg (x :: ·) (setE_app (σ := σ) (τ := τ) h)
section MK3
variable {p : Program} {l : Launch} {e : Env} {R : Room} {s : State} {m : MethodId} {args : Array Value} {below : List Frame} {meth : Method} {c : Code} {cells slots : Nat} {QM : State → Prop}
variable {D : va_G} {cA : Nat → ClassId} {A : Nat → Prop} {cc : ByteArray} {o nL N0 : Nat} {ini : Bool}
def XwK (p : Program) (l : Launch) (e : Env) (R : Room) (s : State) (m : MethodId) (args : Array Value) (below : List Frame) (meth : Method) (c : Code) (QM : State → Prop) (D : va_G) (cA : Nat → ClassId) (A : Nat → Prop) (τ : List CE) (nL N0 n0 pc : Nat) (ls st : List MV) (σ : List CE) (ce sl : Nat) : Prop :=
  ∀ (H : Heap) (locs : List Loc) (lsA : Array Slot), HpK D cA N0 (n0 + ce) (σ ++ τ) H → va_S A s.heap H locs → locOk (adK N0) nL lsA ls → W p l e R s m args below meth c H locs ce sl QM (F0 m pc lsA (st.map (trv (adK N0))))
set_option maxHeartbeats 4000000 in
theorem stepC_sound (F : FrI p s m args meth c D cA A cc o nL N0 ini) {call : Nat → List MV → List CE → Nat → Option (List CE)} {mc ms n0 : Nat} {σ' τ : List CE} {k : List Ent → List MV → List MV → List CE → Nat → Nat → Option (List CE)} {j : Nat → List MV → List MV → List CE → Nat → Nat → Option (List CE)}
    (hcall : ∀ b as σ n σ2, call b as σ n = some σ2 → ∃ f, f + 1 ≤ R.frames ∧ 38 * f + 38 ≤ R.locals ∧ MetI l D cA A N0 f b as n (σ ++ τ) (σ2 ++ τ))
    (hR : ∀ H locs lsA pc, HpK D cA N0 (n0 + mc) (σ' ++ τ) H → va_S A s.heap H locs → decode cc pc = .ok (.return_, 1) → W p l e R s m args below meth c H locs mc ms QM (F0 m pc lsA []))
    (hmin : 1 ≤ R.frames ∧ 21 ≤ R.locals) (hmc : mc ≤ R.cells ∧ ms ≤ R.slots) :
    ∀ (pc op a b d : Nat) (c0 : Int32) (cs : List (Nat × Nat)) (es : List Ent) (ls st : List MV) (σ : List CE) (ce sl : Nat), entOk o nL cc (pc, (op, a, b, d), c0, cs) = true → ce ≤ mc ∧ sl ≤ ms →
    (∀ ls st σ ce sl, k es ls st σ ce sl = some σ' → ce ≤ mc ∧ sl ≤ ms → XwK p l e R s m args below meth c QM D cA A τ nL N0 n0 (nextPc (pc, (op, a, b, d), c0, cs)) ls st σ ce sl) →
    (∀ t ls st σ ce sl, j t ls st σ ce sl = some σ' → ce ≤ mc ∧ sl ≤ ms → XwK p l e R s m args below meth c QM D cA A τ nL N0 n0 t ls st σ ce sl) →
    stepC call o ini mc ms n0 k j ((pc, (op, a, b, d), c0, cs) :: es) ls st σ ce sl = some σ' → XwK p l e R s m args below meth c QM D cA A τ nL N0 n0 pc ls st σ ce sl := by
  intro pc op a b d c0 cs es ls st σ ce sl hok hcs hk hj h H locs lsA hH hS hloc
  obtain ⟨hx, hb, hmlc, hown, hlkk, hT, hK, hAk, hA, hin⟩ := id F
  have hsz : lsA.size = nL := hloc.1.1
  obtain ⟨hdec, hmore⟩ : (op = 0 ∨ decode cc pc = .ok (instrOf (pc, (op, a, b, d), c0, cs))) ∧ moreOk o nL (pc, (op, a, b, d), c0, cs) = true := by
    unfold entOk at hok
    rw [Bool.and_eq_true, Bool.or_eq_true, decide_eq_true_eq, decide_eq_true_eq] at hok
    exact hok
  match op, hdec, hmore, hk, h with
  | 0, _, _, hk, h => exact hk _ _ _ _ _ h hcs H locs lsA hH hS hloc
  | 1, hdec, hmore, hk, h =>
    have hd := hdec.resolve_left (by decide)
    replace h := ite_some h
    obtain ⟨hb2, h⟩ := h
    have kk := hk _ _ _ _ _ h hcs H locs lsA hH hS hloc
    match b, hb2, hd, hmore, kk with
    | 0, _, hd, _, kk => exact lv_iconst hx hb hd (Int32_ofInt_toInt c0) kk
    | 1, _, hd, hmore, kk => exact lv_bipush hx hb hd (of_decide_eq_true hmore) kk
    | 2, _, hd, hmore, kk => exact lv_sipush hx hb hd (of_decide_eq_true hmore) kk
    | n + 3, hb2, _, _, _ => exact absurd hb2 (by omega)
  | 2, hdec, hmore, hk, h =>
    have hd := hdec.resolve_left (by decide)
    cases hv : getL ls a with
    | none =>
      have h : (match getL ls a with | some (.inl x) => if b ≤ 1 then k es ls (.inl x :: st) σ ce sl else none | some (.inr r) => if 2 ≤ b then k es ls (.inr r :: st) σ ce sl else none | none => none) = some σ' := h
      rw [hv] at h
      exact no_some h
    | some v =>
      have hg := loc_get hloc hv
      have h : (match getL ls a with | some (.inl x) => if b ≤ 1 then k es ls (.inl x :: st) σ ce sl else none | some (.inr r) => if 2 ≤ b then k es ls (.inr r :: st) σ ce sl else none | none => none) = some σ' := h
      rw [hv] at h
      cases v with
      | inl x =>
        replace h := ite_some h
        obtain ⟨hb1, h⟩ := h
        have kk := hk _ _ _ _ _ h hcs H locs lsA hH hS hloc
        match b, hb1, hd, hmore, kk with
        | 0, _, hd, hm, kk => exact lv_iload_n hx hb hd (Nat.mod_eq_of_lt (of_decide_eq_true hm)) hg kk
        | 1, _, hd, _, kk => exact lv_iload hx hb hd hg kk
        | n + 2, hb1, _, _, _ => exact absurd hb1 (by omega)
      | inr r =>
        replace h := ite_some h
        obtain ⟨hb1, h⟩ := h
        have kk := hk _ _ _ _ _ h hcs H locs lsA hH hS hloc
        match b, hb1, hd, hmore, kk with
        | 2, _, hd, hm, kk => exact lv_aload_n hx hb hd (Nat.mod_eq_of_lt (of_decide_eq_true hm)) hg kk
        | n + 3, _, hd, _, kk => exact lv_aload hx hb hd hg kk
        | 0, hb1, _, _, _ => exact absurd hb1 (by omega)
        | 1, hb1, _, _, _ => exact absurd hb1 (by omega)
  | 3, hdec, hmore, hk, h =>
    have hd := hdec.resolve_left (by decide)
    have hmore : (decide (a < nL) && idxOk b a) = true := hmore
    rw [Bool.and_eq_true] at hmore
    have ha : a < nL := of_decide_eq_true hmore.1
    have hmore := hmore.2
    cases st with
    | nil => exact no_some h
    | cons v st => cases v with
      | inr r => exact no_some h
      | inl x =>
        obtain ⟨⟨hb1, hlen⟩, hh1⟩ := ite_some h
        match b, hb1, hd, hmore, hk with
        | 0, _, hd, hm, hk => exact lv_istore_n hx hb hd (Nat.mod_eq_of_lt (of_decide_eq_true hm)) hloc.1 ha rfl (fun lsB hB => hk _ _ _ _ _ hh1 hcs H locs lsB hH hS (loc_set hloc ha hlen (.inl x) rfl hB))
        | 1, _, hd, _, hk => exact lv_istore hx hb hd hloc.1 ha rfl (fun lsB hB => hk _ _ _ _ _ hh1 hcs H locs lsB hH hS (loc_set hloc ha hlen (.inl x) rfl hB))
        | n + 2, hb1, _, _, _ => exact absurd hb1 (by omega)
  | 5, hdec, hmore, hk, h =>
    have hd := hdec.resolve_left (by decide)
    have ha : a < nL := of_decide_eq_true hmore
    have h : (match getL ls a with | some (.inl x) => k es (setL ls a (.inl (x + c0))) st σ ce sl | _ => none) = some σ' := h
    cases hv : getL ls a with
    | none => rw [hv] at h; exact no_some h
    | some v => cases v with
      | inr r => rw [hv] at h; exact no_some h
      | inl x =>
        rw [hv] at h
        have hlen : a < ls.length := by
          rw [getL_eq] at hv
          exact (List.getElem?_eq_some_iff.mp hv).1
        have hmem : (a, Value.int x) ∈ enumL 0 (ls.map (trv (adK N0))) := mem_enumL.mpr ⟨Nat.zero_le _, by rw [getL_eq] at hv; simp [hv, trv]⟩
        obtain ⟨kx, hkx⟩ := List.getElem?_of_mem hmem
        refine lv_iinc hx hb hd hloc.1 hkx (by rw [Int32_ofInt_toInt]) ha rfl (fun lsB hB => ?_)
        exact hk _ _ _ _ _ h hcs H locs lsB hH hS (loc_set hloc ha (by omega) (.inl (x + c0)) rfl hB)
  | 7, hdec, hmore, hk, h =>
    have hd := hdec.resolve_left (by decide)
    cases st with
    | nil => exact no_some h
    | cons v1 st => cases v1 with
      | inr r => exact no_some h
      | inl y => cases st with
        | nil => exact no_some h
        | cons v2 st => cases v2 with
          | inr r => exact no_some h
          | inl x =>
            obtain ⟨hb3, hh1⟩ := ite_some h
            subst hb3
            refine lv_icmp_ge hx hb hd int_tgt (fun q => ?_) (fun q => ?_)
            · rw [if_pos (toInt_le.mp q)] at hh1
              exact hj _ _ _ _ _ _ hh1 hcs H locs lsA hH hS hloc
            · rw [if_neg (fun z => q (toInt_le.mpr z))] at hh1
              exact hk _ _ _ _ _ hh1 hcs H locs lsA hH hS hloc
  | 8, hdec, hmore, hk, h =>
    have hd := hdec.resolve_left (by decide)
    exact lv_goto hx hb hd int_tgt (hj _ _ _ _ _ _ h hcs H locs lsA hH hS hloc)
  | 9, hdec, hmore, hk, h =>
    have hd := hdec.resolve_left (by decide)
    have hfl : (o, a, b, d) ∈ flT := of_decide_eq_true hmore
    match st, h with
    | .inr (q, i) :: st, hh1 =>
      have hh2 : (match getE σ (n0 + ce - 1 - i) with
        | some (.inl (cl, fs)) => if cl = b ∧ i < n0 + ce then (match fs[d]? with
          | some (some v) => k es ls (v :: st) σ ce sl
          | _ => none) else none
        | _ => none) = some σ' := hh1
      generalize he : getE σ (n0 + ce - 1 - i) = oe at hh2
      match oe, hh2 with
      | some (.inl (cl, fs)), hh3 =>
        obtain ⟨⟨hcl, hi⟩, hh4⟩ := ite_some hh3
        subst hcl
        generalize hv : fs[d]? = oo at hh4
        match oo, hh4 with
        | some (some v), hh5 => exact i_get F hfl hi (getE_app he) hv hH hd (hk _ _ _ _ _ hh5 hcs H locs lsA hH hS hloc)
        | some none, hz => exact no_some hz
        | none, hz => exact no_some hz
      | none, hz => exact no_some hz
      | some (.inr _), hz => exact no_some hz
    | [], hz => exact no_some hz
    | .inl _ :: _, hz => exact no_some hz
  | 10, hdec, hmore, hk, h =>
    have hd := hdec.resolve_left (by decide)
    have hfl : (o, a, b, d) ∈ flT := of_decide_eq_true hmore
    match st, h with
    | v :: .inr (q, i) :: st, hh1 =>
      have hh2 : (match getE σ (n0 + ce - 1 - i) with
        | some (.inl (cl, fs)) => if cl = b ∧ i < n0 + ce ∧ d < fs.length ∧ putOk ini o b d v = true then k es ls st (setE σ (n0 + ce - 1 - i) (.inl (cl, fs.set d (some v)))) ce sl else none
        | _ => none) = some σ' := by cases v <;> exact hh1
      generalize he : getE σ (n0 + ce - 1 - i) = oe at hh2
      match oe, hh2 with
      | some (.inl (cl, fs)), hh3 =>
        obtain ⟨⟨hcl, hi, hl, hp⟩, hh4⟩ := ite_some hh3
        subst hcl
        exact i_put F hfl hi (getE_app he) hl hp hH hS hd (fun H1 locs1 hH1 hS1 => hk _ _ _ _ _ hh4 hcs H1 locs1 lsA (by rw [← setE_app he]; exact hH1) hS1 hloc)
      | none, hz => exact no_some hz
      | some (.inr _), hz => exact no_some hz
    | [], hz => exact no_some hz
    | [_], hz => exact no_some hz
    | _ :: .inl _ :: _, hz => exact no_some hz
  | 11, hdec, hmore, hk, h =>
    have hd := hdec.resolve_left (by decide)
    match st, h with
    | .inl x :: .inr (q, i) :: st, hh1 =>
      have hh2 : (match getE σ (n0 + ce - 1 - i) with
        | some (.inr (t, len, .inr wr)) => if a = 2 ∧ tyA 5 = t ∧ i < n0 + ce ∧ (0 ≤ x.toInt ∧ x.toInt < (len : Int)) then (match lkR wr x.toNatClampNeg with
          | some r => k es ls (.inr (0, r) :: st) σ ce sl
          | none => none) else none
        | _ => none) = some σ' := hh1
      generalize he : getE σ (n0 + ce - 1 - i) = oe at hh2
      match oe, hh2 with
      | some (.inr (t, len, .inr wr)), hh3 =>
        obtain ⟨⟨ha, ht, hi, hin⟩, hh4⟩ := ite_some hh3
        subst ha ht
        generalize hv : lkR wr x.toNatClampNeg = oo at hh4
        match oo, hh4 with
        | some r, hh5 => exact i_aald F (b := 5) (by decide) hi (getE_app he) hin hv hH hd (hk _ _ _ _ _ hh5 hcs H locs lsA hH hS hloc)
        | none, hz => exact no_some hz
      | none, hz => exact no_some hz
      | some (.inl _), hz => exact no_some hz
      | some (.inr (_, _, .inl _)), hz => exact no_some hz
    | [], hz => exact no_some hz
    | .inr _ :: _, hz => exact no_some hz
    | [.inl _], hz => exact no_some hz
    | .inl _ :: .inl _ :: _, hz => exact no_some hz
  | 12, hdec, hmore, hk, h =>
    have hd := hdec.resolve_left (by decide)
    match st, h with
    | .inl y :: .inl x :: .inr (q, i) :: st, hh1 =>
      have hh2 : (match getE σ (n0 + ce - 1 - i) with
        | some (.inr (t, len, .inl wr)) => if a = 0 ∧ t = 0 ∧ i < n0 + ce ∧ (0 ≤ x.toInt ∧ x.toInt < (len : Int)) then k es ls st (setE σ (n0 + ce - 1 - i) (.inr (t, len, .inl ((x.toNatClampNeg, y) :: wr)))) ce sl else none
        | _ => none) = some σ' := hh1
      generalize he : getE σ (n0 + ce - 1 - i) = oe at hh2
      match oe, hh2 with
      | some (.inr (t, len, .inl wr)), hh3 =>
        obtain ⟨⟨ha, ht, hi, hin⟩, hh4⟩ := ite_some hh3
        subst ha ht
        exact i_iast F hi (getE_app he) hin hH hS hd (fun H1 locs1 hH1 hS1 => hk _ _ _ _ _ hh4 hcs H1 locs1 lsA (by rw [← setE_app he]; exact hH1) hS1 hloc)
      | none, hz => exact no_some hz
      | some (.inl _), hz => exact no_some hz
      | some (.inr (_, _, .inr _)), hz => exact no_some hz
    | .inr (q1, v) :: .inl x :: .inr (q, i) :: st, hh5 =>
      have hh6 : (match getE σ (n0 + ce - 1 - i) with
        | some (.inr (t, len, .inr wr)) => (match getE σ (n0 + ce - 1 - v) with
          | some (.inl (cl, fs)) => if a = 2 ∧ tyA cl = t ∧ t < 8 ∧ i < n0 + ce ∧ v < n0 + ce ∧ (0 ≤ x.toInt ∧ x.toInt < (len : Int)) then k es ls st (setE σ (n0 + ce - 1 - i) (.inr (t, len, .inr ((x.toNatClampNeg, v) :: wr)))) ce sl else none
          | _ => none)
        | _ => none) = some σ' := hh5
      generalize he : getE σ (n0 + ce - 1 - i) = oe at hh6
      match oe, hh6 with
      | some (.inr (t, len, .inr wr)), hh7 =>
        generalize hv : getE σ (n0 + ce - 1 - v) = ov at hh7
        match ov, hh7 with
        | some (.inl (cl, fs)), hh8 =>
          obtain ⟨⟨ha, ht, ht8, hi, hvn, hin⟩, hh9⟩ := ite_some hh8
          subst ha ht
          exact i_aast F ht8 hi (getE_app he) hin hvn (getE_app hv) hH hS hd (fun H1 locs1 hH1 hS1 => hk _ _ _ _ _ hh9 hcs H1 locs1 lsA (by rw [← setE_app he]; exact hH1) hS1 hloc)
        | none, hz => exact no_some hz
        | some (.inr _), hz => exact no_some hz
      | none, hz => exact no_some hz
      | some (.inl _), hz => exact no_some hz
      | some (.inr (_, _, .inl _)), hz => exact no_some hz
    | [], hz => exact no_some hz
    | [.inl _], hz => exact no_some hz
    | [.inr _], hz => exact no_some hz
    | .inl _ :: .inr _ :: _, hz => exact no_some hz
    | .inr _ :: .inr _ :: _, hz => exact no_some hz
    | [.inl _, .inl _], hz => exact no_some hz
    | [.inr _, .inl _], hz => exact no_some hz
    | .inl _ :: .inl _ :: .inl _ :: _, hz => exact no_some hz
    | .inr _ :: .inl _ :: .inl _ :: _, hz => exact no_some hz
  | 13, hdec, hmore, hk, h =>
    have hd := hdec.resolve_left (by decide)
    match st, h with
    | .inl y :: .inl x :: .inr (q, i) :: st, hh1 =>
      have hh2 : (match getE σ (n0 + ce - 1 - i) with
        | some (.inl (cl, fs)) => if cl = 1 ∧ o = 8 ∧ a = 41 ∧ b = 2 ∧ d = 0 ∧ i < n0 + ce ∧ st.length ≤ 8 then (match call 2 [.inr (0, i), .inl x, .inl y] σ (n0 + ce) with
          | some σ2 => k es ls st σ2 ce sl
          | none => none) else none
        | _ => none) = some σ' := hh1
      generalize he : getE σ (n0 + ce - 1 - i) = oe at hh2
      match oe, hh2 with
      | some (.inl (cl, fs)), hh3 =>
        obtain ⟨⟨hcl, ho, ha, hb11, hd0, hi, hlen⟩, hh4⟩ := ite_some hh3
        subst hcl ha hb11 hd0
        generalize hc : call 2 [.inr (0, i), .inl x, .inl y] σ (n0 + ce) = oo at hh4
        match oo, hh4 with
        | some σ2, hh5 =>
          obtain ⟨f, hf1, hf2, hM⟩ := hcall _ _ _ _ _ hc
          exact i_become F ho hi (getE_app he) hM hf1 hf2 ⟨Nat.le_trans hcs.1 hmc.1, Nat.le_trans hcs.2 hmc.2⟩ hlen hH hS hsz hd (fun H1 locs1 hH1 hS1 => hk _ _ _ _ _ hh5 hcs H1 locs1 lsA hH1 hS1 hloc)
        | none, hz => exact no_some hz
      | none, hz => exact no_some hz
      | some (.inr _), hz => exact no_some hz
    | [], hz => exact no_some hz
    | .inr _ :: _, hz => exact no_some hz
    | [.inl _], hz => exact no_some hz
    | .inl _ :: .inr _ :: _, hz => exact no_some hz
    | [.inl _, .inl _], hz => exact no_some hz
    | .inl _ :: .inl _ :: .inl _ :: _, hz => exact no_some hz
  | 14, hdec, hmore, hk, h =>
    have hd := hdec.resolve_left (by decide)
    obtain ⟨⟨ha, hst, hce, hsl⟩, hh1⟩ := ite_some h
    subst ha hce hsl
    cases hh1
    match st, hst with
    | [], _ => exact hR H locs lsA pc hH hS hd
  | 15, hdec, hmore, hk, h =>
    have hd := hdec.resolve_left (by decide)
    match st, h with
    | v :: st, hh => exact lv_dup hx hb hd (trv_cat _ v) (hk _ _ _ _ _ hh hcs H locs lsA hH hS hloc)
    | [], hz => exact no_some hz
  | 21, hdec, hmore, hk, h =>
    have hd := hdec.resolve_left (by decide)
    obtain ⟨⟨h1, h2, h3, h4⟩, hh1⟩ := ite_some h
    exact i_new F h1 h2 hH hS (Nat.le_trans h3 hmc.1) (Nat.le_trans h4 hmc.2) hd (fun H1 hH1 hS1 => hk _ _ _ _ _ hh1 ⟨h3, h4⟩ H1 locs lsA hH1 hS1 hloc)
  | 22, hdec, hmore, hk, h =>
    have hd := hdec.resolve_left (by decide)
    match st, h with
    | .inl x :: st, hh1 =>
      obtain ⟨⟨h1, h2, h3, h4⟩, hh2⟩ := ite_some hh1
      exact i_newa F h1 h2.1 h2.2 hH hS (Nat.le_trans h3 hmc.1) (Nat.le_trans h4 hmc.2) hd (fun H1 hH1 hS1 => hk _ _ _ _ _ hh2 ⟨h3, h4⟩ H1 locs lsA hH1 hS1 hloc)
    | [], hz => exact no_some hz
    | .inr _ :: _, hz => exact no_some hz
  | 23, hdec, hmore, hk, h =>
    have hd := hdec.resolve_left (by decide)
    match st, h with
    | .inl x :: st, hh1 =>
      obtain ⟨⟨h1, h2, h3, h4⟩, hh2⟩ := ite_some hh1
      exact i_newq F h1.1 h1.2 h2.1 h2.2 hH hS (Nat.le_trans h3 hmc.1) (Nat.le_trans h4 hmc.2) hd (fun H1 hH1 hS1 => hk _ _ _ _ _ hh2 ⟨h3, h4⟩ H1 locs lsA hH1 hS1 hloc)
    | [], hz => exact no_some hz
    | .inr _ :: _, hz => exact no_some hz
  | 24, hdec, hmore, hk, h =>
    have hd := hdec.resolve_left (by decide)
    match st, h with
    | .inr (q, i) :: st, hh1 =>
      have hh2 : (if b = 999 then (if (o, a) ∈ obT ∧ st.length ≤ 8 then k es ls st σ ce sl else none)
        else if (o, a, b, d) ∈ icT ∧ (d = 0 ∨ d = 1) ∧ (ce + (mcT b).1 ≤ mc ∧ sl + (mcT b).2 ≤ ms) ∧ st.length ≤ 8 then (match call b [.inr (0, i)] σ (n0 + ce) with
          | some σ2 => k es ls st σ2 (ce + (mcT b).1) (sl + (mcT b).2)
          | none => none) else none) = some σ' := hh1
      by_cases hb9 : b = 999
      · rw [if_pos hb9] at hh2
        obtain ⟨⟨ho, hlen⟩, hh3⟩ := ite_some hh2
        refine W.objInit hx hb hown (hT.use (obT_ok _ ho)) (hT.use obi_ok.1) (hT.use obi_ok.2) rfl (by rw [hmlc]; exact hsz) rfl hd hmin.1 ?_ ?_
        · show 2 * 0 + ((st.map (trv (adK N0))).map fun v => v.category).sum + 12 ≤ _
          rw [cat_sum]
          omega
        · exact hk _ _ _ _ _ hh3 hcs H locs lsA hH hS hloc
      · rw [if_neg hb9] at hh2
        obtain ⟨⟨hic, hd2, hm2, hlen⟩, hh4⟩ := ite_some hh2
        generalize hc : call b [.inr (0, i)] σ (n0 + ce) = oo at hh4
        match oo, hh4 with
        | some σ2, hh5 =>
          obtain ⟨f, hf1, hf2, hM⟩ := hcall _ _ _ _ _ hc
          exact i_init F hic hd2 hM hf1 hf2 ⟨Nat.le_trans hm2.1 hmc.1, Nat.le_trans hm2.2 hmc.2⟩ hlen hH hS hsz hd (fun H1 locs1 hH1 hS1 => hk _ _ _ _ _ hh5 hm2 H1 locs1 lsA (by rw [← Nat.add_assoc]; exact hH1) hS1 hloc)
        | none, hz => exact no_some hz
    | [], hz => exact no_some hz
    | .inl _ :: _, hz => exact no_some hz
  | 4, _, _, _, h => exact no_some h
  | 6, _, _, _, h => exact no_some h
  | 16, _, _, _, h => exact no_some h
  | 17, _, _, _, h => exact no_some h
  | 18, _, _, _, h => exact no_some h
  | 19, _, _, _, h => exact no_some h
  | 20, _, _, _, h => exact no_some h
  | n + 25, _, _, _, h => exact no_some h
end MK3
