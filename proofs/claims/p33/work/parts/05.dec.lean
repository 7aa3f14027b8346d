/-! THE CODE TABLES AGAINST THE BYTES: each entry is what stands at its place, and its links are the tables' -/
def cndOf (b : Nat) : ClassFile.Cond := match b with
  | 0 => .eq | 1 => .ne | 2 => .lt | 3 => .ge | 4 => .gt | _ => .le
def f4 (a : Nat) : Fin 4 := Fin.ofNat 4 a
def atOf (a : Nat) : ArrayType := match a with
  | 0 => .int | 1 => .boolean | _ => .byte
def instrOf (e : Ent) : Instr × Nat := match e with
  | (pc, (op, a, b, d), c, cs) => match op with
    | 1 => (match b with
      | 0 => (.iconst c.toInt, 1) | 1 => (.bipush c.toInt, 2) | 2 => (.sipush c.toInt, 3) | 3 => (.ldc_w a, 3) | _ => (.ldc a, 2))
    | 2 => (match b with
      | 0 => (.iload_n (f4 a), 1) | 1 => (.iload a, 2) | 2 => (.aload_n (f4 a), 1) | _ => (.aload a, 2))
    | 3 => (match b with
      | 0 => (.istore_n (f4 a), 1) | 1 => (.istore a, 2) | 2 => (.astore_n (f4 a), 1) | _ => (.astore a, 2))
    | 4 => (match a with
      | 0 => (.iadd, 1) | 1 => (.isub, 1) | 2 => (.imul, 1) | 3 => (.idiv, 1) | 4 => (.irem, 1) | 5 => (.iand, 1) | 6 => (.iushr, 1) | 7 => (.ixor, 1) | 8 => (.ishr, 1) | _ => (.ishl, 1))
    | 5 => (.iinc a c.toInt, 3)
    | 6 => (.ifCond (cndOf b) ((a : Int) - (pc : Int)), 3)
    | 7 => (.if_icmp (cndOf b) ((a : Int) - (pc : Int)), 3)
    | 8 => (.goto ((a : Int) - (pc : Int)), 3)
    | 9 => (.getfield a, 3)
    | 10 => (.putfield a, 3)
    | 11 => (match a with | 0 => (.iaload, 1) | 1 => (.baload, 1) | _ => (.aaload, 1))
    | 12 => (match a with | 0 => (.iastore, 1) | 1 => (.bastore, 1) | _ => (.aastore, 1))
    | 13 => (match d with | 0 => (.invokevirtual a, 3) | _ => (.invokestatic a, 3))
    | 14 => (match a with | 0 => (.ireturn, 1) | _ => (.return_, 1))
    | 15 => (.dup, 1)
    | 16 => (.dup2, 1)
    | 17 => (.i2b, 1)
    | 18 => (match d with
      | 0 => (.tableswitch ((a : Int) - (pc : Int)) ((cs.head?.getD (0, 0)).1 : Int) (((cs.getLast?).getD (0, 0)).1 : Int) (cs.map fun q => (q.2 : Int) - (pc : Int)).toArray, b)
      | _ => (.lookupswitch ((a : Int) - (pc : Int)) (cs.map fun q => ((q.1 : Int), (q.2 : Int) - (pc : Int))).toArray, b))
    | 19 => (.arraylength, 1)
    | 20 => (.invokestatic a, 3)
    | 21 => (.new a, 3)
    | 22 => (.newarray (atOf a), 2)
    | 23 => (.anewarray a, 3)
    | 24 => (.invokespecial a, 3)
    | 25 => (.invokestatic a, 3)
    | 26 => (.ldc2_w a, 3)
    | 27 => (.i2l, 1)
    | 28 => (.lmul, 1)
    | 29 => (.ladd, 1)
    | 30 => (.lcmp, 1)
    | 31 => (match b with | 0 => (.lload_n (f4 a), 1) | _ => (.lload a, 2))
    | 32 => (match b with | 0 => (.lstore_n (f4 a), 1) | _ => (.lstore a, 2))
    | 33 => (.lreturn, 1)
    | _ => (.pop, 1)
def initL : List Nat := [0, 1, 8, 13, 18, 29, 31, 36, 46, 80]
/-- what else an entry's place in the class wants: o its class, nL the locals -/
def moreOk (o nL : Nat) (e : Ent) : Bool := match e with
  | (pc, (op, a, b, d), c, cs) => match op with
    | 1 => (match b with
      | 0 => true | 1 => decide ((Int8.ofInt c.toInt).toInt32 = c) | 2 => decide ((Int16.ofInt c.toInt).toInt32 = c) | 3 => decide ((o, a, c) ∈ [(25, 265, (1431655765 : Int32)), (25, 266, 858993459), (25, 267, 252645135)]) | _ => decide ((o, a, c) ∈ [(24, 7, (763049417 : Int32)), (24, 8, 2147483647)]))
    | 2 => (match b with
      | 0 => decide (a < 4) | 1 => true | 2 => decide (a < 4) | _ => true)
    | 3 => decide (a < nL) && (match b with
      | 0 => decide (a < 4) | 1 => true | 2 => decide (a < 4) | _ => true)
    | 5 => decide (a < nL)
    | 6 => decide (b < 6)
    | 7 => decide (b < 6)
    | 9 => decide ((o, a, b, d) ∈ flT)
    | 10 => decide ((o, a, b, d) ∈ flT)
    | 13 => decide ((o, a, b, (if d = 2 then 1 else 0)) ∈ mlT) && (decide (cs = [((mRow b).2.2.2.2.2.1, (mRow b).2.2.2.2.1)]) && (decide ((mRow b).2.2.2.2.2.2 = decide (¬ d = 0)) && decide (b ∉ initL)))
    | 18 => (match d with
      | 0 => decide (cs.map (fun q => q.1) = (List.range' (cs.head?.getD (0, 0)).1 cs.length)) && decide (cs ≠ [])
      | _ => ((cs.map fun q => ((q.1 : Int), (q.2 : Int) - (pc : Int))).zip ((cs.map fun q => ((q.1 : Int), (q.2 : Int) - (pc : Int))).drop 1)).all (fun (a, next) => a.1 < next.1)) && cs.all (fun q => decide (q.1 < 1000))
    | 20 => decide ((o, a) = (7, 22))
    | _ => true
def entOk (o nL : Nat) (cc : ByteArray) (e : Ent) : Bool := (decide (e.2.1.1 = 0) || decide (decode cc e.1 = .ok (instrOf e))) && moreOk o nL e
def nextPc (e : Ent) : Nat := if e.2.1.1 = 0 then e.1 else e.1 + (instrOf e).2
def chainOk : List Ent → Bool
  | [] => true
  | [_] => true
  | e :: f :: es => (f.1 == nextPc e) && chainOk (f :: es)
def rtN (t : Option FieldType) : Nat := match t with
  | some .int => 0
  | some .boolean => 1
  | none => 2
  | _ => 9
def mdOk (m : Nat) : Prop := (codT m).all (entOk (mRow m).2.2.2.2.1 (mRow m).2.2.1 (mRow m).2.1) = true ∧ chainOk (codT m) = true ∧ rtN (mRow m).2.2.2.1 = retT m ∧ ∃ e es, codT m = e :: es ∧ e.1 = 0
def moreOkL (nL : Nat) (e : Ent) : Bool := match e with
  | (pc, (op, a, b, d), c, cs) => match op with
    | 25 => decide ((24, a, b, 0) ∈ mlT2) && (decide (cs = [((mRow b).2.2.2.2.2.1, 0)]) && (decide ((mRow b).2.2.2.2.2.2 = true) && decide ((mRow b).2.2.2.2.1 = 24)))
    | 26 => decide ((a, c) ∈ [(9, (7 : Int32)), (11, 31)])
    | 31 => (match b with | 0 => decide (a < 4) | _ => true)
    | 32 => decide (a + 1 < nL) && (match b with | 0 => decide (a < 4) | _ => true)
    | _ => moreOk 24 nL e
def entOkL (nL : Nat) (cc : ByteArray) (e : Ent) : Bool := (decide (e.2.1.1 = 0) || decide (decode cc e.1 = .ok (instrOf e))) && moreOkL nL e
def rtL (t : Option FieldType) : Nat := match t with
  | some .int => 0
  | some .boolean => 1
  | some .long => 3
  | _ => 9
def mdOkL (m : Nat) : Prop := (colT m).all (entOkL (mRow m).2.2.1 (mRow m).2.1) = true ∧ chainOk (colT m) = true ∧ rtL (mRow m).2.2.2.1 = retT m ∧ ∃ e es, colT m = e :: es ∧ e.1 = 0
set_option maxRecDepth 100000 in
theorem ea_X0_init : co_X0_init.all (entOk (mRow m_X0_init).2.2.2.2.1 (mRow m_X0_init).2.2.1 (mRow m_X0_init).2.1) = true := by decide +kernel
theorem md_X0_init : mdOk m_X0_init := ⟨ea_X0_init, by decide +kernel, by decide +kernel, _, _, rfl, rfl⟩
set_option maxRecDepth 100000 in
theorem ea_X1_init : co_X1_init.all (entOk (mRow m_X1_init).2.2.2.2.1 (mRow m_X1_init).2.2.1 (mRow m_X1_init).2.1) = true := by decide +kernel
theorem md_X1_init : mdOk m_X1_init := ⟨ea_X1_init, by decide +kernel, by decide +kernel, _, _, rfl, rfl⟩
set_option maxRecDepth 100000 in
theorem ea_X1_become : co_X1_become.all (entOk (mRow m_X1_become).2.2.2.2.1 (mRow m_X1_become).2.2.1 (mRow m_X1_become).2.1) = true := by decide +kernel
theorem md_X1_become : mdOk m_X1_become := ⟨ea_X1_become, by decide +kernel, by decide +kernel, _, _, rfl, rfl⟩
set_option maxRecDepth 100000 in
theorem ea_X1_copyFrom : co_X1_copyFrom.all (entOk (mRow m_X1_copyFrom).2.2.2.2.1 (mRow m_X1_copyFrom).2.2.1 (mRow m_X1_copyFrom).2.1) = true := by decide +kernel
theorem md_X1_copyFrom : mdOk m_X1_copyFrom := ⟨ea_X1_copyFrom, by decide +kernel, by decide +kernel, _, _, rfl, rfl⟩
set_option maxRecDepth 100000 in
theorem ea_X1_isAt : co_X1_isAt.all (entOk (mRow m_X1_isAt).2.2.2.2.1 (mRow m_X1_isAt).2.2.1 (mRow m_X1_isAt).2.1) = true := by decide +kernel
theorem md_X1_isAt : mdOk m_X1_isAt := ⟨ea_X1_isAt, by decide +kernel, by decide +kernel, _, _, rfl, rfl⟩
set_option maxRecDepth 100000 in
theorem ea_X1_has : co_X1_has.all (entOk (mRow m_X1_has).2.2.2.2.1 (mRow m_X1_has).2.2.1 (mRow m_X1_has).2.1) = true := by decide +kernel
theorem md_X1_has : mdOk m_X1_has := ⟨ea_X1_has, by decide +kernel, by decide +kernel, _, _, rfl, rfl⟩
set_option maxRecDepth 100000 in
theorem ea_X1_holds : co_X1_holds.all (entOk (mRow m_X1_holds).2.2.2.2.1 (mRow m_X1_holds).2.2.1 (mRow m_X1_holds).2.1) = true := by decide +kernel
theorem md_X1_holds : mdOk m_X1_holds := ⟨ea_X1_holds, by decide +kernel, by decide +kernel, _, _, rfl, rfl⟩
set_option maxRecDepth 100000 in
theorem ea_X1_meets : co_X1_meets.all (entOk (mRow m_X1_meets).2.2.2.2.1 (mRow m_X1_meets).2.2.1 (mRow m_X1_meets).2.1) = true := by decide +kernel
theorem md_X1_meets : mdOk m_X1_meets := ⟨ea_X1_meets, by decide +kernel, by decide +kernel, _, _, rfl, rfl⟩
set_option maxRecDepth 100000 in
theorem ea_X2_init : co_X2_init.all (entOk (mRow m_X2_init).2.2.2.2.1 (mRow m_X2_init).2.2.1 (mRow m_X2_init).2.1) = true := by decide +kernel
theorem md_X2_init : mdOk m_X2_init := ⟨ea_X2_init, by decide +kernel, by decide +kernel, _, _, rfl, rfl⟩
set_option maxRecDepth 100000 in
theorem ea_X2_become : co_X2_become.all (entOk (mRow m_X2_become).2.2.2.2.1 (mRow m_X2_become).2.2.1 (mRow m_X2_become).2.1) = true := by decide +kernel
theorem md_X2_become : mdOk m_X2_become := ⟨ea_X2_become, by decide +kernel, by decide +kernel, _, _, rfl, rfl⟩
set_option maxRecDepth 100000 in
theorem ea_X2_copyFrom : co_X2_copyFrom.all (entOk (mRow m_X2_copyFrom).2.2.2.2.1 (mRow m_X2_copyFrom).2.2.1 (mRow m_X2_copyFrom).2.1) = true := by decide +kernel
theorem md_X2_copyFrom : mdOk m_X2_copyFrom := ⟨ea_X2_copyFrom, by decide +kernel, by decide +kernel, _, _, rfl, rfl⟩
set_option maxRecDepth 100000 in
theorem ea_X2_isHolding : co_X2_isHolding.all (entOk (mRow m_X2_isHolding).2.2.2.2.1 (mRow m_X2_isHolding).2.2.1 (mRow m_X2_isHolding).2.1) = true := by decide +kernel
theorem md_X2_isHolding : mdOk m_X2_isHolding := ⟨ea_X2_isHolding, by decide +kernel, by decide +kernel, _, _, rfl, rfl⟩
set_option maxRecDepth 100000 in
theorem ea_X2_property : co_X2_property.all (entOk (mRow m_X2_property).2.2.2.2.1 (mRow m_X2_property).2.2.1 (mRow m_X2_property).2.1) = true := by decide +kernel
theorem md_X2_property : mdOk m_X2_property := ⟨ea_X2_property, by decide +kernel, by decide +kernel, _, _, rfl, rfl⟩
set_option maxRecDepth 100000 in
theorem ea_X3_init : co_X3_init.all (entOk (mRow m_X3_init).2.2.2.2.1 (mRow m_X3_init).2.2.1 (mRow m_X3_init).2.1) = true := by decide +kernel
theorem md_X3_init : mdOk m_X3_init := ⟨ea_X3_init, by decide +kernel, by decide +kernel, _, _, rfl, rfl⟩
set_option maxRecDepth 100000 in
theorem ea_X3_row : co_X3_row.all (entOk (mRow m_X3_row).2.2.2.2.1 (mRow m_X3_row).2.2.1 (mRow m_X3_row).2.1) = true := by decide +kernel
theorem md_X3_row : mdOk m_X3_row := ⟨ea_X3_row, by decide +kernel, by decide +kernel, _, _, rfl, rfl⟩
set_option maxRecDepth 100000 in
theorem ea_X3_draft : co_X3_draft.all (entOk (mRow m_X3_draft).2.2.2.2.1 (mRow m_X3_draft).2.2.1 (mRow m_X3_draft).2.1) = true := by decide +kernel
theorem md_X3_draft : mdOk m_X3_draft := ⟨ea_X3_draft, by decide +kernel, by decide +kernel, _, _, rfl, rfl⟩
set_option maxRecDepth 100000 in
theorem ea_X3_keepDraft : co_X3_keepDraft.all (entOk (mRow m_X3_keepDraft).2.2.2.2.1 (mRow m_X3_keepDraft).2.2.1 (mRow m_X3_keepDraft).2.1) = true := by decide +kernel
theorem md_X3_keepDraft : mdOk m_X3_keepDraft := ⟨ea_X3_keepDraft, by decide +kernel, by decide +kernel, _, _, rfl, rfl⟩
set_option maxRecDepth 100000 in
theorem ea_X3_takeLatest : co_X3_takeLatest.all (entOk (mRow m_X3_takeLatest).2.2.2.2.1 (mRow m_X3_takeLatest).2.2.1 (mRow m_X3_takeLatest).2.1) = true := by decide +kernel
theorem md_X3_takeLatest : mdOk m_X3_takeLatest := ⟨ea_X3_takeLatest, by decide +kernel, by decide +kernel, _, _, rfl, rfl⟩
set_option maxRecDepth 100000 in
theorem ea_X4_init : co_X4_init.all (entOk (mRow m_X4_init).2.2.2.2.1 (mRow m_X4_init).2.2.1 (mRow m_X4_init).2.1) = true := by decide +kernel
theorem md_X4_init : mdOk m_X4_init := ⟨ea_X4_init, by decide +kernel, by decide +kernel, _, _, rfl, rfl⟩
set_option maxRecDepth 100000 in
theorem ea_X4_start : co_X4_start.all (entOk (mRow m_X4_start).2.2.2.2.1 (mRow m_X4_start).2.2.1 (mRow m_X4_start).2.1) = true := by decide +kernel
theorem md_X4_start : mdOk m_X4_start := ⟨ea_X4_start, by decide +kernel, by decide +kernel, _, _, rfl, rfl⟩
set_option maxRecDepth 100000 in
theorem ea_X4_copyFrom : co_X4_copyFrom.all (entOk (mRow m_X4_copyFrom).2.2.2.2.1 (mRow m_X4_copyFrom).2.2.1 (mRow m_X4_copyFrom).2.1) = true := by decide +kernel
theorem md_X4_copyFrom : mdOk m_X4_copyFrom := ⟨ea_X4_copyFrom, by decide +kernel, by decide +kernel, _, _, rfl, rfl⟩
set_option maxRecDepth 100000 in
theorem ea_X4_isPlace : co_X4_isPlace.all (entOk (mRow m_X4_isPlace).2.2.2.2.1 (mRow m_X4_isPlace).2.2.1 (mRow m_X4_isPlace).2.1) = true := by decide +kernel
theorem md_X4_isPlace : mdOk m_X4_isPlace := ⟨ea_X4_isPlace, by decide +kernel, by decide +kernel, _, _, rfl, rfl⟩
set_option maxRecDepth 100000 in
theorem ea_X4_property : co_X4_property.all (entOk (mRow m_X4_property).2.2.2.2.1 (mRow m_X4_property).2.2.1 (mRow m_X4_property).2.1) = true := by decide +kernel
theorem md_X4_property : mdOk m_X4_property := ⟨ea_X4_property, by decide +kernel, by decide +kernel, _, _, rfl, rfl⟩
set_option maxRecDepth 100000 in
theorem ea_X4_moveToFront : co_X4_moveToFront.all (entOk (mRow m_X4_moveToFront).2.2.2.2.1 (mRow m_X4_moveToFront).2.2.1 (mRow m_X4_moveToFront).2.1) = true := by decide +kernel
theorem md_X4_moveToFront : mdOk m_X4_moveToFront := ⟨ea_X4_moveToFront, by decide +kernel, by decide +kernel, _, _, rfl, rfl⟩
set_option maxRecDepth 100000 in
theorem ea_X4_drop : co_X4_drop.all (entOk (mRow m_X4_drop).2.2.2.2.1 (mRow m_X4_drop).2.2.1 (mRow m_X4_drop).2.1) = true := by decide +kernel
theorem md_X4_drop : mdOk m_X4_drop := ⟨ea_X4_drop, by decide +kernel, by decide +kernel, _, _, rfl, rfl⟩
set_option maxRecDepth 100000 in
theorem ea_X4_dropEnded : co_X4_dropEnded.all (entOk (mRow m_X4_dropEnded).2.2.2.2.1 (mRow m_X4_dropEnded).2.2.1 (mRow m_X4_dropEnded).2.1) = true := by decide +kernel
theorem md_X4_dropEnded : mdOk m_X4_dropEnded := ⟨ea_X4_dropEnded, by decide +kernel, by decide +kernel, _, _, rfl, rfl⟩
set_option maxRecDepth 100000 in
theorem ea_X4_placeOfSite : co_X4_placeOfSite.all (entOk (mRow m_X4_placeOfSite).2.2.2.2.1 (mRow m_X4_placeOfSite).2.2.1 (mRow m_X4_placeOfSite).2.1) = true := by decide +kernel
theorem md_X4_placeOfSite : mdOk m_X4_placeOfSite := ⟨ea_X4_placeOfSite, by decide +kernel, by decide +kernel, _, _, rfl, rfl⟩
set_option maxRecDepth 100000 in
theorem ea_X4_placeOfSmallest : co_X4_placeOfSmallest.all (entOk (mRow m_X4_placeOfSmallest).2.2.2.2.1 (mRow m_X4_placeOfSmallest).2.2.1 (mRow m_X4_placeOfSmallest).2.1) = true := by decide +kernel
theorem md_X4_placeOfSmallest : mdOk m_X4_placeOfSmallest := ⟨ea_X4_placeOfSmallest, by decide +kernel, by decide +kernel, _, _, rfl, rfl⟩
set_option maxRecDepth 100000 in
theorem ea_X4_addMap : co_X4_addMap.all (entOk (mRow m_X4_addMap).2.2.2.2.1 (mRow m_X4_addMap).2.2.1 (mRow m_X4_addMap).2.1) = true := by decide +kernel
theorem md_X4_addMap : mdOk m_X4_addMap := ⟨ea_X4_addMap, by decide +kernel, by decide +kernel, _, _, rfl, rfl⟩
set_option maxRecDepth 100000 in
theorem ea_X5_init : co_X5_init.all (entOk (mRow m_X5_init).2.2.2.2.1 (mRow m_X5_init).2.2.1 (mRow m_X5_init).2.1) = true := by decide +kernel
theorem md_X5_init : mdOk m_X5_init := ⟨ea_X5_init, by decide +kernel, by decide +kernel, _, _, rfl, rfl⟩
set_option maxRecDepth 100000 in
theorem ea_X5_copyFrom : co_X5_copyFrom.all (entOk (mRow m_X5_copyFrom).2.2.2.2.1 (mRow m_X5_copyFrom).2.2.1 (mRow m_X5_copyFrom).2.1) = true := by decide +kernel
theorem md_X5_copyFrom : mdOk m_X5_copyFrom := ⟨ea_X5_copyFrom, by decide +kernel, by decide +kernel, _, _, rfl, rfl⟩
set_option maxRecDepth 100000 in
theorem ea_X6_init : co_X6_init.all (entOk (mRow m_X6_init).2.2.2.2.1 (mRow m_X6_init).2.2.1 (mRow m_X6_init).2.1) = true := by decide +kernel
theorem md_X6_init : mdOk m_X6_init := ⟨ea_X6_init, by decide +kernel, by decide +kernel, _, _, rfl, rfl⟩
set_option maxRecDepth 100000 in
theorem ea_X6_start : co_X6_start.all (entOk (mRow m_X6_start).2.2.2.2.1 (mRow m_X6_start).2.2.1 (mRow m_X6_start).2.1) = true := by decide +kernel
theorem md_X6_start : mdOk m_X6_start := ⟨ea_X6_start, by decide +kernel, by decide +kernel, _, _, rfl, rfl⟩
set_option maxRecDepth 100000 in
theorem ea_X6_copyFrom : co_X6_copyFrom.all (entOk (mRow m_X6_copyFrom).2.2.2.2.1 (mRow m_X6_copyFrom).2.2.1 (mRow m_X6_copyFrom).2.1) = true := by decide +kernel
theorem md_X6_copyFrom : mdOk m_X6_copyFrom := ⟨ea_X6_copyFrom, by decide +kernel, by decide +kernel, _, _, rfl, rfl⟩
set_option maxRecDepth 100000 in
theorem ea_X6_isRegistered : co_X6_isRegistered.all (entOk (mRow m_X6_isRegistered).2.2.2.2.1 (mRow m_X6_isRegistered).2.2.1 (mRow m_X6_isRegistered).2.1) = true := by decide +kernel
theorem md_X6_isRegistered : mdOk m_X6_isRegistered := ⟨ea_X6_isRegistered, by decide +kernel, by decide +kernel, _, _, rfl, rfl⟩
set_option maxRecDepth 100000 in
theorem ea_X6_isUp : co_X6_isUp.all (entOk (mRow m_X6_isUp).2.2.2.2.1 (mRow m_X6_isUp).2.2.1 (mRow m_X6_isUp).2.1) = true := by decide +kernel
theorem md_X6_isUp : mdOk m_X6_isUp := ⟨ea_X6_isUp, by decide +kernel, by decide +kernel, _, _, rfl, rfl⟩
set_option maxRecDepth 100000 in
theorem ea_X7_init : co_X7_init.all (entOk (mRow m_X7_init).2.2.2.2.1 (mRow m_X7_init).2.2.1 (mRow m_X7_init).2.1) = true := by decide +kernel
theorem md_X7_init : mdOk m_X7_init := ⟨ea_X7_init, by decide +kernel, by decide +kernel, _, _, rfl, rfl⟩
set_option maxRecDepth 100000 in
theorem ea_X7_copyFrom : co_X7_copyFrom.all (entOk (mRow m_X7_copyFrom).2.2.2.2.1 (mRow m_X7_copyFrom).2.2.1 (mRow m_X7_copyFrom).2.1) = true := by decide +kernel
theorem md_X7_copyFrom : mdOk m_X7_copyFrom := ⟨ea_X7_copyFrom, by decide +kernel, by decide +kernel, _, _, rfl, rfl⟩
set_option maxRecDepth 100000 in
theorem ea_X7_fill : co_X7_fill.all (entOk (mRow m_X7_fill).2.2.2.2.1 (mRow m_X7_fill).2.2.1 (mRow m_X7_fill).2.1) = true := by decide +kernel
theorem md_X7_fill : mdOk m_X7_fill := ⟨ea_X7_fill, by decide +kernel, by decide +kernel, _, _, rfl, rfl⟩
set_option maxRecDepth 100000 in
theorem ea_X7_propertyOf : co_X7_propertyOf.all (entOk (mRow m_X7_propertyOf).2.2.2.2.1 (mRow m_X7_propertyOf).2.2.1 (mRow m_X7_propertyOf).2.1) = true := by decide +kernel
theorem md_X7_propertyOf : mdOk m_X7_propertyOf := ⟨ea_X7_propertyOf, by decide +kernel, by decide +kernel, _, _, rfl, rfl⟩
set_option maxRecDepth 100000 in
theorem ea_X7_isEmpty : co_X7_isEmpty.all (entOk (mRow m_X7_isEmpty).2.2.2.2.1 (mRow m_X7_isEmpty).2.2.1 (mRow m_X7_isEmpty).2.1) = true := by decide +kernel
theorem md_X7_isEmpty : mdOk m_X7_isEmpty := ⟨ea_X7_isEmpty, by decide +kernel, by decide +kernel, _, _, rfl, rfl⟩
set_option maxRecDepth 100000 in
theorem ea_X7_areEmpty : co_X7_areEmpty.all (entOk (mRow m_X7_areEmpty).2.2.2.2.1 (mRow m_X7_areEmpty).2.2.1 (mRow m_X7_areEmpty).2.1) = true := by decide +kernel
theorem md_X7_areEmpty : mdOk m_X7_areEmpty := ⟨ea_X7_areEmpty, by decide +kernel, by decide +kernel, _, _, rfl, rfl⟩
set_option maxRecDepth 100000 in
theorem ea_X7_have : co_X7_have.all (entOk (mRow m_X7_have).2.2.2.2.1 (mRow m_X7_have).2.2.1 (mRow m_X7_have).2.1) = true := by decide +kernel
theorem md_X7_have : mdOk m_X7_have := ⟨ea_X7_have, by decide +kernel, by decide +kernel, _, _, rfl, rfl⟩
set_option maxRecDepth 100000 in
theorem ea_X7_lowestPriority : co_X7_lowestPriority.all (entOk (mRow m_X7_lowestPriority).2.2.2.2.1 (mRow m_X7_lowestPriority).2.2.1 (mRow m_X7_lowestPriority).2.1) = true := by decide +kernel
theorem md_X7_lowestPriority : mdOk m_X7_lowestPriority := ⟨ea_X7_lowestPriority, by decide +kernel, by decide +kernel, _, _, rfl, rfl⟩
set_option maxRecDepth 100000 in
theorem ea_X7_weightThatCounts : co_X7_weightThatCounts.all (entOk (mRow m_X7_weightThatCounts).2.2.2.2.1 (mRow m_X7_weightThatCounts).2.2.1 (mRow m_X7_weightThatCounts).2.1) = true := by decide +kernel
theorem md_X7_weightThatCounts : mdOk m_X7_weightThatCounts := ⟨ea_X7_weightThatCounts, by decide +kernel, by decide +kernel, _, _, rfl, rfl⟩
set_option maxRecDepth 100000 in
theorem ea_X7_placeFor : co_X7_placeFor.all (entOk (mRow m_X7_placeFor).2.2.2.2.1 (mRow m_X7_placeFor).2.2.1 (mRow m_X7_placeFor).2.1) = true := by decide +kernel
theorem md_X7_placeFor : mdOk m_X7_placeFor := ⟨ea_X7_placeFor, by decide +kernel, by decide +kernel, _, _, rfl, rfl⟩
set_option maxRecDepth 100000 in
theorem ea_X8_init : co_X8_init.all (entOk (mRow m_X8_init).2.2.2.2.1 (mRow m_X8_init).2.2.1 (mRow m_X8_init).2.1) = true := by decide +kernel
theorem md_X8_init : mdOk m_X8_init := ⟨ea_X8_init, by decide +kernel, by decide +kernel, _, _, rfl, rfl⟩
set_option maxRecDepth 100000 in
theorem ea_X8_copyFrom : co_X8_copyFrom.all (entOk (mRow m_X8_copyFrom).2.2.2.2.1 (mRow m_X8_copyFrom).2.2.1 (mRow m_X8_copyFrom).2.1) = true := by decide +kernel
theorem md_X8_copyFrom : mdOk m_X8_copyFrom := ⟨ea_X8_copyFrom, by decide +kernel, by decide +kernel, _, _, rfl, rfl⟩
set_option maxRecDepth 100000 in
theorem ea_X8_isServer : co_X8_isServer.all (entOk (mRow m_X8_isServer).2.2.2.2.1 (mRow m_X8_isServer).2.2.1 (mRow m_X8_isServer).2.1) = true := by decide +kernel
theorem md_X8_isServer : mdOk m_X8_isServer := ⟨ea_X8_isServer, by decide +kernel, by decide +kernel, _, _, rfl, rfl⟩
set_option maxRecDepth 100000 in
theorem ea_X8_isSite : co_X8_isSite.all (entOk (mRow m_X8_isSite).2.2.2.2.1 (mRow m_X8_isSite).2.2.1 (mRow m_X8_isSite).2.1) = true := by decide +kernel
theorem md_X8_isSite : mdOk m_X8_isSite := ⟨ea_X8_isSite, by decide +kernel, by decide +kernel, _, _, rfl, rfl⟩
set_option maxRecDepth 100000 in
theorem ea_X8_isRouter : co_X8_isRouter.all (entOk (mRow m_X8_isRouter).2.2.2.2.1 (mRow m_X8_isRouter).2.2.1 (mRow m_X8_isRouter).2.1) = true := by decide +kernel
theorem md_X8_isRouter : mdOk m_X8_isRouter := ⟨ea_X8_isRouter, by decide +kernel, by decide +kernel, _, _, rfl, rfl⟩
set_option maxRecDepth 100000 in
theorem ea_X8_newServer : co_X8_newServer.all (entOk (mRow m_X8_newServer).2.2.2.2.1 (mRow m_X8_newServer).2.2.1 (mRow m_X8_newServer).2.1) = true := by decide +kernel
theorem md_X8_newServer : mdOk m_X8_newServer := ⟨ea_X8_newServer, by decide +kernel, by decide +kernel, _, _, rfl, rfl⟩
set_option maxRecDepth 100000 in
theorem ea_X8_newSite : co_X8_newSite.all (entOk (mRow m_X8_newSite).2.2.2.2.1 (mRow m_X8_newSite).2.2.1 (mRow m_X8_newSite).2.1) = true := by decide +kernel
theorem md_X8_newSite : mdOk m_X8_newSite := ⟨ea_X8_newSite, by decide +kernel, by decide +kernel, _, _, rfl, rfl⟩
set_option maxRecDepth 100000 in
theorem ea_X8_newRouter : co_X8_newRouter.all (entOk (mRow m_X8_newRouter).2.2.2.2.1 (mRow m_X8_newRouter).2.2.1 (mRow m_X8_newRouter).2.1) = true := by decide +kernel
theorem md_X8_newRouter : mdOk m_X8_newRouter := ⟨ea_X8_newRouter, by decide +kernel, by decide +kernel, _, _, rfl, rfl⟩
set_option maxRecDepth 100000 in
theorem ea_X8_fillSlot : co_X8_fillSlot.all (entOk (mRow m_X8_fillSlot).2.2.2.2.1 (mRow m_X8_fillSlot).2.2.1 (mRow m_X8_fillSlot).2.1) = true := by decide +kernel
theorem md_X8_fillSlot : mdOk m_X8_fillSlot := ⟨ea_X8_fillSlot, by decide +kernel, by decide +kernel, _, _, rfl, rfl⟩
set_option maxRecDepth 100000 in
theorem ea_X8_vacateSlot : co_X8_vacateSlot.all (entOk (mRow m_X8_vacateSlot).2.2.2.2.1 (mRow m_X8_vacateSlot).2.2.1 (mRow m_X8_vacateSlot).2.1) = true := by decide +kernel
theorem md_X8_vacateSlot : mdOk m_X8_vacateSlot := ⟨ea_X8_vacateSlot, by decide +kernel, by decide +kernel, _, _, rfl, rfl⟩
set_option maxRecDepth 100000 in
theorem ea_X8_startRegistration : co_X8_startRegistration.all (entOk (mRow m_X8_startRegistration).2.2.2.2.1 (mRow m_X8_startRegistration).2.2.1 (mRow m_X8_startRegistration).2.1) = true := by decide +kernel
theorem md_X8_startRegistration : mdOk m_X8_startRegistration := ⟨ea_X8_startRegistration, by decide +kernel, by decide +kernel, _, _, rfl, rfl⟩
set_option maxRecDepth 100000 in
theorem ea_X8_endRegistration : co_X8_endRegistration.all (entOk (mRow m_X8_endRegistration).2.2.2.2.1 (mRow m_X8_endRegistration).2.2.1 (mRow m_X8_endRegistration).2.1) = true := by decide +kernel
theorem md_X8_endRegistration : mdOk m_X8_endRegistration := ⟨ea_X8_endRegistration, by decide +kernel, by decide +kernel, _, _, rfl, rfl⟩
set_option maxRecDepth 100000 in
theorem ea_X8_changeMapLife : co_X8_changeMapLife.all (entOk (mRow m_X8_changeMapLife).2.2.2.2.1 (mRow m_X8_changeMapLife).2.2.1 (mRow m_X8_changeMapLife).2.1) = true := by decide +kernel
theorem md_X8_changeMapLife : mdOk m_X8_changeMapLife := ⟨ea_X8_changeMapLife, by decide +kernel, by decide +kernel, _, _, rfl, rfl⟩
set_option maxRecDepth 100000 in
theorem ea_X8_letPass : co_X8_letPass.all (entOk (mRow m_X8_letPass).2.2.2.2.1 (mRow m_X8_letPass).2.2.1 (mRow m_X8_letPass).2.1) = true := by decide +kernel
theorem md_X8_letPass : mdOk m_X8_letPass := ⟨ea_X8_letPass, by decide +kernel, by decide +kernel, _, _, rfl, rfl⟩
set_option maxRecDepth 100000 in
theorem ea_X8_emptyCache : co_X8_emptyCache.all (entOk (mRow m_X8_emptyCache).2.2.2.2.1 (mRow m_X8_emptyCache).2.2.1 (mRow m_X8_emptyCache).2.1) = true := by decide +kernel
theorem md_X8_emptyCache : mdOk m_X8_emptyCache := ⟨ea_X8_emptyCache, by decide +kernel, by decide +kernel, _, _, rfl, rfl⟩
set_option maxRecDepth 100000 in
theorem ea_X8_sendLetter : co_X8_sendLetter.all (entOk (mRow m_X8_sendLetter).2.2.2.2.1 (mRow m_X8_sendLetter).2.2.1 (mRow m_X8_sendLetter).2.1) = true := by decide +kernel
theorem md_X8_sendLetter : mdOk m_X8_sendLetter := ⟨ea_X8_sendLetter, by decide +kernel, by decide +kernel, _, _, rfl, rfl⟩
set_option maxRecDepth 100000 in
theorem ea_X8_placeByMap : co_X8_placeByMap.all (entOk (mRow m_X8_placeByMap).2.2.2.2.1 (mRow m_X8_placeByMap).2.2.1 (mRow m_X8_placeByMap).2.1) = true := by decide +kernel
theorem md_X8_placeByMap : mdOk m_X8_placeByMap := ⟨ea_X8_placeByMap, by decide +kernel, by decide +kernel, _, _, rfl, rfl⟩
set_option maxRecDepth 100000 in
theorem ea_X8_ask : co_X8_ask.all (entOk (mRow m_X8_ask).2.2.2.2.1 (mRow m_X8_ask).2.2.1 (mRow m_X8_ask).2.1) = true := by decide +kernel
theorem md_X8_ask : mdOk m_X8_ask := ⟨ea_X8_ask, by decide +kernel, by decide +kernel, _, _, rfl, rfl⟩
set_option maxRecDepth 100000 in
theorem ea_X8_goByProxy : co_X8_goByProxy.all (entOk (mRow m_X8_goByProxy).2.2.2.2.1 (mRow m_X8_goByProxy).2.2.1 (mRow m_X8_goByProxy).2.1) = true := by decide +kernel
theorem md_X8_goByProxy : mdOk m_X8_goByProxy := ⟨ea_X8_goByProxy, by decide +kernel, by decide +kernel, _, _, rfl, rfl⟩
set_option maxRecDepth 100000 in
theorem ea_X8_homeOf : co_X8_homeOf.all (entOk (mRow m_X8_homeOf).2.2.2.2.1 (mRow m_X8_homeOf).2.2.1 (mRow m_X8_homeOf).2.1) = true := by decide +kernel
theorem md_X8_homeOf : mdOk m_X8_homeOf := ⟨ea_X8_homeOf, by decide +kernel, by decide +kernel, _, _, rfl, rfl⟩
set_option maxRecDepth 100000 in
theorem ea_X8_homeOfSite : co_X8_homeOfSite.all (entOk (mRow m_X8_homeOfSite).2.2.2.2.1 (mRow m_X8_homeOfSite).2.2.1 (mRow m_X8_homeOfSite).2.1) = true := by decide +kernel
theorem md_X8_homeOfSite : mdOk m_X8_homeOfSite := ⟨ea_X8_homeOfSite, by decide +kernel, by decide +kernel, _, _, rfl, rfl⟩
set_option maxRecDepth 100000 in
theorem ea_X8_hopsTo : co_X8_hopsTo.all (entOk (mRow m_X8_hopsTo).2.2.2.2.1 (mRow m_X8_hopsTo).2.2.1 (mRow m_X8_hopsTo).2.1) = true := by decide +kernel
theorem md_X8_hopsTo : mdOk m_X8_hopsTo := ⟨ea_X8_hopsTo, by decide +kernel, by decide +kernel, _, _, rfl, rfl⟩
set_option maxRecDepth 100000 in
theorem ea_X8_answerFor : co_X8_answerFor.all (entOk (mRow m_X8_answerFor).2.2.2.2.1 (mRow m_X8_answerFor).2.2.1 (mRow m_X8_answerFor).2.1) = true := by decide +kernel
theorem md_X8_answerFor : mdOk m_X8_answerFor := ⟨ea_X8_answerFor, by decide +kernel, by decide +kernel, _, _, rfl, rfl⟩
set_option maxRecDepth 100000 in
theorem ea_X8_siteEndingAt : co_X8_siteEndingAt.all (entOk (mRow m_X8_siteEndingAt).2.2.2.2.1 (mRow m_X8_siteEndingAt).2.2.1 (mRow m_X8_siteEndingAt).2.1) = true := by decide +kernel
theorem md_X8_siteEndingAt : mdOk m_X8_siteEndingAt := ⟨ea_X8_siteEndingAt, by decide +kernel, by decide +kernel, _, _, rfl, rfl⟩
set_option maxRecDepth 100000 in
theorem ea_X8_sitesEndingAheadOf : co_X8_sitesEndingAheadOf.all (entOk (mRow m_X8_sitesEndingAheadOf).2.2.2.2.1 (mRow m_X8_sitesEndingAheadOf).2.2.1 (mRow m_X8_sitesEndingAheadOf).2.1) = true := by decide +kernel
theorem md_X8_sitesEndingAheadOf : mdOk m_X8_sitesEndingAheadOf := ⟨ea_X8_sitesEndingAheadOf, by decide +kernel, by decide +kernel, _, _, rfl, rfl⟩
set_option maxRecDepth 100000 in
theorem ea_X8_serverProperty : co_X8_serverProperty.all (entOk (mRow m_X8_serverProperty).2.2.2.2.1 (mRow m_X8_serverProperty).2.2.1 (mRow m_X8_serverProperty).2.1) = true := by decide +kernel
theorem md_X8_serverProperty : mdOk m_X8_serverProperty := ⟨ea_X8_serverProperty, by decide +kernel, by decide +kernel, _, _, rfl, rfl⟩
set_option maxRecDepth 100000 in
theorem ea_X8_childrenOf : co_X8_childrenOf.all (entOk (mRow m_X8_childrenOf).2.2.2.2.1 (mRow m_X8_childrenOf).2.2.1 (mRow m_X8_childrenOf).2.1) = true := by decide +kernel
theorem md_X8_childrenOf : mdOk m_X8_childrenOf := ⟨ea_X8_childrenOf, by decide +kernel, by decide +kernel, _, _, rfl, rfl⟩
set_option maxRecDepth 100000 in
theorem ea_X8_sitesAtHome : co_X8_sitesAtHome.all (entOk (mRow m_X8_sitesAtHome).2.2.2.2.1 (mRow m_X8_sitesAtHome).2.2.1 (mRow m_X8_sitesAtHome).2.1) = true := by decide +kernel
theorem md_X8_sitesAtHome : mdOk m_X8_sitesAtHome := ⟨ea_X8_sitesAtHome, by decide +kernel, by decide +kernel, _, _, rfl, rfl⟩
set_option maxRecDepth 100000 in
theorem ea_X8_siteProperty : co_X8_siteProperty.all (entOk (mRow m_X8_siteProperty).2.2.2.2.1 (mRow m_X8_siteProperty).2.2.1 (mRow m_X8_siteProperty).2.1) = true := by decide +kernel
theorem md_X8_siteProperty : mdOk m_X8_siteProperty := ⟨ea_X8_siteProperty, by decide +kernel, by decide +kernel, _, _, rfl, rfl⟩
set_option maxRecDepth 100000 in
theorem ea_X8_mapsOf : co_X8_mapsOf.all (entOk (mRow m_X8_mapsOf).2.2.2.2.1 (mRow m_X8_mapsOf).2.2.1 (mRow m_X8_mapsOf).2.1) = true := by decide +kernel
theorem md_X8_mapsOf : mdOk m_X8_mapsOf := ⟨ea_X8_mapsOf, by decide +kernel, by decide +kernel, _, _, rfl, rfl⟩
set_option maxRecDepth 100000 in
theorem ea_X8_totalOf : co_X8_totalOf.all (entOk (mRow m_X8_totalOf).2.2.2.2.1 (mRow m_X8_totalOf).2.2.1 (mRow m_X8_totalOf).2.1) = true := by decide +kernel
theorem md_X8_totalOf : mdOk m_X8_totalOf := ⟨ea_X8_totalOf, by decide +kernel, by decide +kernel, _, _, rfl, rfl⟩
set_option maxRecDepth 100000 in
theorem ea_X8_sitesUp : co_X8_sitesUp.all (entOk (mRow m_X8_sitesUp).2.2.2.2.1 (mRow m_X8_sitesUp).2.2.1 (mRow m_X8_sitesUp).2.1) = true := by decide +kernel
theorem md_X8_sitesUp : mdOk m_X8_sitesUp := ⟨ea_X8_sitesUp, by decide +kernel, by decide +kernel, _, _, rfl, rfl⟩
set_option maxRecDepth 100000 in
theorem ea_X8_sumOverRouters : co_X8_sumOverRouters.all (entOk (mRow m_X8_sumOverRouters).2.2.2.2.1 (mRow m_X8_sumOverRouters).2.2.1 (mRow m_X8_sumOverRouters).2.1) = true := by decide +kernel
theorem md_X8_sumOverRouters : mdOk m_X8_sumOverRouters := ⟨ea_X8_sumOverRouters, by decide +kernel, by decide +kernel, _, _, rfl, rfl⟩
set_option maxRecDepth 100000 in
theorem ea_X8_namesWithAnswer : co_X8_namesWithAnswer.all (entOk (mRow m_X8_namesWithAnswer).2.2.2.2.1 (mRow m_X8_namesWithAnswer).2.2.1 (mRow m_X8_namesWithAnswer).2.1) = true := by decide +kernel
theorem md_X8_namesWithAnswer : mdOk m_X8_namesWithAnswer := ⟨ea_X8_namesWithAnswer, by decide +kernel, by decide +kernel, _, _, rfl, rfl⟩
set_option maxRecDepth 100000 in
theorem ea_X9_init : co_X9_init.all (entOk (mRow m_X9_init).2.2.2.2.1 (mRow m_X9_init).2.2.1 (mRow m_X9_init).2.1) = true := by decide +kernel
theorem md_X9_init : mdOk m_X9_init := ⟨ea_X9_init, by decide +kernel, by decide +kernel, _, _, rfl, rfl⟩
set_option maxRecDepth 100000 in
theorem ea_X9_addServer : co_X9_addServer.all (entOk (mRow m_X9_addServer).2.2.2.2.1 (mRow m_X9_addServer).2.2.1 (mRow m_X9_addServer).2.1) = true := by decide +kernel
theorem md_X9_addServer : mdOk m_X9_addServer := ⟨ea_X9_addServer, by decide +kernel, by decide +kernel, _, _, rfl, rfl⟩
set_option maxRecDepth 100000 in
theorem ea_X9_addSite : co_X9_addSite.all (entOk (mRow m_X9_addSite).2.2.2.2.1 (mRow m_X9_addSite).2.2.1 (mRow m_X9_addSite).2.1) = true := by decide +kernel
theorem md_X9_addSite : mdOk m_X9_addSite := ⟨ea_X9_addSite, by decide +kernel, by decide +kernel, _, _, rfl, rfl⟩
set_option maxRecDepth 100000 in
theorem ea_X9_addRouter : co_X9_addRouter.all (entOk (mRow m_X9_addRouter).2.2.2.2.1 (mRow m_X9_addRouter).2.2.1 (mRow m_X9_addRouter).2.1) = true := by decide +kernel
theorem md_X9_addRouter : mdOk m_X9_addRouter := ⟨ea_X9_addRouter, by decide +kernel, by decide +kernel, _, _, rfl, rfl⟩
set_option maxRecDepth 100000 in
theorem ea_X9_setSlot : co_X9_setSlot.all (entOk (mRow m_X9_setSlot).2.2.2.2.1 (mRow m_X9_setSlot).2.2.1 (mRow m_X9_setSlot).2.1) = true := by decide +kernel
theorem md_X9_setSlot : mdOk m_X9_setSlot := ⟨ea_X9_setSlot, by decide +kernel, by decide +kernel, _, _, rfl, rfl⟩
set_option maxRecDepth 100000 in
theorem ea_X9_emptySlot : co_X9_emptySlot.all (entOk (mRow m_X9_emptySlot).2.2.2.2.1 (mRow m_X9_emptySlot).2.2.1 (mRow m_X9_emptySlot).2.1) = true := by decide +kernel
theorem md_X9_emptySlot : mdOk m_X9_emptySlot := ⟨ea_X9_emptySlot, by decide +kernel, by decide +kernel, _, _, rfl, rfl⟩
set_option maxRecDepth 100000 in
theorem ea_X9_register : co_X9_register.all (entOk (mRow m_X9_register).2.2.2.2.1 (mRow m_X9_register).2.2.1 (mRow m_X9_register).2.1) = true := by decide +kernel
theorem md_X9_register : mdOk m_X9_register := ⟨ea_X9_register, by decide +kernel, by decide +kernel, _, _, rfl, rfl⟩
set_option maxRecDepth 100000 in
theorem ea_X9_unregister : co_X9_unregister.all (entOk (mRow m_X9_unregister).2.2.2.2.1 (mRow m_X9_unregister).2.2.1 (mRow m_X9_unregister).2.1) = true := by decide +kernel
theorem md_X9_unregister : mdOk m_X9_unregister := ⟨ea_X9_unregister, by decide +kernel, by decide +kernel, _, _, rfl, rfl⟩
set_option maxRecDepth 100000 in
theorem ea_X9_setMapLife : co_X9_setMapLife.all (entOk (mRow m_X9_setMapLife).2.2.2.2.1 (mRow m_X9_setMapLife).2.2.1 (mRow m_X9_setMapLife).2.1) = true := by decide +kernel
theorem md_X9_setMapLife : mdOk m_X9_setMapLife := ⟨ea_X9_setMapLife, by decide +kernel, by decide +kernel, _, _, rfl, rfl⟩
set_option maxRecDepth 100000 in
theorem ea_X9_send : co_X9_send.all (entOk (mRow m_X9_send).2.2.2.2.1 (mRow m_X9_send).2.2.1 (mRow m_X9_send).2.1) = true := by decide +kernel
theorem md_X9_send : mdOk m_X9_send := ⟨ea_X9_send, by decide +kernel, by decide +kernel, _, _, rfl, rfl⟩
set_option maxRecDepth 100000 in
theorem ea_X9_pass : co_X9_pass.all (entOk (mRow m_X9_pass).2.2.2.2.1 (mRow m_X9_pass).2.2.1 (mRow m_X9_pass).2.1) = true := by decide +kernel
theorem md_X9_pass : mdOk m_X9_pass := ⟨ea_X9_pass, by decide +kernel, by decide +kernel, _, _, rfl, rfl⟩
set_option maxRecDepth 100000 in
theorem ea_X9_forget : co_X9_forget.all (entOk (mRow m_X9_forget).2.2.2.2.1 (mRow m_X9_forget).2.2.1 (mRow m_X9_forget).2.1) = true := by decide +kernel
theorem md_X9_forget : mdOk m_X9_forget := ⟨ea_X9_forget, by decide +kernel, by decide +kernel, _, _, rfl, rfl⟩
set_option maxRecDepth 100000 in
theorem ea_X9_undo : co_X9_undo.all (entOk (mRow m_X9_undo).2.2.2.2.1 (mRow m_X9_undo).2.2.1 (mRow m_X9_undo).2.1) = true := by decide +kernel
theorem md_X9_undo : mdOk m_X9_undo := ⟨ea_X9_undo, by decide +kernel, by decide +kernel, _, _, rfl, rfl⟩
set_option maxRecDepth 100000 in
theorem ea_X9_save : co_X9_save.all (entOk (mRow m_X9_save).2.2.2.2.1 (mRow m_X9_save).2.2.1 (mRow m_X9_save).2.1) = true := by decide +kernel
theorem md_X9_save : mdOk m_X9_save := ⟨ea_X9_save, by decide +kernel, by decide +kernel, _, _, rfl, rfl⟩
set_option maxRecDepth 100000 in
theorem ea_X9_restore : co_X9_restore.all (entOk (mRow m_X9_restore).2.2.2.2.1 (mRow m_X9_restore).2.2.1 (mRow m_X9_restore).2.1) = true := by decide +kernel
theorem md_X9_restore : mdOk m_X9_restore := ⟨ea_X9_restore, by decide +kernel, by decide +kernel, _, _, rfl, rfl⟩
set_option maxRecDepth 100000 in
theorem ea_X9_server : co_X9_server.all (entOk (mRow m_X9_server).2.2.2.2.1 (mRow m_X9_server).2.2.1 (mRow m_X9_server).2.1) = true := by decide +kernel
theorem md_X9_server : mdOk m_X9_server := ⟨ea_X9_server, by decide +kernel, by decide +kernel, _, _, rfl, rfl⟩
set_option maxRecDepth 100000 in
theorem ea_X9_site : co_X9_site.all (entOk (mRow m_X9_site).2.2.2.2.1 (mRow m_X9_site).2.2.1 (mRow m_X9_site).2.1) = true := by decide +kernel
theorem md_X9_site : mdOk m_X9_site := ⟨ea_X9_site, by decide +kernel, by decide +kernel, _, _, rfl, rfl⟩
set_option maxRecDepth 100000 in
theorem ea_X9_slot : co_X9_slot.all (entOk (mRow m_X9_slot).2.2.2.2.1 (mRow m_X9_slot).2.2.1 (mRow m_X9_slot).2.1) = true := by decide +kernel
theorem md_X9_slot : mdOk m_X9_slot := ⟨ea_X9_slot, by decide +kernel, by decide +kernel, _, _, rfl, rfl⟩
set_option maxRecDepth 100000 in
theorem ea_X9_router : co_X9_router.all (entOk (mRow m_X9_router).2.2.2.2.1 (mRow m_X9_router).2.2.1 (mRow m_X9_router).2.1) = true := by decide +kernel
theorem md_X9_router : mdOk m_X9_router := ⟨ea_X9_router, by decide +kernel, by decide +kernel, _, _, rfl, rfl⟩
set_option maxRecDepth 100000 in
theorem ea_X9_map : co_X9_map.all (entOk (mRow m_X9_map).2.2.2.2.1 (mRow m_X9_map).2.2.1 (mRow m_X9_map).2.1) = true := by decide +kernel
theorem md_X9_map : mdOk m_X9_map := ⟨ea_X9_map, by decide +kernel, by decide +kernel, _, _, rfl, rfl⟩
set_option maxRecDepth 100000 in
theorem ea_X9_answer : co_X9_answer.all (entOk (mRow m_X9_answer).2.2.2.2.1 (mRow m_X9_answer).2.2.1 (mRow m_X9_answer).2.1) = true := by decide +kernel
theorem md_X9_answer : mdOk m_X9_answer := ⟨ea_X9_answer, by decide +kernel, by decide +kernel, _, _, rfl, rfl⟩
set_option maxRecDepth 100000 in
theorem ea_X9_endingNext : co_X9_endingNext.all (entOk (mRow m_X9_endingNext).2.2.2.2.1 (mRow m_X9_endingNext).2.2.1 (mRow m_X9_endingNext).2.1) = true := by decide +kernel
theorem md_X9_endingNext : mdOk m_X9_endingNext := ⟨ea_X9_endingNext, by decide +kernel, by decide +kernel, _, _, rfl, rfl⟩
set_option maxRecDepth 100000 in
theorem ea_X9_total : co_X9_total.all (entOk (mRow m_X9_total).2.2.2.2.1 (mRow m_X9_total).2.2.1 (mRow m_X9_total).2.1) = true := by decide +kernel
theorem md_X9_total : mdOk m_X9_total := ⟨ea_X9_total, by decide +kernel, by decide +kernel, _, _, rfl, rfl⟩
set_option maxRecDepth 100000 in
theorem ea_X9_wouldReach : co_X9_wouldReach.all (entOk (mRow m_X9_wouldReach).2.2.2.2.1 (mRow m_X9_wouldReach).2.2.1 (mRow m_X9_wouldReach).2.1) = true := by decide +kernel
theorem md_X9_wouldReach : mdOk m_X9_wouldReach := ⟨ea_X9_wouldReach, by decide +kernel, by decide +kernel, _, _, rfl, rfl⟩
set_option maxRecDepth 100000 in
theorem ea_X9_wouldAsk : co_X9_wouldAsk.all (entOk (mRow m_X9_wouldAsk).2.2.2.2.1 (mRow m_X9_wouldAsk).2.2.1 (mRow m_X9_wouldAsk).2.1) = true := by decide +kernel
theorem md_X9_wouldAsk : mdOk m_X9_wouldAsk := ⟨ea_X9_wouldAsk, by decide +kernel, by decide +kernel, _, _, rfl, rfl⟩
set_option maxRecDepth 100000 in
theorem ea_X9_recorded : co_X9_recorded.all (entOk (mRow m_X9_recorded).2.2.2.2.1 (mRow m_X9_recorded).2.2.1 (mRow m_X9_recorded).2.1) = true := by decide +kernel
theorem md_X9_recorded : mdOk m_X9_recorded := ⟨ea_X9_recorded, by decide +kernel, by decide +kernel, _, _, rfl, rfl⟩
set_option maxRecDepth 100000 in
theorem ea_X9_isSave : co_X9_isSave.all (entOk (mRow m_X9_isSave).2.2.2.2.1 (mRow m_X9_isSave).2.2.1 (mRow m_X9_isSave).2.1) = true := by decide +kernel
theorem md_X9_isSave : mdOk m_X9_isSave := ⟨ea_X9_isSave, by decide +kernel, by decide +kernel, _, _, rfl, rfl⟩
set_option maxRecDepth 100000 in
theorem ea_X9_isSlot : co_X9_isSlot.all (entOk (mRow m_X9_isSlot).2.2.2.2.1 (mRow m_X9_isSlot).2.2.1 (mRow m_X9_isSlot).2.1) = true := by decide +kernel
theorem md_X9_isSlot : mdOk m_X9_isSlot := ⟨ea_X9_isSlot, by decide +kernel, by decide +kernel, _, _, rfl, rfl⟩
set_option maxRecDepth 100000 in
theorem ea_X9_isName : co_X9_isName.all (entOk (mRow m_X9_isName).2.2.2.2.1 (mRow m_X9_isName).2.2.1 (mRow m_X9_isName).2.1) = true := by decide +kernel
theorem md_X9_isName : mdOk m_X9_isName := ⟨ea_X9_isName, by decide +kernel, by decide +kernel, _, _, rfl, rfl⟩
set_option maxRecDepth 100000 in
theorem ea_X9_isFlow : co_X9_isFlow.all (entOk (mRow m_X9_isFlow).2.2.2.2.1 (mRow m_X9_isFlow).2.2.1 (mRow m_X9_isFlow).2.1) = true := by decide +kernel
theorem md_X9_isFlow : mdOk m_X9_isFlow := ⟨ea_X9_isFlow, by decide +kernel, by decide +kernel, _, _, rfl, rfl⟩
set_option maxRecDepth 100000 in
theorem ea_X9_isPlaceOfSlot : co_X9_isPlaceOfSlot.all (entOk (mRow m_X9_isPlaceOfSlot).2.2.2.2.1 (mRow m_X9_isPlaceOfSlot).2.2.1 (mRow m_X9_isPlaceOfSlot).2.1) = true := by decide +kernel
theorem md_X9_isPlaceOfSlot : mdOk m_X9_isPlaceOfSlot := ⟨ea_X9_isPlaceOfSlot, by decide +kernel, by decide +kernel, _, _, rfl, rfl⟩
set_option maxRecDepth 100000 in
theorem ea_X9_isBlock : co_X9_isBlock.all (entOk (mRow m_X9_isBlock).2.2.2.2.1 (mRow m_X9_isBlock).2.2.1 (mRow m_X9_isBlock).2.1) = true := by decide +kernel
theorem md_X9_isBlock : mdOk m_X9_isBlock := ⟨ea_X9_isBlock, by decide +kernel, by decide +kernel, _, _, rfl, rfl⟩
set_option maxRecDepth 100000 in
theorem ea_J6_bitCount_0f7a4 : co_J6_bitCount_0f7a4.all (entOk (mRow m_J6_bitCount_0f7a4).2.2.2.2.1 (mRow m_J6_bitCount_0f7a4).2.2.1 (mRow m_J6_bitCount_0f7a4).2.1) = true := by decide +kernel
theorem md_J6_bitCount_0f7a4 : mdOk m_J6_bitCount_0f7a4 := ⟨ea_J6_bitCount_0f7a4, by decide +kernel, by decide +kernel, _, _, rfl, rfl⟩
set_option maxRecDepth 100000 in
theorem ea_J9_floorMod_7cf53 : co_J9_floorMod_7cf53.all (entOk (mRow m_J9_floorMod_7cf53).2.2.2.2.1 (mRow m_J9_floorMod_7cf53).2.2.1 (mRow m_J9_floorMod_7cf53).2.1) = true := by decide +kernel
theorem md_J9_floorMod_7cf53 : mdOk m_J9_floorMod_7cf53 := ⟨ea_J9_floorMod_7cf53, by decide +kernel, by decide +kernel, _, _, rfl, rfl⟩
set_option maxRecDepth 100000 in
theorem ea_L_cell : co_L_cell.all (entOk (mRow m_L_cell).2.2.2.2.1 (mRow m_L_cell).2.2.1 (mRow m_L_cell).2.1) = true := by decide +kernel
theorem md_L_cell : mdOk m_L_cell := ⟨ea_L_cell, by decide +kernel, by decide +kernel, _, _, rfl, rfl⟩
set_option maxRecDepth 100000 in
theorem ea_L_up : co_L_up.all (entOk (mRow m_L_up).2.2.2.2.1 (mRow m_L_up).2.2.1 (mRow m_L_up).2.1) = true := by decide +kernel
theorem md_L_up : mdOk m_L_up := ⟨ea_L_up, by decide +kernel, by decide +kernel, _, _, rfl, rfl⟩
set_option maxRecDepth 100000 in
theorem ea_L_size : co_L_size.all (entOk (mRow m_L_size).2.2.2.2.1 (mRow m_L_size).2.2.1 (mRow m_L_size).2.1) = true := by decide +kernel
theorem md_L_size : mdOk m_L_size := ⟨ea_L_size, by decide +kernel, by decide +kernel, _, _, rfl, rfl⟩
set_option maxRecDepth 100000 in
theorem ea_L_any : co_L_any.all (entOk (mRow m_L_any).2.2.2.2.1 (mRow m_L_any).2.2.1 (mRow m_L_any).2.1) = true := by decide +kernel
theorem md_L_any : mdOk m_L_any := ⟨ea_L_any, by decide +kernel, by decide +kernel, _, _, rfl, rfl⟩
set_option maxRecDepth 100000 in
theorem ea_L_turn : co_L_turn.all (entOk (mRow m_L_turn).2.2.2.2.1 (mRow m_L_turn).2.2.1 (mRow m_L_turn).2.1) = true := by decide +kernel
theorem md_L_turn : mdOk m_L_turn := ⟨ea_L_turn, by decide +kernel, by decide +kernel, _, _, rfl, rfl⟩
set_option maxRecDepth 100000 in
theorem ea_L_name : co_L_name.all (entOk (mRow m_L_name).2.2.2.2.1 (mRow m_L_name).2.2.1 (mRow m_L_name).2.1) = true := by decide +kernel
theorem md_L_name : mdOk m_L_name := ⟨ea_L_name, by decide +kernel, by decide +kernel, _, _, rfl, rfl⟩
set_option maxRecDepth 100000 in
theorem ea_L_hasPlace : co_L_hasPlace.all (entOk (mRow m_L_hasPlace).2.2.2.2.1 (mRow m_L_hasPlace).2.2.1 (mRow m_L_hasPlace).2.1) = true := by decide +kernel
theorem md_L_hasPlace : mdOk m_L_hasPlace := ⟨ea_L_hasPlace, by decide +kernel, by decide +kernel, _, _, rfl, rfl⟩
set_option maxRecDepth 100000 in
theorem ea_L_areRouters : co_L_areRouters.all (entOk (mRow m_L_areRouters).2.2.2.2.1 (mRow m_L_areRouters).2.2.1 (mRow m_L_areRouters).2.1) = true := by decide +kernel
theorem md_L_areRouters : mdOk m_L_areRouters := ⟨ea_L_areRouters, by decide +kernel, by decide +kernel, _, _, rfl, rfl⟩
set_option maxRecDepth 100000 in
theorem ea_L_areEnding : co_L_areEnding.all (entOk (mRow m_L_areEnding).2.2.2.2.1 (mRow m_L_areEnding).2.2.1 (mRow m_L_areEnding).2.1) = true := by decide +kernel
theorem md_L_areEnding : mdOk m_L_areEnding := ⟨ea_L_areEnding, by decide +kernel, by decide +kernel, _, _, rfl, rfl⟩
theorem mlT_lt : ∀ q ∈ mlT, q.2.2.1 < 123 := by decide +kernel
theorem initL_ok : ∀ m, m < 123 → m ∉ initL → (mRow m).1.name ≠ "<init>" := by decide +kernel
set_option maxRecDepth 100000 in
theorem md_all : ∀ m, m < 123 → mdOk m := fun m h => match m, h with
  | 0, _ => md_X0_init
  | 1, _ => md_X1_init
  | 2, _ => md_X1_become
  | 3, _ => md_X1_copyFrom
  | 4, _ => md_X1_isAt
  | 5, _ => md_X1_has
  | 6, _ => md_X1_holds
  | 7, _ => md_X1_meets
  | 8, _ => md_X2_init
  | 9, _ => md_X2_become
  | 10, _ => md_X2_copyFrom
  | 11, _ => md_X2_isHolding
  | 12, _ => md_X2_property
  | 13, _ => md_X3_init
  | 14, _ => md_X3_row
  | 15, _ => md_X3_draft
  | 16, _ => md_X3_keepDraft
  | 17, _ => md_X3_takeLatest
  | 18, _ => md_X4_init
  | 19, _ => md_X4_start
  | 20, _ => md_X4_copyFrom
  | 21, _ => md_X4_isPlace
  | 22, _ => md_X4_property
  | 23, _ => md_X4_moveToFront
  | 24, _ => md_X4_drop
  | 25, _ => md_X4_dropEnded
  | 26, _ => md_X4_placeOfSite
  | 27, _ => md_X4_placeOfSmallest
  | 28, _ => md_X4_addMap
  | 29, _ => md_X5_init
  | 30, _ => md_X5_copyFrom
  | 31, _ => md_X6_init
  | 32, _ => md_X6_start
  | 33, _ => md_X6_copyFrom
  | 34, _ => md_X6_isRegistered
  | 35, _ => md_X6_isUp
  | 36, _ => md_X7_init
  | 37, _ => md_X7_copyFrom
  | 38, _ => md_X7_fill
  | 39, _ => md_X7_propertyOf
  | 40, _ => md_X7_isEmpty
  | 41, _ => md_X7_areEmpty
  | 42, _ => md_X7_have
  | 43, _ => md_X7_lowestPriority
  | 44, _ => md_X7_weightThatCounts
  | 45, _ => md_X7_placeFor
  | 46, _ => md_X8_init
  | 47, _ => md_X8_copyFrom
  | 48, _ => md_X8_isServer
  | 49, _ => md_X8_isSite
  | 50, _ => md_X8_isRouter
  | 51, _ => md_X8_newServer
  | 52, _ => md_X8_newSite
  | 53, _ => md_X8_newRouter
  | 54, _ => md_X8_fillSlot
  | 55, _ => md_X8_vacateSlot
  | 56, _ => md_X8_startRegistration
  | 57, _ => md_X8_endRegistration
  | 58, _ => md_X8_changeMapLife
  | 59, _ => md_X8_letPass
  | 60, _ => md_X8_emptyCache
  | 61, _ => md_X8_sendLetter
  | 62, _ => md_X8_placeByMap
  | 63, _ => md_X8_ask
  | 64, _ => md_X8_goByProxy
  | 65, _ => md_X8_homeOf
  | 66, _ => md_X8_homeOfSite
  | 67, _ => md_X8_hopsTo
  | 68, _ => md_X8_answerFor
  | 69, _ => md_X8_siteEndingAt
  | 70, _ => md_X8_sitesEndingAheadOf
  | 71, _ => md_X8_serverProperty
  | 72, _ => md_X8_childrenOf
  | 73, _ => md_X8_sitesAtHome
  | 74, _ => md_X8_siteProperty
  | 75, _ => md_X8_mapsOf
  | 76, _ => md_X8_totalOf
  | 77, _ => md_X8_sitesUp
  | 78, _ => md_X8_sumOverRouters
  | 79, _ => md_X8_namesWithAnswer
  | 80, _ => md_X9_init
  | 81, _ => md_X9_addServer
  | 82, _ => md_X9_addSite
  | 83, _ => md_X9_addRouter
  | 84, _ => md_X9_setSlot
  | 85, _ => md_X9_emptySlot
  | 86, _ => md_X9_register
  | 87, _ => md_X9_unregister
  | 88, _ => md_X9_setMapLife
  | 89, _ => md_X9_send
  | 90, _ => md_X9_pass
  | 91, _ => md_X9_forget
  | 92, _ => md_X9_undo
  | 93, _ => md_X9_save
  | 94, _ => md_X9_restore
  | 95, _ => md_X9_server
  | 96, _ => md_X9_site
  | 97, _ => md_X9_slot
  | 98, _ => md_X9_router
  | 99, _ => md_X9_map
  | 100, _ => md_X9_answer
  | 101, _ => md_X9_endingNext
  | 102, _ => md_X9_total
  | 103, _ => md_X9_wouldReach
  | 104, _ => md_X9_wouldAsk
  | 105, _ => md_X9_recorded
  | 106, _ => md_X9_isSave
  | 107, _ => md_X9_isSlot
  | 108, _ => md_X9_isName
  | 109, _ => md_X9_isFlow
  | 110, _ => md_X9_isPlaceOfSlot
  | 111, _ => md_X9_isBlock
  | 112, _ => md_J6_bitCount_0f7a4
  | 113, _ => md_J9_floorMod_7cf53
  | 114, _ => md_L_cell
  | 115, _ => md_L_up
  | 116, _ => md_L_size
  | 117, _ => md_L_any
  | 118, _ => md_L_turn
  | 119, _ => md_L_name
  | 120, _ => md_L_hasPlace
  | 121, _ => md_L_areRouters
  | 122, _ => md_L_areEnding
  | n + 123, h => absurd h (by omega)
set_option maxRecDepth 100000 in
theorem ea_L_view : co_L_view.all (entOkL (mRow m_L_view).2.2.1 (mRow m_L_view).2.1) = true := by decide +kernel
theorem md_L_view : mdOkL m_L_view := ⟨ea_L_view, by decide +kernel, by decide +kernel, _, _, rfl, rfl⟩
set_option maxRecDepth 100000 in
theorem ea_L_isSent : co_L_isSent.all (entOkL (mRow m_L_isSent).2.2.1 (mRow m_L_isSent).2.1) = true := by decide +kernel
theorem md_L_isSent : mdOkL m_L_isSent := ⟨ea_L_isSent, by decide +kernel, by decide +kernel, _, _, rfl, rfl⟩
set_option maxRecDepth 100000 in
theorem ea_L_isUndone : co_L_isUndone.all (entOkL (mRow m_L_isUndone).2.2.1 (mRow m_L_isUndone).2.1) = true := by decide +kernel
theorem md_L_isUndone : mdOkL m_L_isUndone := ⟨ea_L_isUndone, by decide +kernel, by decide +kernel, _, _, rfl, rfl⟩
set_option maxRecDepth 100000 in
theorem ea_L_isSaved : co_L_isSaved.all (entOkL (mRow m_L_isSaved).2.2.1 (mRow m_L_isSaved).2.1) = true := by decide +kernel
theorem md_L_isSaved : mdOkL m_L_isSaved := ⟨ea_L_isSaved, by decide +kernel, by decide +kernel, _, _, rfl, rfl⟩
set_option maxRecDepth 100000 in
theorem ex_L_law_0 : cx_L_law_0.all (entOkL (mRow m_L_law).2.2.1 (mRow m_L_law).2.1) = true := by decide +kernel
set_option maxRecDepth 100000 in
theorem ex_L_law_1 : cx_L_law_1.all (entOkL (mRow m_L_law).2.2.1 (mRow m_L_law).2.1) = true := by decide +kernel
set_option maxRecDepth 100000 in
theorem ex_L_law_2 : cx_L_law_2.all (entOkL (mRow m_L_law).2.2.1 (mRow m_L_law).2.1) = true := by decide +kernel
set_option maxRecDepth 100000 in
theorem ex_L_law_3 : cx_L_law_3.all (entOkL (mRow m_L_law).2.2.1 (mRow m_L_law).2.1) = true := by decide +kernel
set_option maxRecDepth 100000 in
theorem ex_L_law_4 : cx_L_law_4.all (entOkL (mRow m_L_law).2.2.1 (mRow m_L_law).2.1) = true := by decide +kernel
set_option maxRecDepth 100000 in
theorem ex_L_law_5 : cx_L_law_5.all (entOkL (mRow m_L_law).2.2.1 (mRow m_L_law).2.1) = true := by decide +kernel
set_option maxRecDepth 100000 in
theorem ex_L_law_6 : cx_L_law_6.all (entOkL (mRow m_L_law).2.2.1 (mRow m_L_law).2.1) = true := by decide +kernel
theorem ea_L_law : co_L_law.all (entOkL (mRow m_L_law).2.2.1 (mRow m_L_law).2.1) = true := by
  unfold co_L_law
  simp only [List.all_append, ex_L_law_0, ex_L_law_1, ex_L_law_2, ex_L_law_3, ex_L_law_4, ex_L_law_5, ex_L_law_6, Bool.and_self]
theorem md_L_law : mdOkL m_L_law := ⟨ea_L_law, by decide +kernel, by decide +kernel, _, _, rfl, rfl⟩
theorem mlT2_ge : ∀ q ∈ mlT2, 123 ≤ q.2.2.1 ∧ q.2.2.1 < 128 := by decide +kernel
theorem mdL_all : ∀ m, 123 ≤ m → m < 128 → mdOkL m := fun m h h2 => match m, h, h2 with
  | 123, _, _ => md_L_view
  | 124, _, _ => md_L_isSent
  | 125, _, _ => md_L_isUndone
  | 126, _, _ => md_L_isSaved
  | 127, _, _ => md_L_law
  | n + 128, _, h => absurd h (by omega)
