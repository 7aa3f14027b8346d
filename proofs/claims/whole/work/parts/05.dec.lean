/-! THE CODE TABLES AGAINST THE BYTES: each entry is what stands at its place, and its links are the tables' -/
def cndOf (b : Nat) : ClassFile.Cond := match b with
  | 0 => .eq | 1 => .ne | 2 => .lt | 3 => .ge | 4 => .gt | _ => .le
def f4 (a : Nat) : Fin 4 := Fin.ofNat 4 a
def atOf (a : Nat) : ArrayType := match a with
  | 0 => .int | 1 => .boolean | _ => .byte
def instrOf (e : Ent) : Instr × Nat := match e with
  | (pc, (op, a, b, d), c, cs) => match op with
    | 1 => (match b with
      | 0 => (.iconst c.toInt, 1) | 1 => (.bipush c.toInt, 2) | 2 => (.sipush c.toInt, 3) | _ => (.ldc_w a, 3))
    | 2 => (match b with
      | 0 => (.iload_n (f4 a), 1) | 1 => (.iload a, 2) | 2 => (.aload_n (f4 a), 1) | _ => (.aload a, 2))
    | 3 => (match b with
      | 0 => (.istore_n (f4 a), 1) | 1 => (.istore a, 2) | 2 => (.astore_n (f4 a), 1) | _ => (.astore a, 2))
    | 4 => (match a with
      | 0 => (.iadd, 1) | 1 => (.isub, 1) | 2 => (.imul, 1) | 3 => (.idiv, 1) | 4 => (.irem, 1) | 5 => (.iand, 1) | 6 => (.iushr, 1) | _ => (.ixor, 1))
    | 5 => (.iinc a c.toInt, 3)
    | 6 => (.ifCond (cndOf b) ((a : Int) - (pc : Int)), 3)
    | 7 => (.if_icmp (cndOf b) ((a : Int) - (pc : Int)), 3)
    | 8 => (.goto ((a : Int) - (pc : Int)), 3)
    | 9 => (.getfield a, 3)
    | 10 => (.putfield a, 3)
    | 11 => (match a with | 0 => (.iaload, 1) | 1 => (.baload, 1) | _ => (.aaload, 1))
    | 12 => (match a with | 0 => (.iastore, 1) | 1 => (.bastore, 1) | _ => (.aastore, 1))
    | 13 => (match d with | 0 => (.invokevirtual a, 3) | _ => (.invokestatic a, 3))
    | 14 => (match a with | 0 => (.ireturn, 1) | _ => (.return_, 1))
    | 15 => (.dup, 1)
    | 16 => (.dup2, 1)
    | 17 => (.i2b, 1)
    | 18 => (match d with
      | 0 => (.tableswitch ((a : Int) - (pc : Int)) ((cs.head?.getD (0, 0)).1 : Int) (((cs.getLast?).getD (0, 0)).1 : Int) (cs.map fun q => (q.2 : Int) - (pc : Int)).toArray, b)
      | _ => (.lookupswitch ((a : Int) - (pc : Int)) (cs.map fun q => ((q.1 : Int), (q.2 : Int) - (pc : Int))).toArray, b))
    | 19 => (.arraylength, 1)
    | 20 => (.invokestatic a, 3)
    | 21 => (.new a, 3)
    | 22 => (.newarray (atOf a), 2)
    | 23 => (.anewarray a, 3)
    | _ => (.invokespecial a, 3)
def initL : List Nat := [0, 10, 17, 22, 27, 38, 40, 45, 56, 90, 129]
/-- what else an entry's place in the class wants: o its class, nL the locals -/
def moreOk (o nL : Nat) (e : Ent) : Bool := match e with
  | (pc, (op, a, b, d), c, cs) => match op with
    | 1 => (match b with
      | 0 => true | 1 => decide ((Int8.ofInt c.toInt).toInt32 = c) | 2 => decide ((Int16.ofInt c.toInt).toInt32 = c) | _ => decide ((o, a, c) ∈ [(25, 265, (1431655765 : Int32)), (25, 266, 858993459), (25, 267, 252645135)]))
    | 2 => (match b with
      | 0 => decide (a < 4) | 1 => true | 2 => decide (a < 4) | _ => true)
    | 3 => decide (a < nL) && (match b with
      | 0 => decide (a < 4) | 1 => true | 2 => decide (a < 4) | _ => true)
    | 5 => decide (a < nL)
    | 6 => decide (b < 6)
    | 7 => decide (b < 6)
    | 9 => decide ((o, a, b, d) ∈ flT)
    | 10 => decide ((o, a, b, d) ∈ flT)
    | 13 => decide ((o, a, b, (if d = 2 then 1 else 0)) ∈ mlT) && (decide (cs = [((mRow b).2.2.2.2.2.1, (mRow b).2.2.2.2.1)]) && (decide ((mRow b).2.2.2.2.2.2 = decide (¬ d = 0)) && decide (b ∉ initL)))
    | 18 => (match d with
      | 0 => decide (cs.map (fun q => q.1) = (List.range' (cs.head?.getD (0, 0)).1 cs.length)) && decide (cs ≠ [])
      | _ => ((cs.map fun q => ((q.1 : Int), (q.2 : Int) - (pc : Int))).zip ((cs.map fun q => ((q.1 : Int), (q.2 : Int) - (pc : Int))).drop 1)).all (fun (a, next) => a.1 < next.1)) && cs.all (fun q => decide (q.1 < 1000))
    | 20 => decide ((o, a) = (7, 22))
    | _ => true
def entOk (o nL : Nat) (cc : ByteArray) (e : Ent) : Bool := (decide (e.2.1.1 = 0) || decide (decode cc e.1 = .ok (instrOf e))) && moreOk o nL e
def nextPc (e : Ent) : Nat := if e.2.1.1 = 0 then e.1 else e.1 + (instrOf e).2
def chainOk : List Ent → Bool
  | [] => true
  | [_] => true
  | e :: f :: es => (f.1 == nextPc e) && chainOk (f :: es)
def rtN (t : Option FieldType) : Nat := match t with
  | some .int => 0
  | some .boolean => 1
  | none => 2
  | _ => 9
def mdOk (m : Nat) : Prop := (codT m).all (entOk (mRow m).2.2.2.2.1 (mRow m).2.2.1 (mRow m).2.1) = true ∧ chainOk (codT m) = true ∧ rtN (mRow m).2.2.2.1 = retT m ∧ ∃ e es, codT m = e :: es ∧ e.1 = 0
set_option maxRecDepth 100000 in
theorem ea_X0_init : co_X0_init.all (entOk (mRow m_X0_init).2.2.2.2.1 (mRow m_X0_init).2.2.1 (mRow m_X0_init).2.1) = true := by decide +kernel
theorem md_X0_init : mdOk m_X0_init := ⟨ea_X0_init, by decide +kernel, by decide +kernel, _, _, rfl, rfl⟩
set_option maxRecDepth 100000 in
theorem ea_X0_add : co_X0_add.all (entOk (mRow m_X0_add).2.2.2.2.1 (mRow m_X0_add).2.2.1 (mRow m_X0_add).2.1) = true := by decide +kernel
theorem md_X0_add : mdOk m_X0_add := ⟨ea_X0_add, by decide +kernel, by decide +kernel, _, _, rfl, rfl⟩
set_option maxRecDepth 100000 in
theorem ea_X0_rewind : co_X0_rewind.all (entOk (mRow m_X0_rewind).2.2.2.2.1 (mRow m_X0_rewind).2.2.1 (mRow m_X0_rewind).2.1) = true := by decide +kernel
theorem md_X0_rewind : mdOk m_X0_rewind := ⟨ea_X0_rewind, by decide +kernel, by decide +kernel, _, _, rfl, rfl⟩
set_option maxRecDepth 100000 in
theorem ea_X0_findFault : co_X0_findFault.all (entOk (mRow m_X0_findFault).2.2.2.2.1 (mRow m_X0_findFault).2.2.1 (mRow m_X0_findFault).2.1) = true := by decide +kernel
theorem md_X0_findFault : mdOk m_X0_findFault := ⟨ea_X0_findFault, by decide +kernel, by decide +kernel, _, _, rfl, rfl⟩
set_option maxRecDepth 100000 in
theorem ea_X0_readAct : co_X0_readAct.all (entOk (mRow m_X0_readAct).2.2.2.2.1 (mRow m_X0_readAct).2.2.1 (mRow m_X0_readAct).2.1) = true := by decide +kernel
theorem md_X0_readAct : mdOk m_X0_readAct := ⟨ea_X0_readAct, by decide +kernel, by decide +kernel, _, _, rfl, rfl⟩
set_option maxRecDepth 100000 in
theorem ea_X0_readSending : co_X0_readSending.all (entOk (mRow m_X0_readSending).2.2.2.2.1 (mRow m_X0_readSending).2.2.1 (mRow m_X0_readSending).2.1) = true := by decide +kernel
theorem md_X0_readSending : mdOk m_X0_readSending := ⟨ea_X0_readSending, by decide +kernel, by decide +kernel, _, _, rfl, rfl⟩
set_option maxRecDepth 100000 in
theorem ea_X0_readSign : co_X0_readSign.all (entOk (mRow m_X0_readSign).2.2.2.2.1 (mRow m_X0_readSign).2.2.1 (mRow m_X0_readSign).2.1) = true := by decide +kernel
theorem md_X0_readSign : mdOk m_X0_readSign := ⟨ea_X0_readSign, by decide +kernel, by decide +kernel, _, _, rfl, rfl⟩
set_option maxRecDepth 100000 in
theorem ea_X0_readNumber : co_X0_readNumber.all (entOk (mRow m_X0_readNumber).2.2.2.2.1 (mRow m_X0_readNumber).2.2.1 (mRow m_X0_readNumber).2.1) = true := by decide +kernel
theorem md_X0_readNumber : mdOk m_X0_readNumber := ⟨ea_X0_readNumber, by decide +kernel, by decide +kernel, _, _, rfl, rfl⟩
set_option maxRecDepth 100000 in
theorem ea_X0_byteHere : co_X0_byteHere.all (entOk (mRow m_X0_byteHere).2.2.2.2.1 (mRow m_X0_byteHere).2.2.1 (mRow m_X0_byteHere).2.1) = true := by decide +kernel
theorem md_X0_byteHere : mdOk m_X0_byteHere := ⟨ea_X0_byteHere, by decide +kernel, by decide +kernel, _, _, rfl, rfl⟩
set_option maxRecDepth 100000 in
theorem ea_X0_isDigit : co_X0_isDigit.all (entOk (mRow m_X0_isDigit).2.2.2.2.1 (mRow m_X0_isDigit).2.2.1 (mRow m_X0_isDigit).2.1) = true := by decide +kernel
theorem md_X0_isDigit : mdOk m_X0_isDigit := ⟨ea_X0_isDigit, by decide +kernel, by decide +kernel, _, _, rfl, rfl⟩
set_option maxRecDepth 100000 in
theorem ea_X1_init : co_X1_init.all (entOk (mRow m_X1_init).2.2.2.2.1 (mRow m_X1_init).2.2.1 (mRow m_X1_init).2.1) = true := by decide +kernel
theorem md_X1_init : mdOk m_X1_init := ⟨ea_X1_init, by decide +kernel, by decide +kernel, _, _, rfl, rfl⟩
set_option maxRecDepth 100000 in
theorem ea_X1_become : co_X1_become.all (entOk (mRow m_X1_become).2.2.2.2.1 (mRow m_X1_become).2.2.1 (mRow m_X1_become).2.1) = true := by decide +kernel
theorem md_X1_become : mdOk m_X1_become := ⟨ea_X1_become, by decide +kernel, by decide +kernel, _, _, rfl, rfl⟩
set_option maxRecDepth 100000 in
theorem ea_X1_copyFrom : co_X1_copyFrom.all (entOk (mRow m_X1_copyFrom).2.2.2.2.1 (mRow m_X1_copyFrom).2.2.1 (mRow m_X1_copyFrom).2.1) = true := by decide +kernel
theorem md_X1_copyFrom : mdOk m_X1_copyFrom := ⟨ea_X1_copyFrom, by decide +kernel, by decide +kernel, _, _, rfl, rfl⟩
set_option maxRecDepth 100000 in
theorem ea_X1_isAt : co_X1_isAt.all (entOk (mRow m_X1_isAt).2.2.2.2.1 (mRow m_X1_isAt).2.2.1 (mRow m_X1_isAt).2.1) = true := by decide +kernel
theorem md_X1_isAt : mdOk m_X1_isAt := ⟨ea_X1_isAt, by decide +kernel, by decide +kernel, _, _, rfl, rfl⟩
set_option maxRecDepth 100000 in
theorem ea_X1_has : co_X1_has.all (entOk (mRow m_X1_has).2.2.2.2.1 (mRow m_X1_has).2.2.1 (mRow m_X1_has).2.1) = true := by decide +kernel
theorem md_X1_has : mdOk m_X1_has := ⟨ea_X1_has, by decide +kernel, by decide +kernel, _, _, rfl, rfl⟩
set_option maxRecDepth 100000 in
theorem ea_X1_holds : co_X1_holds.all (entOk (mRow m_X1_holds).2.2.2.2.1 (mRow m_X1_holds).2.2.1 (mRow m_X1_holds).2.1) = true := by decide +kernel
theorem md_X1_holds : mdOk m_X1_holds := ⟨ea_X1_holds, by decide +kernel, by decide +kernel, _, _, rfl, rfl⟩
set_option maxRecDepth 100000 in
theorem ea_X1_meets : co_X1_meets.all (entOk (mRow m_X1_meets).2.2.2.2.1 (mRow m_X1_meets).2.2.1 (mRow m_X1_meets).2.1) = true := by decide +kernel
theorem md_X1_meets : mdOk m_X1_meets := ⟨ea_X1_meets, by decide +kernel, by decide +kernel, _, _, rfl, rfl⟩
set_option maxRecDepth 100000 in
theorem ea_X2_init : co_X2_init.all (entOk (mRow m_X2_init).2.2.2.2.1 (mRow m_X2_init).2.2.1 (mRow m_X2_init).2.1) = true := by decide +kernel
theorem md_X2_init : mdOk m_X2_init := ⟨ea_X2_init, by decide +kernel, by decide +kernel, _, _, rfl, rfl⟩
set_option maxRecDepth 100000 in
theorem ea_X2_become : co_X2_become.all (entOk (mRow m_X2_become).2.2.2.2.1 (mRow m_X2_become).2.2.1 (mRow m_X2_become).2.1) = true := by decide +kernel
theorem md_X2_become : mdOk m_X2_become := ⟨ea_X2_become, by decide +kernel, by decide +kernel, _, _, rfl, rfl⟩
set_option maxRecDepth 100000 in
theorem ea_X2_copyFrom : co_X2_copyFrom.all (entOk (mRow m_X2_copyFrom).2.2.2.2.1 (mRow m_X2_copyFrom).2.2.1 (mRow m_X2_copyFrom).2.1) = true := by decide +kernel
theorem md_X2_copyFrom : mdOk m_X2_copyFrom := ⟨ea_X2_copyFrom, by decide +kernel, by decide +kernel, _, _, rfl, rfl⟩
set_option maxRecDepth 100000 in
theorem ea_X2_isHolding : co_X2_isHolding.all (entOk (mRow m_X2_isHolding).2.2.2.2.1 (mRow m_X2_isHolding).2.2.1 (mRow m_X2_isHolding).2.1) = true := by decide +kernel
theorem md_X2_isHolding : mdOk m_X2_isHolding := ⟨ea_X2_isHolding, by decide +kernel, by decide +kernel, _, _, rfl, rfl⟩
set_option maxRecDepth 100000 in
theorem ea_X2_property : co_X2_property.all (entOk (mRow m_X2_property).2.2.2.2.1 (mRow m_X2_property).2.2.1 (mRow m_X2_property).2.1) = true := by decide +kernel
theorem md_X2_property : mdOk m_X2_property := ⟨ea_X2_property, by decide +kernel, by decide +kernel, _, _, rfl, rfl⟩
set_option maxRecDepth 100000 in
theorem ea_X3_init : co_X3_init.all (entOk (mRow m_X3_init).2.2.2.2.1 (mRow m_X3_init).2.2.1 (mRow m_X3_init).2.1) = true := by decide +kernel
theorem md_X3_init : mdOk m_X3_init := ⟨ea_X3_init, by decide +kernel, by decide +kernel, _, _, rfl, rfl⟩
set_option maxRecDepth 100000 in
theorem ea_X3_row : co_X3_row.all (entOk (mRow m_X3_row).2.2.2.2.1 (mRow m_X3_row).2.2.1 (mRow m_X3_row).2.1) = true := by decide +kernel
theorem md_X3_row : mdOk m_X3_row := ⟨ea_X3_row, by decide +kernel, by decide +kernel, _, _, rfl, rfl⟩
set_option maxRecDepth 100000 in
theorem ea_X3_draft : co_X3_draft.all (entOk (mRow m_X3_draft).2.2.2.2.1 (mRow m_X3_draft).2.2.1 (mRow m_X3_draft).2.1) = true := by decide +kernel
theorem md_X3_draft : mdOk m_X3_draft := ⟨ea_X3_draft, by decide +kernel, by decide +kernel, _, _, rfl, rfl⟩
set_option maxRecDepth 100000 in
theorem ea_X3_keepDraft : co_X3_keepDraft.all (entOk (mRow m_X3_keepDraft).2.2.2.2.1 (mRow m_X3_keepDraft).2.2.1 (mRow m_X3_keepDraft).2.1) = true := by decide +kernel
theorem md_X3_keepDraft : mdOk m_X3_keepDraft := ⟨ea_X3_keepDraft, by decide +kernel, by decide +kernel, _, _, rfl, rfl⟩
set_option maxRecDepth 100000 in
theorem ea_X3_takeLatest : co_X3_takeLatest.all (entOk (mRow m_X3_takeLatest).2.2.2.2.1 (mRow m_X3_takeLatest).2.2.1 (mRow m_X3_takeLatest).2.1) = true := by decide +kernel
theorem md_X3_takeLatest : mdOk m_X3_takeLatest := ⟨ea_X3_takeLatest, by decide +kernel, by decide +kernel, _, _, rfl, rfl⟩
set_option maxRecDepth 100000 in
theorem ea_X4_init : co_X4_init.all (entOk (mRow m_X4_init).2.2.2.2.1 (mRow m_X4_init).2.2.1 (mRow m_X4_init).2.1) = true := by decide +kernel
theorem md_X4_init : mdOk m_X4_init := ⟨ea_X4_init, by decide +kernel, by decide +kernel, _, _, rfl, rfl⟩
set_option maxRecDepth 100000 in
theorem ea_X4_start : co_X4_start.all (entOk (mRow m_X4_start).2.2.2.2.1 (mRow m_X4_start).2.2.1 (mRow m_X4_start).2.1) = true := by decide +kernel
theorem md_X4_start : mdOk m_X4_start := ⟨ea_X4_start, by decide +kernel, by decide +kernel, _, _, rfl, rfl⟩
set_option maxRecDepth 100000 in
theorem ea_X4_copyFrom : co_X4_copyFrom.all (entOk (mRow m_X4_copyFrom).2.2.2.2.1 (mRow m_X4_copyFrom).2.2.1 (mRow m_X4_copyFrom).2.1) = true := by decide +kernel
theorem md_X4_copyFrom : mdOk m_X4_copyFrom := ⟨ea_X4_copyFrom, by decide +kernel, by decide +kernel, _, _, rfl, rfl⟩
set_option maxRecDepth 100000 in
theorem ea_X4_isPlace : co_X4_isPlace.all (entOk (mRow m_X4_isPlace).2.2.2.2.1 (mRow m_X4_isPlace).2.2.1 (mRow m_X4_isPlace).2.1) = true := by decide +kernel
theorem md_X4_isPlace : mdOk m_X4_isPlace := ⟨ea_X4_isPlace, by decide +kernel, by decide +kernel, _, _, rfl, rfl⟩
set_option maxRecDepth 100000 in
theorem ea_X4_property : co_X4_property.all (entOk (mRow m_X4_property).2.2.2.2.1 (mRow m_X4_property).2.2.1 (mRow m_X4_property).2.1) = true := by decide +kernel
theorem md_X4_property : mdOk m_X4_property := ⟨ea_X4_property, by decide +kernel, by decide +kernel, _, _, rfl, rfl⟩
set_option maxRecDepth 100000 in
theorem ea_X4_moveToFront : co_X4_moveToFront.all (entOk (mRow m_X4_moveToFront).2.2.2.2.1 (mRow m_X4_moveToFront).2.2.1 (mRow m_X4_moveToFront).2.1) = true := by decide +kernel
theorem md_X4_moveToFront : mdOk m_X4_moveToFront := ⟨ea_X4_moveToFront, by decide +kernel, by decide +kernel, _, _, rfl, rfl⟩
set_option maxRecDepth 100000 in
theorem ea_X4_drop : co_X4_drop.all (entOk (mRow m_X4_drop).2.2.2.2.1 (mRow m_X4_drop).2.2.1 (mRow m_X4_drop).2.1) = true := by decide +kernel
theorem md_X4_drop : mdOk m_X4_drop := ⟨ea_X4_drop, by decide +kernel, by decide +kernel, _, _, rfl, rfl⟩
set_option maxRecDepth 100000 in
theorem ea_X4_dropEnded : co_X4_dropEnded.all (entOk (mRow m_X4_dropEnded).2.2.2.2.1 (mRow m_X4_dropEnded).2.2.1 (mRow m_X4_dropEnded).2.1) = true := by decide +kernel
theorem md_X4_dropEnded : mdOk m_X4_dropEnded := ⟨ea_X4_dropEnded, by decide +kernel, by decide +kernel, _, _, rfl, rfl⟩
set_option maxRecDepth 100000 in
theorem ea_X4_placeOfSite : co_X4_placeOfSite.all (entOk (mRow m_X4_placeOfSite).2.2.2.2.1 (mRow m_X4_placeOfSite).2.2.1 (mRow m_X4_placeOfSite).2.1) = true := by decide +kernel
theorem md_X4_placeOfSite : mdOk m_X4_placeOfSite := ⟨ea_X4_placeOfSite, by decide +kernel, by decide +kernel, _, _, rfl, rfl⟩
set_option maxRecDepth 100000 in
theorem ea_X4_placeOfSmallest : co_X4_placeOfSmallest.all (entOk (mRow m_X4_placeOfSmallest).2.2.2.2.1 (mRow m_X4_placeOfSmallest).2.2.1 (mRow m_X4_placeOfSmallest).2.1) = true := by decide +kernel
theorem md_X4_placeOfSmallest : mdOk m_X4_placeOfSmallest := ⟨ea_X4_placeOfSmallest, by decide +kernel, by decide +kernel, _, _, rfl, rfl⟩
set_option maxRecDepth 100000 in
theorem ea_X4_addMap : co_X4_addMap.all (entOk (mRow m_X4_addMap).2.2.2.2.1 (mRow m_X4_addMap).2.2.1 (mRow m_X4_addMap).2.1) = true := by decide +kernel
theorem md_X4_addMap : mdOk m_X4_addMap := ⟨ea_X4_addMap, by decide +kernel, by decide +kernel, _, _, rfl, rfl⟩
set_option maxRecDepth 100000 in
theorem ea_X5_init : co_X5_init.all (entOk (mRow m_X5_init).2.2.2.2.1 (mRow m_X5_init).2.2.1 (mRow m_X5_init).2.1) = true := by decide +kernel
theorem md_X5_init : mdOk m_X5_init := ⟨ea_X5_init, by decide +kernel, by decide +kernel, _, _, rfl, rfl⟩
set_option maxRecDepth 100000 in
theorem ea_X5_copyFrom : co_X5_copyFrom.all (entOk (mRow m_X5_copyFrom).2.2.2.2.1 (mRow m_X5_copyFrom).2.2.1 (mRow m_X5_copyFrom).2.1) = true := by decide +kernel
theorem md_X5_copyFrom : mdOk m_X5_copyFrom := ⟨ea_X5_copyFrom, by decide +kernel, by decide +kernel, _, _, rfl, rfl⟩
set_option maxRecDepth 100000 in
theorem ea_X6_init : co_X6_init.all (entOk (mRow m_X6_init).2.2.2.2.1 (mRow m_X6_init).2.2.1 (mRow m_X6_init).2.1) = true := by decide +kernel
theorem md_X6_init : mdOk m_X6_init := ⟨ea_X6_init, by decide +kernel, by decide +kernel, _, _, rfl, rfl⟩
set_option maxRecDepth 100000 in
theorem ea_X6_start : co_X6_start.all (entOk (mRow m_X6_start).2.2.2.2.1 (mRow m_X6_start).2.2.1 (mRow m_X6_start).2.1) = true := by decide +kernel
theorem md_X6_start : mdOk m_X6_start := ⟨ea_X6_start, by decide +kernel, by decide +kernel, _, _, rfl, rfl⟩
set_option maxRecDepth 100000 in
theorem ea_X6_copyFrom : co_X6_copyFrom.all (entOk (mRow m_X6_copyFrom).2.2.2.2.1 (mRow m_X6_copyFrom).2.2.1 (mRow m_X6_copyFrom).2.1) = true := by decide +kernel
theorem md_X6_copyFrom : mdOk m_X6_copyFrom := ⟨ea_X6_copyFrom, by decide +kernel, by decide +kernel, _, _, rfl, rfl⟩
set_option maxRecDepth 100000 in
theorem ea_X6_isRegistered : co_X6_isRegistered.all (entOk (mRow m_X6_isRegistered).2.2.2.2.1 (mRow m_X6_isRegistered).2.2.1 (mRow m_X6_isRegistered).2.1) = true := by decide +kernel
theorem md_X6_isRegistered : mdOk m_X6_isRegistered := ⟨ea_X6_isRegistered, by decide +kernel, by decide +kernel, _, _, rfl, rfl⟩
set_option maxRecDepth 100000 in
theorem ea_X6_isUp : co_X6_isUp.all (entOk (mRow m_X6_isUp).2.2.2.2.1 (mRow m_X6_isUp).2.2.1 (mRow m_X6_isUp).2.1) = true := by decide +kernel
theorem md_X6_isUp : mdOk m_X6_isUp := ⟨ea_X6_isUp, by decide +kernel, by decide +kernel, _, _, rfl, rfl⟩
set_option maxRecDepth 100000 in
theorem ea_X7_init : co_X7_init.all (entOk (mRow m_X7_init).2.2.2.2.1 (mRow m_X7_init).2.2.1 (mRow m_X7_init).2.1) = true := by decide +kernel
theorem md_X7_init : mdOk m_X7_init := ⟨ea_X7_init, by decide +kernel, by decide +kernel, _, _, rfl, rfl⟩
set_option maxRecDepth 100000 in
theorem ea_X7_copyFrom : co_X7_copyFrom.all (entOk (mRow m_X7_copyFrom).2.2.2.2.1 (mRow m_X7_copyFrom).2.2.1 (mRow m_X7_copyFrom).2.1) = true := by decide +kernel
theorem md_X7_copyFrom : mdOk m_X7_copyFrom := ⟨ea_X7_copyFrom, by decide +kernel, by decide +kernel, _, _, rfl, rfl⟩
set_option maxRecDepth 100000 in
theorem ea_X7_fill : co_X7_fill.all (entOk (mRow m_X7_fill).2.2.2.2.1 (mRow m_X7_fill).2.2.1 (mRow m_X7_fill).2.1) = true := by decide +kernel
theorem md_X7_fill : mdOk m_X7_fill := ⟨ea_X7_fill, by decide +kernel, by decide +kernel, _, _, rfl, rfl⟩
set_option maxRecDepth 100000 in
theorem ea_X7_propertyOf : co_X7_propertyOf.all (entOk (mRow m_X7_propertyOf).2.2.2.2.1 (mRow m_X7_propertyOf).2.2.1 (mRow m_X7_propertyOf).2.1) = true := by decide +kernel
theorem md_X7_propertyOf : mdOk m_X7_propertyOf := ⟨ea_X7_propertyOf, by decide +kernel, by decide +kernel, _, _, rfl, rfl⟩
set_option maxRecDepth 100000 in
theorem ea_X7_isEmpty : co_X7_isEmpty.all (entOk (mRow m_X7_isEmpty).2.2.2.2.1 (mRow m_X7_isEmpty).2.2.1 (mRow m_X7_isEmpty).2.1) = true := by decide +kernel
theorem md_X7_isEmpty : mdOk m_X7_isEmpty := ⟨ea_X7_isEmpty, by decide +kernel, by decide +kernel, _, _, rfl, rfl⟩
set_option maxRecDepth 100000 in
theorem ea_X7_areEmpty : co_X7_areEmpty.all (entOk (mRow m_X7_areEmpty).2.2.2.2.1 (mRow m_X7_areEmpty).2.2.1 (mRow m_X7_areEmpty).2.1) = true := by decide +kernel
theorem md_X7_areEmpty : mdOk m_X7_areEmpty := ⟨ea_X7_areEmpty, by decide +kernel, by decide +kernel, _, _, rfl, rfl⟩
set_option maxRecDepth 100000 in
theorem ea_X7_have : co_X7_have.all (entOk (mRow m_X7_have).2.2.2.2.1 (mRow m_X7_have).2.2.1 (mRow m_X7_have).2.1) = true := by decide +kernel
theorem md_X7_have : mdOk m_X7_have := ⟨ea_X7_have, by decide +kernel, by decide +kernel, _, _, rfl, rfl⟩
set_option maxRecDepth 100000 in
theorem ea_X7_lowestPriority : co_X7_lowestPriority.all (entOk (mRow m_X7_lowestPriority).2.2.2.2.1 (mRow m_X7_lowestPriority).2.2.1 (mRow m_X7_lowestPriority).2.1) = true := by decide +kernel
theorem md_X7_lowestPriority : mdOk m_X7_lowestPriority := ⟨ea_X7_lowestPriority, by decide +kernel, by decide +kernel, _, _, rfl, rfl⟩
set_option maxRecDepth 100000 in
theorem ea_X7_weightThatCounts : co_X7_weightThatCounts.all (entOk (mRow m_X7_weightThatCounts).2.2.2.2.1 (mRow m_X7_weightThatCounts).2.2.1 (mRow m_X7_weightThatCounts).2.1) = true := by decide +kernel
theorem md_X7_weightThatCounts : mdOk m_X7_weightThatCounts := ⟨ea_X7_weightThatCounts, by decide +kernel, by decide +kernel, _, _, rfl, rfl⟩
set_option maxRecDepth 100000 in
theorem ea_X7_placeFor : co_X7_placeFor.all (entOk (mRow m_X7_placeFor).2.2.2.2.1 (mRow m_X7_placeFor).2.2.1 (mRow m_X7_placeFor).2.1) = true := by decide +kernel
theorem md_X7_placeFor : mdOk m_X7_placeFor := ⟨ea_X7_placeFor, by decide +kernel, by decide +kernel, _, _, rfl, rfl⟩
set_option maxRecDepth 100000 in
theorem ea_X7_flowsTo : co_X7_flowsTo.all (entOk (mRow m_X7_flowsTo).2.2.2.2.1 (mRow m_X7_flowsTo).2.2.1 (mRow m_X7_flowsTo).2.1) = true := by decide +kernel
theorem md_X7_flowsTo : mdOk m_X7_flowsTo := ⟨ea_X7_flowsTo, by decide +kernel, by decide +kernel, _, _, rfl, rfl⟩
set_option maxRecDepth 100000 in
theorem ea_X8_init : co_X8_init.all (entOk (mRow m_X8_init).2.2.2.2.1 (mRow m_X8_init).2.2.1 (mRow m_X8_init).2.1) = true := by decide +kernel
theorem md_X8_init : mdOk m_X8_init := ⟨ea_X8_init, by decide +kernel, by decide +kernel, _, _, rfl, rfl⟩
set_option maxRecDepth 100000 in
theorem ea_X8_copyFrom : co_X8_copyFrom.all (entOk (mRow m_X8_copyFrom).2.2.2.2.1 (mRow m_X8_copyFrom).2.2.1 (mRow m_X8_copyFrom).2.1) = true := by decide +kernel
theorem md_X8_copyFrom : mdOk m_X8_copyFrom := ⟨ea_X8_copyFrom, by decide +kernel, by decide +kernel, _, _, rfl, rfl⟩
set_option maxRecDepth 100000 in
theorem ea_X8_isServer : co_X8_isServer.all (entOk (mRow m_X8_isServer).2.2.2.2.1 (mRow m_X8_isServer).2.2.1 (mRow m_X8_isServer).2.1) = true := by decide +kernel
theorem md_X8_isServer : mdOk m_X8_isServer := ⟨ea_X8_isServer, by decide +kernel, by decide +kernel, _, _, rfl, rfl⟩
set_option maxRecDepth 100000 in
theorem ea_X8_isSite : co_X8_isSite.all (entOk (mRow m_X8_isSite).2.2.2.2.1 (mRow m_X8_isSite).2.2.1 (mRow m_X8_isSite).2.1) = true := by decide +kernel
theorem md_X8_isSite : mdOk m_X8_isSite := ⟨ea_X8_isSite, by decide +kernel, by decide +kernel, _, _, rfl, rfl⟩
set_option maxRecDepth 100000 in
theorem ea_X8_isRouter : co_X8_isRouter.all (entOk (mRow m_X8_isRouter).2.2.2.2.1 (mRow m_X8_isRouter).2.2.1 (mRow m_X8_isRouter).2.1) = true := by decide +kernel
theorem md_X8_isRouter : mdOk m_X8_isRouter := ⟨ea_X8_isRouter, by decide +kernel, by decide +kernel, _, _, rfl, rfl⟩
set_option maxRecDepth 100000 in
theorem ea_X8_newServer : co_X8_newServer.all (entOk (mRow m_X8_newServer).2.2.2.2.1 (mRow m_X8_newServer).2.2.1 (mRow m_X8_newServer).2.1) = true := by decide +kernel
theorem md_X8_newServer : mdOk m_X8_newServer := ⟨ea_X8_newServer, by decide +kernel, by decide +kernel, _, _, rfl, rfl⟩
set_option maxRecDepth 100000 in
theorem ea_X8_newSite : co_X8_newSite.all (entOk (mRow m_X8_newSite).2.2.2.2.1 (mRow m_X8_newSite).2.2.1 (mRow m_X8_newSite).2.1) = true := by decide +kernel
theorem md_X8_newSite : mdOk m_X8_newSite := ⟨ea_X8_newSite, by decide +kernel, by decide +kernel, _, _, rfl, rfl⟩
set_option maxRecDepth 100000 in
theorem ea_X8_newRouter : co_X8_newRouter.all (entOk (mRow m_X8_newRouter).2.2.2.2.1 (mRow m_X8_newRouter).2.2.1 (mRow m_X8_newRouter).2.1) = true := by decide +kernel
theorem md_X8_newRouter : mdOk m_X8_newRouter := ⟨ea_X8_newRouter, by decide +kernel, by decide +kernel, _, _, rfl, rfl⟩
set_option maxRecDepth 100000 in
theorem ea_X8_fillSlot : co_X8_fillSlot.all (entOk (mRow m_X8_fillSlot).2.2.2.2.1 (mRow m_X8_fillSlot).2.2.1 (mRow m_X8_fillSlot).2.1) = true := by decide +kernel
theorem md_X8_fillSlot : mdOk m_X8_fillSlot := ⟨ea_X8_fillSlot, by decide +kernel, by decide +kernel, _, _, rfl, rfl⟩
set_option maxRecDepth 100000 in
theorem ea_X8_vacateSlot : co_X8_vacateSlot.all (entOk (mRow m_X8_vacateSlot).2.2.2.2.1 (mRow m_X8_vacateSlot).2.2.1 (mRow m_X8_vacateSlot).2.1) = true := by decide +kernel
theorem md_X8_vacateSlot : mdOk m_X8_vacateSlot := ⟨ea_X8_vacateSlot, by decide +kernel, by decide +kernel, _, _, rfl, rfl⟩
set_option maxRecDepth 100000 in
theorem ea_X8_startRegistration : co_X8_startRegistration.all (entOk (mRow m_X8_startRegistration).2.2.2.2.1 (mRow m_X8_startRegistration).2.2.1 (mRow m_X8_startRegistration).2.1) = true := by decide +kernel
theorem md_X8_startRegistration : mdOk m_X8_startRegistration := ⟨ea_X8_startRegistration, by decide +kernel, by decide +kernel, _, _, rfl, rfl⟩
set_option maxRecDepth 100000 in
theorem ea_X8_endRegistration : co_X8_endRegistration.all (entOk (mRow m_X8_endRegistration).2.2.2.2.1 (mRow m_X8_endRegistration).2.2.1 (mRow m_X8_endRegistration).2.1) = true := by decide +kernel
theorem md_X8_endRegistration : mdOk m_X8_endRegistration := ⟨ea_X8_endRegistration, by decide +kernel, by decide +kernel, _, _, rfl, rfl⟩
set_option maxRecDepth 100000 in
theorem ea_X8_changeMapLife : co_X8_changeMapLife.all (entOk (mRow m_X8_changeMapLife).2.2.2.2.1 (mRow m_X8_changeMapLife).2.2.1 (mRow m_X8_changeMapLife).2.1) = true := by decide +kernel
theorem md_X8_changeMapLife : mdOk m_X8_changeMapLife := ⟨ea_X8_changeMapLife, by decide +kernel, by decide +kernel, _, _, rfl, rfl⟩
set_option maxRecDepth 100000 in
theorem ea_X8_letPass : co_X8_letPass.all (entOk (mRow m_X8_letPass).2.2.2.2.1 (mRow m_X8_letPass).2.2.1 (mRow m_X8_letPass).2.1) = true := by decide +kernel
theorem md_X8_letPass : mdOk m_X8_letPass := ⟨ea_X8_letPass, by decide +kernel, by decide +kernel, _, _, rfl, rfl⟩
set_option maxRecDepth 100000 in
theorem ea_X8_emptyCache : co_X8_emptyCache.all (entOk (mRow m_X8_emptyCache).2.2.2.2.1 (mRow m_X8_emptyCache).2.2.1 (mRow m_X8_emptyCache).2.1) = true := by decide +kernel
theorem md_X8_emptyCache : mdOk m_X8_emptyCache := ⟨ea_X8_emptyCache, by decide +kernel, by decide +kernel, _, _, rfl, rfl⟩
set_option maxRecDepth 100000 in
theorem ea_X8_sendLetter : co_X8_sendLetter.all (entOk (mRow m_X8_sendLetter).2.2.2.2.1 (mRow m_X8_sendLetter).2.2.1 (mRow m_X8_sendLetter).2.1) = true := by decide +kernel
theorem md_X8_sendLetter : mdOk m_X8_sendLetter := ⟨ea_X8_sendLetter, by decide +kernel, by decide +kernel, _, _, rfl, rfl⟩
set_option maxRecDepth 100000 in
theorem ea_X8_placeByMap : co_X8_placeByMap.all (entOk (mRow m_X8_placeByMap).2.2.2.2.1 (mRow m_X8_placeByMap).2.2.1 (mRow m_X8_placeByMap).2.1) = true := by decide +kernel
theorem md_X8_placeByMap : mdOk m_X8_placeByMap := ⟨ea_X8_placeByMap, by decide +kernel, by decide +kernel, _, _, rfl, rfl⟩
set_option maxRecDepth 100000 in
theorem ea_X8_ask : co_X8_ask.all (entOk (mRow m_X8_ask).2.2.2.2.1 (mRow m_X8_ask).2.2.1 (mRow m_X8_ask).2.1) = true := by decide +kernel
theorem md_X8_ask : mdOk m_X8_ask := ⟨ea_X8_ask, by decide +kernel, by decide +kernel, _, _, rfl, rfl⟩
set_option maxRecDepth 100000 in
theorem ea_X8_goByProxy : co_X8_goByProxy.all (entOk (mRow m_X8_goByProxy).2.2.2.2.1 (mRow m_X8_goByProxy).2.2.1 (mRow m_X8_goByProxy).2.1) = true := by decide +kernel
theorem md_X8_goByProxy : mdOk m_X8_goByProxy := ⟨ea_X8_goByProxy, by decide +kernel, by decide +kernel, _, _, rfl, rfl⟩
set_option maxRecDepth 100000 in
theorem ea_X8_homeOf : co_X8_homeOf.all (entOk (mRow m_X8_homeOf).2.2.2.2.1 (mRow m_X8_homeOf).2.2.1 (mRow m_X8_homeOf).2.1) = true := by decide +kernel
theorem md_X8_homeOf : mdOk m_X8_homeOf := ⟨ea_X8_homeOf, by decide +kernel, by decide +kernel, _, _, rfl, rfl⟩
set_option maxRecDepth 100000 in
theorem ea_X8_homeOfSite : co_X8_homeOfSite.all (entOk (mRow m_X8_homeOfSite).2.2.2.2.1 (mRow m_X8_homeOfSite).2.2.1 (mRow m_X8_homeOfSite).2.1) = true := by decide +kernel
theorem md_X8_homeOfSite : mdOk m_X8_homeOfSite := ⟨ea_X8_homeOfSite, by decide +kernel, by decide +kernel, _, _, rfl, rfl⟩
set_option maxRecDepth 100000 in
theorem ea_X8_hopsTo : co_X8_hopsTo.all (entOk (mRow m_X8_hopsTo).2.2.2.2.1 (mRow m_X8_hopsTo).2.2.1 (mRow m_X8_hopsTo).2.1) = true := by decide +kernel
theorem md_X8_hopsTo : mdOk m_X8_hopsTo := ⟨ea_X8_hopsTo, by decide +kernel, by decide +kernel, _, _, rfl, rfl⟩
set_option maxRecDepth 100000 in
theorem ea_X8_answerFor : co_X8_answerFor.all (entOk (mRow m_X8_answerFor).2.2.2.2.1 (mRow m_X8_answerFor).2.2.1 (mRow m_X8_answerFor).2.1) = true := by decide +kernel
theorem md_X8_answerFor : mdOk m_X8_answerFor := ⟨ea_X8_answerFor, by decide +kernel, by decide +kernel, _, _, rfl, rfl⟩
set_option maxRecDepth 100000 in
theorem ea_X8_siteEndingAt : co_X8_siteEndingAt.all (entOk (mRow m_X8_siteEndingAt).2.2.2.2.1 (mRow m_X8_siteEndingAt).2.2.1 (mRow m_X8_siteEndingAt).2.1) = true := by decide +kernel
theorem md_X8_siteEndingAt : mdOk m_X8_siteEndingAt := ⟨ea_X8_siteEndingAt, by decide +kernel, by decide +kernel, _, _, rfl, rfl⟩
set_option maxRecDepth 100000 in
theorem ea_X8_sitesEndingAheadOf : co_X8_sitesEndingAheadOf.all (entOk (mRow m_X8_sitesEndingAheadOf).2.2.2.2.1 (mRow m_X8_sitesEndingAheadOf).2.2.1 (mRow m_X8_sitesEndingAheadOf).2.1) = true := by decide +kernel
theorem md_X8_sitesEndingAheadOf : mdOk m_X8_sitesEndingAheadOf := ⟨ea_X8_sitesEndingAheadOf, by decide +kernel, by decide +kernel, _, _, rfl, rfl⟩
set_option maxRecDepth 100000 in
theorem ea_X8_serverProperty : co_X8_serverProperty.all (entOk (mRow m_X8_serverProperty).2.2.2.2.1 (mRow m_X8_serverProperty).2.2.1 (mRow m_X8_serverProperty).2.1) = true := by decide +kernel
theorem md_X8_serverProperty : mdOk m_X8_serverProperty := ⟨ea_X8_serverProperty, by decide +kernel, by decide +kernel, _, _, rfl, rfl⟩
set_option maxRecDepth 100000 in
theorem ea_X8_childrenOf : co_X8_childrenOf.all (entOk (mRow m_X8_childrenOf).2.2.2.2.1 (mRow m_X8_childrenOf).2.2.1 (mRow m_X8_childrenOf).2.1) = true := by decide +kernel
theorem md_X8_childrenOf : mdOk m_X8_childrenOf := ⟨ea_X8_childrenOf, by decide +kernel, by decide +kernel, _, _, rfl, rfl⟩
set_option maxRecDepth 100000 in
theorem ea_X8_sitesAtHome : co_X8_sitesAtHome.all (entOk (mRow m_X8_sitesAtHome).2.2.2.2.1 (mRow m_X8_sitesAtHome).2.2.1 (mRow m_X8_sitesAtHome).2.1) = true := by decide +kernel
theorem md_X8_sitesAtHome : mdOk m_X8_sitesAtHome := ⟨ea_X8_sitesAtHome, by decide +kernel, by decide +kernel, _, _, rfl, rfl⟩
set_option maxRecDepth 100000 in
theorem ea_X8_siteProperty : co_X8_siteProperty.all (entOk (mRow m_X8_siteProperty).2.2.2.2.1 (mRow m_X8_siteProperty).2.2.1 (mRow m_X8_siteProperty).2.1) = true := by decide +kernel
theorem md_X8_siteProperty : mdOk m_X8_siteProperty := ⟨ea_X8_siteProperty, by decide +kernel, by decide +kernel, _, _, rfl, rfl⟩
set_option maxRecDepth 100000 in
theorem ea_X8_mapsOf : co_X8_mapsOf.all (entOk (mRow m_X8_mapsOf).2.2.2.2.1 (mRow m_X8_mapsOf).2.2.1 (mRow m_X8_mapsOf).2.1) = true := by decide +kernel
theorem md_X8_mapsOf : mdOk m_X8_mapsOf := ⟨ea_X8_mapsOf, by decide +kernel, by decide +kernel, _, _, rfl, rfl⟩
set_option maxRecDepth 100000 in
theorem ea_X8_totalOf : co_X8_totalOf.all (entOk (mRow m_X8_totalOf).2.2.2.2.1 (mRow m_X8_totalOf).2.2.1 (mRow m_X8_totalOf).2.1) = true := by decide +kernel
theorem md_X8_totalOf : mdOk m_X8_totalOf := ⟨ea_X8_totalOf, by decide +kernel, by decide +kernel, _, _, rfl, rfl⟩
set_option maxRecDepth 100000 in
theorem ea_X8_sitesUp : co_X8_sitesUp.all (entOk (mRow m_X8_sitesUp).2.2.2.2.1 (mRow m_X8_sitesUp).2.2.1 (mRow m_X8_sitesUp).2.1) = true := by decide +kernel
theorem md_X8_sitesUp : mdOk m_X8_sitesUp := ⟨ea_X8_sitesUp, by decide +kernel, by decide +kernel, _, _, rfl, rfl⟩
set_option maxRecDepth 100000 in
theorem ea_X8_sumOverRouters : co_X8_sumOverRouters.all (entOk (mRow m_X8_sumOverRouters).2.2.2.2.1 (mRow m_X8_sumOverRouters).2.2.1 (mRow m_X8_sumOverRouters).2.1) = true := by decide +kernel
theorem md_X8_sumOverRouters : mdOk m_X8_sumOverRouters := ⟨ea_X8_sumOverRouters, by decide +kernel, by decide +kernel, _, _, rfl, rfl⟩
set_option maxRecDepth 100000 in
theorem ea_X8_namesWithAnswer : co_X8_namesWithAnswer.all (entOk (mRow m_X8_namesWithAnswer).2.2.2.2.1 (mRow m_X8_namesWithAnswer).2.2.1 (mRow m_X8_namesWithAnswer).2.1) = true := by decide +kernel
theorem md_X8_namesWithAnswer : mdOk m_X8_namesWithAnswer := ⟨ea_X8_namesWithAnswer, by decide +kernel, by decide +kernel, _, _, rfl, rfl⟩
set_option maxRecDepth 100000 in
theorem ea_X9_init : co_X9_init.all (entOk (mRow m_X9_init).2.2.2.2.1 (mRow m_X9_init).2.2.1 (mRow m_X9_init).2.1) = true := by decide +kernel
theorem md_X9_init : mdOk m_X9_init := ⟨ea_X9_init, by decide +kernel, by decide +kernel, _, _, rfl, rfl⟩
set_option maxRecDepth 100000 in
theorem ea_X9_addServer : co_X9_addServer.all (entOk (mRow m_X9_addServer).2.2.2.2.1 (mRow m_X9_addServer).2.2.1 (mRow m_X9_addServer).2.1) = true := by decide +kernel
theorem md_X9_addServer : mdOk m_X9_addServer := ⟨ea_X9_addServer, by decide +kernel, by decide +kernel, _, _, rfl, rfl⟩
set_option maxRecDepth 100000 in
theorem ea_X9_addSite : co_X9_addSite.all (entOk (mRow m_X9_addSite).2.2.2.2.1 (mRow m_X9_addSite).2.2.1 (mRow m_X9_addSite).2.1) = true := by decide +kernel
theorem md_X9_addSite : mdOk m_X9_addSite := ⟨ea_X9_addSite, by decide +kernel, by decide +kernel, _, _, rfl, rfl⟩
set_option maxRecDepth 100000 in
theorem ea_X9_addRouter : co_X9_addRouter.all (entOk (mRow m_X9_addRouter).2.2.2.2.1 (mRow m_X9_addRouter).2.2.1 (mRow m_X9_addRouter).2.1) = true := by decide +kernel
theorem md_X9_addRouter : mdOk m_X9_addRouter := ⟨ea_X9_addRouter, by decide +kernel, by decide +kernel, _, _, rfl, rfl⟩
set_option maxRecDepth 100000 in
theorem ea_X9_setSlot : co_X9_setSlot.all (entOk (mRow m_X9_setSlot).2.2.2.2.1 (mRow m_X9_setSlot).2.2.1 (mRow m_X9_setSlot).2.1) = true := by decide +kernel
theorem md_X9_setSlot : mdOk m_X9_setSlot := ⟨ea_X9_setSlot, by decide +kernel, by decide +kernel, _, _, rfl, rfl⟩
set_option maxRecDepth 100000 in
theorem ea_X9_emptySlot : co_X9_emptySlot.all (entOk (mRow m_X9_emptySlot).2.2.2.2.1 (mRow m_X9_emptySlot).2.2.1 (mRow m_X9_emptySlot).2.1) = true := by decide +kernel
theorem md_X9_emptySlot : mdOk m_X9_emptySlot := ⟨ea_X9_emptySlot, by decide +kernel, by decide +kernel, _, _, rfl, rfl⟩
set_option maxRecDepth 100000 in
theorem ea_X9_register : co_X9_register.all (entOk (mRow m_X9_register).2.2.2.2.1 (mRow m_X9_register).2.2.1 (mRow m_X9_register).2.1) = true := by decide +kernel
theorem md_X9_register : mdOk m_X9_register := ⟨ea_X9_register, by decide +kernel, by decide +kernel, _, _, rfl, rfl⟩
set_option maxRecDepth 100000 in
theorem ea_X9_unregister : co_X9_unregister.all (entOk (mRow m_X9_unregister).2.2.2.2.1 (mRow m_X9_unregister).2.2.1 (mRow m_X9_unregister).2.1) = true := by decide +kernel
theorem md_X9_unregister : mdOk m_X9_unregister := ⟨ea_X9_unregister, by decide +kernel, by decide +kernel, _, _, rfl, rfl⟩
set_option maxRecDepth 100000 in
theorem ea_X9_setMapLife : co_X9_setMapLife.all (entOk (mRow m_X9_setMapLife).2.2.2.2.1 (mRow m_X9_setMapLife).2.2.1 (mRow m_X9_setMapLife).2.1) = true := by decide +kernel
theorem md_X9_setMapLife : mdOk m_X9_setMapLife := ⟨ea_X9_setMapLife, by decide +kernel, by decide +kernel, _, _, rfl, rfl⟩
set_option maxRecDepth 100000 in
theorem ea_X9_send : co_X9_send.all (entOk (mRow m_X9_send).2.2.2.2.1 (mRow m_X9_send).2.2.1 (mRow m_X9_send).2.1) = true := by decide +kernel
theorem md_X9_send : mdOk m_X9_send := ⟨ea_X9_send, by decide +kernel, by decide +kernel, _, _, rfl, rfl⟩
set_option maxRecDepth 100000 in
theorem ea_X9_pass : co_X9_pass.all (entOk (mRow m_X9_pass).2.2.2.2.1 (mRow m_X9_pass).2.2.1 (mRow m_X9_pass).2.1) = true := by decide +kernel
theorem md_X9_pass : mdOk m_X9_pass := ⟨ea_X9_pass, by decide +kernel, by decide +kernel, _, _, rfl, rfl⟩
set_option maxRecDepth 100000 in
theorem ea_X9_forget : co_X9_forget.all (entOk (mRow m_X9_forget).2.2.2.2.1 (mRow m_X9_forget).2.2.1 (mRow m_X9_forget).2.1) = true := by decide +kernel
theorem md_X9_forget : mdOk m_X9_forget := ⟨ea_X9_forget, by decide +kernel, by decide +kernel, _, _, rfl, rfl⟩
set_option maxRecDepth 100000 in
theorem ea_X9_append : co_X9_append.all (entOk (mRow m_X9_append).2.2.2.2.1 (mRow m_X9_append).2.2.1 (mRow m_X9_append).2.1) = true := by decide +kernel
theorem md_X9_append : mdOk m_X9_append := ⟨ea_X9_append, by decide +kernel, by decide +kernel, _, _, rfl, rfl⟩
set_option maxRecDepth 100000 in
theorem ea_X9_clearText : co_X9_clearText.all (entOk (mRow m_X9_clearText).2.2.2.2.1 (mRow m_X9_clearText).2.2.1 (mRow m_X9_clearText).2.1) = true := by decide +kernel
theorem md_X9_clearText : mdOk m_X9_clearText := ⟨ea_X9_clearText, by decide +kernel, by decide +kernel, _, _, rfl, rfl⟩
set_option maxRecDepth 100000 in
theorem ea_X9_faultPosition : co_X9_faultPosition.all (entOk (mRow m_X9_faultPosition).2.2.2.2.1 (mRow m_X9_faultPosition).2.2.1 (mRow m_X9_faultPosition).2.1) = true := by decide +kernel
theorem md_X9_faultPosition : mdOk m_X9_faultPosition := ⟨ea_X9_faultPosition, by decide +kernel, by decide +kernel, _, _, rfl, rfl⟩
set_option maxRecDepth 100000 in
theorem ea_X9_run : co_X9_run.all (entOk (mRow m_X9_run).2.2.2.2.1 (mRow m_X9_run).2.2.1 (mRow m_X9_run).2.1) = true := by decide +kernel
theorem md_X9_run : mdOk m_X9_run := ⟨ea_X9_run, by decide +kernel, by decide +kernel, _, _, rfl, rfl⟩
set_option maxRecDepth 100000 in
theorem ea_X9_undo : co_X9_undo.all (entOk (mRow m_X9_undo).2.2.2.2.1 (mRow m_X9_undo).2.2.1 (mRow m_X9_undo).2.1) = true := by decide +kernel
theorem md_X9_undo : mdOk m_X9_undo := ⟨ea_X9_undo, by decide +kernel, by decide +kernel, _, _, rfl, rfl⟩
set_option maxRecDepth 100000 in
theorem ea_X9_save : co_X9_save.all (entOk (mRow m_X9_save).2.2.2.2.1 (mRow m_X9_save).2.2.1 (mRow m_X9_save).2.1) = true := by decide +kernel
theorem md_X9_save : mdOk m_X9_save := ⟨ea_X9_save, by decide +kernel, by decide +kernel, _, _, rfl, rfl⟩
set_option maxRecDepth 100000 in
theorem ea_X9_restore : co_X9_restore.all (entOk (mRow m_X9_restore).2.2.2.2.1 (mRow m_X9_restore).2.2.1 (mRow m_X9_restore).2.1) = true := by decide +kernel
theorem md_X9_restore : mdOk m_X9_restore := ⟨ea_X9_restore, by decide +kernel, by decide +kernel, _, _, rfl, rfl⟩
set_option maxRecDepth 100000 in
theorem ea_X9_server : co_X9_server.all (entOk (mRow m_X9_server).2.2.2.2.1 (mRow m_X9_server).2.2.1 (mRow m_X9_server).2.1) = true := by decide +kernel
theorem md_X9_server : mdOk m_X9_server := ⟨ea_X9_server, by decide +kernel, by decide +kernel, _, _, rfl, rfl⟩
set_option maxRecDepth 100000 in
theorem ea_X9_site : co_X9_site.all (entOk (mRow m_X9_site).2.2.2.2.1 (mRow m_X9_site).2.2.1 (mRow m_X9_site).2.1) = true := by decide +kernel
theorem md_X9_site : mdOk m_X9_site := ⟨ea_X9_site, by decide +kernel, by decide +kernel, _, _, rfl, rfl⟩
set_option maxRecDepth 100000 in
theorem ea_X9_slot : co_X9_slot.all (entOk (mRow m_X9_slot).2.2.2.2.1 (mRow m_X9_slot).2.2.1 (mRow m_X9_slot).2.1) = true := by decide +kernel
theorem md_X9_slot : mdOk m_X9_slot := ⟨ea_X9_slot, by decide +kernel, by decide +kernel, _, _, rfl, rfl⟩
set_option maxRecDepth 100000 in
theorem ea_X9_router : co_X9_router.all (entOk (mRow m_X9_router).2.2.2.2.1 (mRow m_X9_router).2.2.1 (mRow m_X9_router).2.1) = true := by decide +kernel
theorem md_X9_router : mdOk m_X9_router := ⟨ea_X9_router, by decide +kernel, by decide +kernel, _, _, rfl, rfl⟩
set_option maxRecDepth 100000 in
theorem ea_X9_map : co_X9_map.all (entOk (mRow m_X9_map).2.2.2.2.1 (mRow m_X9_map).2.2.1 (mRow m_X9_map).2.1) = true := by decide +kernel
theorem md_X9_map : mdOk m_X9_map := ⟨ea_X9_map, by decide +kernel, by decide +kernel, _, _, rfl, rfl⟩
set_option maxRecDepth 100000 in
theorem ea_X9_answer : co_X9_answer.all (entOk (mRow m_X9_answer).2.2.2.2.1 (mRow m_X9_answer).2.2.1 (mRow m_X9_answer).2.1) = true := by decide +kernel
theorem md_X9_answer : mdOk m_X9_answer := ⟨ea_X9_answer, by decide +kernel, by decide +kernel, _, _, rfl, rfl⟩
set_option maxRecDepth 100000 in
theorem ea_X9_way : co_X9_way.all (entOk (mRow m_X9_way).2.2.2.2.1 (mRow m_X9_way).2.2.1 (mRow m_X9_way).2.1) = true := by decide +kernel
theorem md_X9_way : mdOk m_X9_way := ⟨ea_X9_way, by decide +kernel, by decide +kernel, _, _, rfl, rfl⟩
set_option maxRecDepth 100000 in
theorem ea_X9_endingNext : co_X9_endingNext.all (entOk (mRow m_X9_endingNext).2.2.2.2.1 (mRow m_X9_endingNext).2.2.1 (mRow m_X9_endingNext).2.1) = true := by decide +kernel
theorem md_X9_endingNext : mdOk m_X9_endingNext := ⟨ea_X9_endingNext, by decide +kernel, by decide +kernel, _, _, rfl, rfl⟩
set_option maxRecDepth 100000 in
theorem ea_X9_total : co_X9_total.all (entOk (mRow m_X9_total).2.2.2.2.1 (mRow m_X9_total).2.2.1 (mRow m_X9_total).2.1) = true := by decide +kernel
theorem md_X9_total : mdOk m_X9_total := ⟨ea_X9_total, by decide +kernel, by decide +kernel, _, _, rfl, rfl⟩
set_option maxRecDepth 100000 in
theorem ea_X9_wouldReach : co_X9_wouldReach.all (entOk (mRow m_X9_wouldReach).2.2.2.2.1 (mRow m_X9_wouldReach).2.2.1 (mRow m_X9_wouldReach).2.1) = true := by decide +kernel
theorem md_X9_wouldReach : mdOk m_X9_wouldReach := ⟨ea_X9_wouldReach, by decide +kernel, by decide +kernel, _, _, rfl, rfl⟩
set_option maxRecDepth 100000 in
theorem ea_X9_wouldAsk : co_X9_wouldAsk.all (entOk (mRow m_X9_wouldAsk).2.2.2.2.1 (mRow m_X9_wouldAsk).2.2.1 (mRow m_X9_wouldAsk).2.1) = true := by decide +kernel
theorem md_X9_wouldAsk : mdOk m_X9_wouldAsk := ⟨ea_X9_wouldAsk, by decide +kernel, by decide +kernel, _, _, rfl, rfl⟩
set_option maxRecDepth 100000 in
theorem ea_X9_share : co_X9_share.all (entOk (mRow m_X9_share).2.2.2.2.1 (mRow m_X9_share).2.2.1 (mRow m_X9_share).2.1) = true := by decide +kernel
theorem md_X9_share : mdOk m_X9_share := ⟨ea_X9_share, by decide +kernel, by decide +kernel, _, _, rfl, rfl⟩
set_option maxRecDepth 100000 in
theorem ea_X9_recorded : co_X9_recorded.all (entOk (mRow m_X9_recorded).2.2.2.2.1 (mRow m_X9_recorded).2.2.1 (mRow m_X9_recorded).2.1) = true := by decide +kernel
theorem md_X9_recorded : mdOk m_X9_recorded := ⟨ea_X9_recorded, by decide +kernel, by decide +kernel, _, _, rfl, rfl⟩
set_option maxRecDepth 100000 in
theorem ea_X9_carryOutAct : co_X9_carryOutAct.all (entOk (mRow m_X9_carryOutAct).2.2.2.2.1 (mRow m_X9_carryOutAct).2.2.1 (mRow m_X9_carryOutAct).2.1) = true := by decide +kernel
theorem md_X9_carryOutAct : mdOk m_X9_carryOutAct := ⟨ea_X9_carryOutAct, by decide +kernel, by decide +kernel, _, _, rfl, rfl⟩
set_option maxRecDepth 100000 in
theorem ea_X9_isSave : co_X9_isSave.all (entOk (mRow m_X9_isSave).2.2.2.2.1 (mRow m_X9_isSave).2.2.1 (mRow m_X9_isSave).2.1) = true := by decide +kernel
theorem md_X9_isSave : mdOk m_X9_isSave := ⟨ea_X9_isSave, by decide +kernel, by decide +kernel, _, _, rfl, rfl⟩
set_option maxRecDepth 100000 in
theorem ea_X9_isSlot : co_X9_isSlot.all (entOk (mRow m_X9_isSlot).2.2.2.2.1 (mRow m_X9_isSlot).2.2.1 (mRow m_X9_isSlot).2.1) = true := by decide +kernel
theorem md_X9_isSlot : mdOk m_X9_isSlot := ⟨ea_X9_isSlot, by decide +kernel, by decide +kernel, _, _, rfl, rfl⟩
set_option maxRecDepth 100000 in
theorem ea_X9_isName : co_X9_isName.all (entOk (mRow m_X9_isName).2.2.2.2.1 (mRow m_X9_isName).2.2.1 (mRow m_X9_isName).2.1) = true := by decide +kernel
theorem md_X9_isName : mdOk m_X9_isName := ⟨ea_X9_isName, by decide +kernel, by decide +kernel, _, _, rfl, rfl⟩
set_option maxRecDepth 100000 in
theorem ea_X9_isFlow : co_X9_isFlow.all (entOk (mRow m_X9_isFlow).2.2.2.2.1 (mRow m_X9_isFlow).2.2.1 (mRow m_X9_isFlow).2.1) = true := by decide +kernel
theorem md_X9_isFlow : mdOk m_X9_isFlow := ⟨ea_X9_isFlow, by decide +kernel, by decide +kernel, _, _, rfl, rfl⟩
set_option maxRecDepth 100000 in
theorem ea_X9_isPlaceOfSlot : co_X9_isPlaceOfSlot.all (entOk (mRow m_X9_isPlaceOfSlot).2.2.2.2.1 (mRow m_X9_isPlaceOfSlot).2.2.1 (mRow m_X9_isPlaceOfSlot).2.1) = true := by decide +kernel
theorem md_X9_isPlaceOfSlot : mdOk m_X9_isPlaceOfSlot := ⟨ea_X9_isPlaceOfSlot, by decide +kernel, by decide +kernel, _, _, rfl, rfl⟩
set_option maxRecDepth 100000 in
theorem ea_X9_isBlock : co_X9_isBlock.all (entOk (mRow m_X9_isBlock).2.2.2.2.1 (mRow m_X9_isBlock).2.2.1 (mRow m_X9_isBlock).2.1) = true := by decide +kernel
theorem md_X9_isBlock : mdOk m_X9_isBlock := ⟨ea_X9_isBlock, by decide +kernel, by decide +kernel, _, _, rfl, rfl⟩
set_option maxRecDepth 100000 in
theorem ea_X10_init : co_X10_init.all (entOk (mRow m_X10_init).2.2.2.2.1 (mRow m_X10_init).2.2.1 (mRow m_X10_init).2.1) = true := by decide +kernel
theorem md_X10_init : mdOk m_X10_init := ⟨ea_X10_init, by decide +kernel, by decide +kernel, _, _, rfl, rfl⟩
set_option maxRecDepth 100000 in
theorem ea_X10_isIn : co_X10_isIn.all (entOk (mRow m_X10_isIn).2.2.2.2.1 (mRow m_X10_isIn).2.2.1 (mRow m_X10_isIn).2.1) = true := by decide +kernel
theorem md_X10_isIn : mdOk m_X10_isIn := ⟨ea_X10_isIn, by decide +kernel, by decide +kernel, _, _, rfl, rfl⟩
set_option maxRecDepth 100000 in
theorem ea_X10_isServer : co_X10_isServer.all (entOk (mRow m_X10_isServer).2.2.2.2.1 (mRow m_X10_isServer).2.2.1 (mRow m_X10_isServer).2.1) = true := by decide +kernel
theorem md_X10_isServer : mdOk m_X10_isServer := ⟨ea_X10_isServer, by decide +kernel, by decide +kernel, _, _, rfl, rfl⟩
set_option maxRecDepth 100000 in
theorem ea_X10_isSite : co_X10_isSite.all (entOk (mRow m_X10_isSite).2.2.2.2.1 (mRow m_X10_isSite).2.2.1 (mRow m_X10_isSite).2.1) = true := by decide +kernel
theorem md_X10_isSite : mdOk m_X10_isSite := ⟨ea_X10_isSite, by decide +kernel, by decide +kernel, _, _, rfl, rfl⟩
set_option maxRecDepth 100000 in
theorem ea_X10_isRouter : co_X10_isRouter.all (entOk (mRow m_X10_isRouter).2.2.2.2.1 (mRow m_X10_isRouter).2.2.1 (mRow m_X10_isRouter).2.1) = true := by decide +kernel
theorem md_X10_isRouter : mdOk m_X10_isRouter := ⟨ea_X10_isRouter, by decide +kernel, by decide +kernel, _, _, rfl, rfl⟩
set_option maxRecDepth 100000 in
theorem ea_X10_isName : co_X10_isName.all (entOk (mRow m_X10_isName).2.2.2.2.1 (mRow m_X10_isName).2.2.1 (mRow m_X10_isName).2.1) = true := by decide +kernel
theorem md_X10_isName : mdOk m_X10_isName := ⟨ea_X10_isName, by decide +kernel, by decide +kernel, _, _, rfl, rfl⟩
set_option maxRecDepth 100000 in
theorem ea_X10_siteAt : co_X10_siteAt.all (entOk (mRow m_X10_siteAt).2.2.2.2.1 (mRow m_X10_siteAt).2.2.1 (mRow m_X10_siteAt).2.1) = true := by decide +kernel
theorem md_X10_siteAt : mdOk m_X10_siteAt := ⟨ea_X10_siteAt, by decide +kernel, by decide +kernel, _, _, rfl, rfl⟩
set_option maxRecDepth 100000 in
theorem ea_X10_routerAt : co_X10_routerAt.all (entOk (mRow m_X10_routerAt).2.2.2.2.1 (mRow m_X10_routerAt).2.2.1 (mRow m_X10_routerAt).2.1) = true := by decide +kernel
theorem md_X10_routerAt : mdOk m_X10_routerAt := ⟨ea_X10_routerAt, by decide +kernel, by decide +kernel, _, _, rfl, rfl⟩
set_option maxRecDepth 100000 in
theorem ea_X10_mapAt : co_X10_mapAt.all (entOk (mRow m_X10_mapAt).2.2.2.2.1 (mRow m_X10_mapAt).2.2.1 (mRow m_X10_mapAt).2.1) = true := by decide +kernel
theorem md_X10_mapAt : mdOk m_X10_mapAt := ⟨ea_X10_mapAt, by decide +kernel, by decide +kernel, _, _, rfl, rfl⟩
set_option maxRecDepth 100000 in
theorem ea_X10_keeps : co_X10_keeps.all (entOk (mRow m_X10_keeps).2.2.2.2.1 (mRow m_X10_keeps).2.2.1 (mRow m_X10_keeps).2.1) = true := by decide +kernel
theorem md_X10_keeps : mdOk m_X10_keeps := ⟨ea_X10_keeps, by decide +kernel, by decide +kernel, _, _, rfl, rfl⟩
set_option maxRecDepth 100000 in
theorem ea_X10_brings : co_X10_brings.all (entOk (mRow m_X10_brings).2.2.2.2.1 (mRow m_X10_brings).2.2.1 (mRow m_X10_brings).2.1) = true := by decide +kernel
theorem md_X10_brings : mdOk m_X10_brings := ⟨ea_X10_brings, by decide +kernel, by decide +kernel, _, _, rfl, rfl⟩
set_option maxRecDepth 100000 in
theorem ea_X10_records : co_X10_records.all (entOk (mRow m_X10_records).2.2.2.2.1 (mRow m_X10_records).2.2.1 (mRow m_X10_records).2.1) = true := by decide +kernel
theorem md_X10_records : mdOk m_X10_records := ⟨ea_X10_records, by decide +kernel, by decide +kernel, _, _, rfl, rfl⟩
set_option maxRecDepth 100000 in
theorem ea_X10_undo : co_X10_undo.all (entOk (mRow m_X10_undo).2.2.2.2.1 (mRow m_X10_undo).2.2.1 (mRow m_X10_undo).2.1) = true := by decide +kernel
theorem md_X10_undo : mdOk m_X10_undo := ⟨ea_X10_undo, by decide +kernel, by decide +kernel, _, _, rfl, rfl⟩
set_option maxRecDepth 100000 in
theorem ea_X10_save : co_X10_save.all (entOk (mRow m_X10_save).2.2.2.2.1 (mRow m_X10_save).2.2.1 (mRow m_X10_save).2.1) = true := by decide +kernel
theorem md_X10_save : mdOk m_X10_save := ⟨ea_X10_save, by decide +kernel, by decide +kernel, _, _, rfl, rfl⟩
set_option maxRecDepth 100000 in
theorem ea_X10_restore : co_X10_restore.all (entOk (mRow m_X10_restore).2.2.2.2.1 (mRow m_X10_restore).2.2.1 (mRow m_X10_restore).2.1) = true := by decide +kernel
theorem md_X10_restore : mdOk m_X10_restore := ⟨ea_X10_restore, by decide +kernel, by decide +kernel, _, _, rfl, rfl⟩
set_option maxRecDepth 100000 in
theorem ea_X10_isBlock : co_X10_isBlock.all (entOk (mRow m_X10_isBlock).2.2.2.2.1 (mRow m_X10_isBlock).2.2.1 (mRow m_X10_isBlock).2.1) = true := by decide +kernel
theorem md_X10_isBlock : mdOk m_X10_isBlock := ⟨ea_X10_isBlock, by decide +kernel, by decide +kernel, _, _, rfl, rfl⟩
set_option maxRecDepth 100000 in
theorem ea_X10_firstOf : co_X10_firstOf.all (entOk (mRow m_X10_firstOf).2.2.2.2.1 (mRow m_X10_firstOf).2.2.1 (mRow m_X10_firstOf).2.1) = true := by decide +kernel
theorem md_X10_firstOf : mdOk m_X10_firstOf := ⟨ea_X10_firstOf, by decide +kernel, by decide +kernel, _, _, rfl, rfl⟩
set_option maxRecDepth 100000 in
theorem ea_X10_sizeOf : co_X10_sizeOf.all (entOk (mRow m_X10_sizeOf).2.2.2.2.1 (mRow m_X10_sizeOf).2.2.1 (mRow m_X10_sizeOf).2.1) = true := by decide +kernel
theorem md_X10_sizeOf : mdOk m_X10_sizeOf := ⟨ea_X10_sizeOf, by decide +kernel, by decide +kernel, _, _, rfl, rfl⟩
set_option maxRecDepth 100000 in
theorem ea_X10_holds : co_X10_holds.all (entOk (mRow m_X10_holds).2.2.2.2.1 (mRow m_X10_holds).2.2.1 (mRow m_X10_holds).2.1) = true := by decide +kernel
theorem md_X10_holds : mdOk m_X10_holds := ⟨ea_X10_holds, by decide +kernel, by decide +kernel, _, _, rfl, rfl⟩
set_option maxRecDepth 100000 in
theorem ea_X10_homeOf : co_X10_homeOf.all (entOk (mRow m_X10_homeOf).2.2.2.2.1 (mRow m_X10_homeOf).2.2.1 (mRow m_X10_homeOf).2.1) = true := by decide +kernel
theorem md_X10_homeOf : mdOk m_X10_homeOf := ⟨ea_X10_homeOf, by decide +kernel, by decide +kernel, _, _, rfl, rfl⟩
set_option maxRecDepth 100000 in
theorem ea_X10_wayTo : co_X10_wayTo.all (entOk (mRow m_X10_wayTo).2.2.2.2.1 (mRow m_X10_wayTo).2.2.1 (mRow m_X10_wayTo).2.1) = true := by decide +kernel
theorem md_X10_wayTo : mdOk m_X10_wayTo := ⟨ea_X10_wayTo, by decide +kernel, by decide +kernel, _, _, rfl, rfl⟩
set_option maxRecDepth 100000 in
theorem ea_X10_way : co_X10_way.all (entOk (mRow m_X10_way).2.2.2.2.1 (mRow m_X10_way).2.2.1 (mRow m_X10_way).2.1) = true := by decide +kernel
theorem md_X10_way : mdOk m_X10_way := ⟨ea_X10_way, by decide +kernel, by decide +kernel, _, _, rfl, rfl⟩
set_option maxRecDepth 100000 in
theorem ea_X10_addServer : co_X10_addServer.all (entOk (mRow m_X10_addServer).2.2.2.2.1 (mRow m_X10_addServer).2.2.1 (mRow m_X10_addServer).2.1) = true := by decide +kernel
theorem md_X10_addServer : mdOk m_X10_addServer := ⟨ea_X10_addServer, by decide +kernel, by decide +kernel, _, _, rfl, rfl⟩
set_option maxRecDepth 100000 in
theorem ea_X10_ofSite : co_X10_ofSite.all (entOk (mRow m_X10_ofSite).2.2.2.2.1 (mRow m_X10_ofSite).2.2.1 (mRow m_X10_ofSite).2.1) = true := by decide +kernel
theorem md_X10_ofSite : mdOk m_X10_ofSite := ⟨ea_X10_ofSite, by decide +kernel, by decide +kernel, _, _, rfl, rfl⟩
set_option maxRecDepth 100000 in
theorem ea_X10_has : co_X10_has.all (entOk (mRow m_X10_has).2.2.2.2.1 (mRow m_X10_has).2.2.1 (mRow m_X10_has).2.1) = true := by decide +kernel
theorem md_X10_has : mdOk m_X10_has := ⟨ea_X10_has, by decide +kernel, by decide +kernel, _, _, rfl, rfl⟩
set_option maxRecDepth 100000 in
theorem ea_X10_homeOfSite : co_X10_homeOfSite.all (entOk (mRow m_X10_homeOfSite).2.2.2.2.1 (mRow m_X10_homeOfSite).2.2.1 (mRow m_X10_homeOfSite).2.1) = true := by decide +kernel
theorem md_X10_homeOfSite : mdOk m_X10_homeOfSite := ⟨ea_X10_homeOfSite, by decide +kernel, by decide +kernel, _, _, rfl, rfl⟩
set_option maxRecDepth 100000 in
theorem ea_X10_isRegistered : co_X10_isRegistered.all (entOk (mRow m_X10_isRegistered).2.2.2.2.1 (mRow m_X10_isRegistered).2.2.1 (mRow m_X10_isRegistered).2.1) = true := by decide +kernel
theorem md_X10_isRegistered : mdOk m_X10_isRegistered := ⟨ea_X10_isRegistered, by decide +kernel, by decide +kernel, _, _, rfl, rfl⟩
set_option maxRecDepth 100000 in
theorem ea_X10_isUp : co_X10_isUp.all (entOk (mRow m_X10_isUp).2.2.2.2.1 (mRow m_X10_isUp).2.2.1 (mRow m_X10_isUp).2.1) = true := by decide +kernel
theorem md_X10_isUp : mdOk m_X10_isUp := ⟨ea_X10_isUp, by decide +kernel, by decide +kernel, _, _, rfl, rfl⟩
set_option maxRecDepth 100000 in
theorem ea_X10_answerOf : co_X10_answerOf.all (entOk (mRow m_X10_answerOf).2.2.2.2.1 (mRow m_X10_answerOf).2.2.1 (mRow m_X10_answerOf).2.1) = true := by decide +kernel
theorem md_X10_answerOf : mdOk m_X10_answerOf := ⟨ea_X10_answerOf, by decide +kernel, by decide +kernel, _, _, rfl, rfl⟩
set_option maxRecDepth 100000 in
theorem ea_X10_answer : co_X10_answer.all (entOk (mRow m_X10_answer).2.2.2.2.1 (mRow m_X10_answer).2.2.1 (mRow m_X10_answer).2.1) = true := by decide +kernel
theorem md_X10_answer : mdOk m_X10_answer := ⟨ea_X10_answer, by decide +kernel, by decide +kernel, _, _, rfl, rfl⟩
set_option maxRecDepth 100000 in
theorem ea_X10_addSite : co_X10_addSite.all (entOk (mRow m_X10_addSite).2.2.2.2.1 (mRow m_X10_addSite).2.2.1 (mRow m_X10_addSite).2.1) = true := by decide +kernel
theorem md_X10_addSite : mdOk m_X10_addSite := ⟨ea_X10_addSite, by decide +kernel, by decide +kernel, _, _, rfl, rfl⟩
set_option maxRecDepth 100000 in
theorem ea_X10_addRouter : co_X10_addRouter.all (entOk (mRow m_X10_addRouter).2.2.2.2.1 (mRow m_X10_addRouter).2.2.1 (mRow m_X10_addRouter).2.1) = true := by decide +kernel
theorem md_X10_addRouter : mdOk m_X10_addRouter := ⟨ea_X10_addRouter, by decide +kernel, by decide +kernel, _, _, rfl, rfl⟩
set_option maxRecDepth 100000 in
theorem ea_X10_setSlot : co_X10_setSlot.all (entOk (mRow m_X10_setSlot).2.2.2.2.1 (mRow m_X10_setSlot).2.2.1 (mRow m_X10_setSlot).2.1) = true := by decide +kernel
theorem md_X10_setSlot : mdOk m_X10_setSlot := ⟨ea_X10_setSlot, by decide +kernel, by decide +kernel, _, _, rfl, rfl⟩
set_option maxRecDepth 100000 in
theorem ea_X10_emptySlot : co_X10_emptySlot.all (entOk (mRow m_X10_emptySlot).2.2.2.2.1 (mRow m_X10_emptySlot).2.2.1 (mRow m_X10_emptySlot).2.1) = true := by decide +kernel
theorem md_X10_emptySlot : mdOk m_X10_emptySlot := ⟨ea_X10_emptySlot, by decide +kernel, by decide +kernel, _, _, rfl, rfl⟩
set_option maxRecDepth 100000 in
theorem ea_X10_registers : co_X10_registers.all (entOk (mRow m_X10_registers).2.2.2.2.1 (mRow m_X10_registers).2.2.1 (mRow m_X10_registers).2.1) = true := by decide +kernel
theorem md_X10_registers : mdOk m_X10_registers := ⟨ea_X10_registers, by decide +kernel, by decide +kernel, _, _, rfl, rfl⟩
set_option maxRecDepth 100000 in
theorem ea_X10_register : co_X10_register.all (entOk (mRow m_X10_register).2.2.2.2.1 (mRow m_X10_register).2.2.1 (mRow m_X10_register).2.1) = true := by decide +kernel
theorem md_X10_register : mdOk m_X10_register := ⟨ea_X10_register, by decide +kernel, by decide +kernel, _, _, rfl, rfl⟩
set_option maxRecDepth 100000 in
theorem ea_X10_unregisterError : co_X10_unregisterError.all (entOk (mRow m_X10_unregisterError).2.2.2.2.1 (mRow m_X10_unregisterError).2.2.1 (mRow m_X10_unregisterError).2.1) = true := by decide +kernel
theorem md_X10_unregisterError : mdOk m_X10_unregisterError := ⟨ea_X10_unregisterError, by decide +kernel, by decide +kernel, _, _, rfl, rfl⟩
set_option maxRecDepth 100000 in
theorem ea_X10_unregisters : co_X10_unregisters.all (entOk (mRow m_X10_unregisters).2.2.2.2.1 (mRow m_X10_unregisters).2.2.1 (mRow m_X10_unregisters).2.1) = true := by decide +kernel
theorem md_X10_unregisters : mdOk m_X10_unregisters := ⟨ea_X10_unregisters, by decide +kernel, by decide +kernel, _, _, rfl, rfl⟩
set_option maxRecDepth 100000 in
theorem ea_X10_unregister : co_X10_unregister.all (entOk (mRow m_X10_unregister).2.2.2.2.1 (mRow m_X10_unregister).2.2.1 (mRow m_X10_unregister).2.1) = true := by decide +kernel
theorem md_X10_unregister : mdOk m_X10_unregister := ⟨ea_X10_unregister, by decide +kernel, by decide +kernel, _, _, rfl, rfl⟩
set_option maxRecDepth 100000 in
theorem ea_X10_setMapLife : co_X10_setMapLife.all (entOk (mRow m_X10_setMapLife).2.2.2.2.1 (mRow m_X10_setMapLife).2.2.1 (mRow m_X10_setMapLife).2.1) = true := by decide +kernel
theorem md_X10_setMapLife : mdOk m_X10_setMapLife := ⟨ea_X10_setMapLife, by decide +kernel, by decide +kernel, _, _, rfl, rfl⟩
set_option maxRecDepth 100000 in
theorem ea_X10_mapsOf : co_X10_mapsOf.all (entOk (mRow m_X10_mapsOf).2.2.2.2.1 (mRow m_X10_mapsOf).2.2.1 (mRow m_X10_mapsOf).2.1) = true := by decide +kernel
theorem md_X10_mapsOf : mdOk m_X10_mapsOf := ⟨ea_X10_mapsOf, by decide +kernel, by decide +kernel, _, _, rfl, rfl⟩
set_option maxRecDepth 100000 in
theorem ea_X10_ofMap : co_X10_ofMap.all (entOk (mRow m_X10_ofMap).2.2.2.2.1 (mRow m_X10_ofMap).2.2.1 (mRow m_X10_ofMap).2.1) = true := by decide +kernel
theorem md_X10_ofMap : mdOk m_X10_ofMap := ⟨ea_X10_ofMap, by decide +kernel, by decide +kernel, _, _, rfl, rfl⟩
set_option maxRecDepth 100000 in
theorem ea_X10_drops : co_X10_drops.all (entOk (mRow m_X10_drops).2.2.2.2.1 (mRow m_X10_drops).2.2.1 (mRow m_X10_drops).2.1) = true := by decide +kernel
theorem md_X10_drops : mdOk m_X10_drops := ⟨ea_X10_drops, by decide +kernel, by decide +kernel, _, _, rfl, rfl⟩
set_option maxRecDepth 100000 in
theorem ea_X10_makesRoom : co_X10_makesRoom.all (entOk (mRow m_X10_makesRoom).2.2.2.2.1 (mRow m_X10_makesRoom).2.2.1 (mRow m_X10_makesRoom).2.1) = true := by decide +kernel
theorem md_X10_makesRoom : mdOk m_X10_makesRoom := ⟨ea_X10_makesRoom, by decide +kernel, by decide +kernel, _, _, rfl, rfl⟩
set_option maxRecDepth 100000 in
theorem ea_X10_uses : co_X10_uses.all (entOk (mRow m_X10_uses).2.2.2.2.1 (mRow m_X10_uses).2.2.1 (mRow m_X10_uses).2.1) = true := by decide +kernel
theorem md_X10_uses : mdOk m_X10_uses := ⟨ea_X10_uses, by decide +kernel, by decide +kernel, _, _, rfl, rfl⟩
set_option maxRecDepth 100000 in
theorem ea_X10_asks : co_X10_asks.all (entOk (mRow m_X10_asks).2.2.2.2.1 (mRow m_X10_asks).2.2.1 (mRow m_X10_asks).2.1) = true := by decide +kernel
theorem md_X10_asks : mdOk m_X10_asks := ⟨ea_X10_asks, by decide +kernel, by decide +kernel, _, _, rfl, rfl⟩
set_option maxRecDepth 100000 in
theorem ea_X10_chosen : co_X10_chosen.all (entOk (mRow m_X10_chosen).2.2.2.2.1 (mRow m_X10_chosen).2.2.1 (mRow m_X10_chosen).2.1) = true := by decide +kernel
theorem md_X10_chosen : mdOk m_X10_chosen := ⟨ea_X10_chosen, by decide +kernel, by decide +kernel, _, _, rfl, rfl⟩
set_option maxRecDepth 100000 in
theorem ea_X10_isAt : co_X10_isAt.all (entOk (mRow m_X10_isAt).2.2.2.2.1 (mRow m_X10_isAt).2.2.1 (mRow m_X10_isAt).2.1) = true := by decide +kernel
theorem md_X10_isAt : mdOk m_X10_isAt := ⟨ea_X10_isAt, by decide +kernel, by decide +kernel, _, _, rfl, rfl⟩
set_option maxRecDepth 100000 in
theorem ea_X10_takes : co_X10_takes.all (entOk (mRow m_X10_takes).2.2.2.2.1 (mRow m_X10_takes).2.2.1 (mRow m_X10_takes).2.1) = true := by decide +kernel
theorem md_X10_takes : mdOk m_X10_takes := ⟨ea_X10_takes, by decide +kernel, by decide +kernel, _, _, rfl, rfl⟩
set_option maxRecDepth 100000 in
theorem ea_X10_proxy : co_X10_proxy.all (entOk (mRow m_X10_proxy).2.2.2.2.1 (mRow m_X10_proxy).2.2.1 (mRow m_X10_proxy).2.1) = true := by decide +kernel
theorem md_X10_proxy : mdOk m_X10_proxy := ⟨ea_X10_proxy, by decide +kernel, by decide +kernel, _, _, rfl, rfl⟩
set_option maxRecDepth 100000 in
theorem ea_X10_sends : co_X10_sends.all (entOk (mRow m_X10_sends).2.2.2.2.1 (mRow m_X10_sends).2.2.1 (mRow m_X10_sends).2.1) = true := by decide +kernel
theorem md_X10_sends : mdOk m_X10_sends := ⟨ea_X10_sends, by decide +kernel, by decide +kernel, _, _, rfl, rfl⟩
set_option maxRecDepth 100000 in
theorem ea_X10_isLetter : co_X10_isLetter.all (entOk (mRow m_X10_isLetter).2.2.2.2.1 (mRow m_X10_isLetter).2.2.1 (mRow m_X10_isLetter).2.1) = true := by decide +kernel
theorem md_X10_isLetter : mdOk m_X10_isLetter := ⟨ea_X10_isLetter, by decide +kernel, by decide +kernel, _, _, rfl, rfl⟩
set_option maxRecDepth 100000 in
theorem ea_X10_send : co_X10_send.all (entOk (mRow m_X10_send).2.2.2.2.1 (mRow m_X10_send).2.2.1 (mRow m_X10_send).2.1) = true := by decide +kernel
theorem md_X10_send : mdOk m_X10_send := ⟨ea_X10_send, by decide +kernel, by decide +kernel, _, _, rfl, rfl⟩
set_option maxRecDepth 100000 in
theorem ea_X10_pass : co_X10_pass.all (entOk (mRow m_X10_pass).2.2.2.2.1 (mRow m_X10_pass).2.2.1 (mRow m_X10_pass).2.1) = true := by decide +kernel
theorem md_X10_pass : mdOk m_X10_pass := ⟨ea_X10_pass, by decide +kernel, by decide +kernel, _, _, rfl, rfl⟩
set_option maxRecDepth 100000 in
theorem ea_X10_forget : co_X10_forget.all (entOk (mRow m_X10_forget).2.2.2.2.1 (mRow m_X10_forget).2.2.1 (mRow m_X10_forget).2.1) = true := by decide +kernel
theorem md_X10_forget : mdOk m_X10_forget := ⟨ea_X10_forget, by decide +kernel, by decide +kernel, _, _, rfl, rfl⟩
set_option maxRecDepth 100000 in
theorem ea_X10_append : co_X10_append.all (entOk (mRow m_X10_append).2.2.2.2.1 (mRow m_X10_append).2.2.1 (mRow m_X10_append).2.1) = true := by decide +kernel
theorem md_X10_append : mdOk m_X10_append := ⟨ea_X10_append, by decide +kernel, by decide +kernel, _, _, rfl, rfl⟩
set_option maxRecDepth 100000 in
theorem ea_X10_clearText : co_X10_clearText.all (entOk (mRow m_X10_clearText).2.2.2.2.1 (mRow m_X10_clearText).2.2.1 (mRow m_X10_clearText).2.1) = true := by decide +kernel
theorem md_X10_clearText : mdOk m_X10_clearText := ⟨ea_X10_clearText, by decide +kernel, by decide +kernel, _, _, rfl, rfl⟩
set_option maxRecDepth 100000 in
theorem ea_X10_passesSign : co_X10_passesSign.all (entOk (mRow m_X10_passesSign).2.2.2.2.1 (mRow m_X10_passesSign).2.2.1 (mRow m_X10_passesSign).2.1) = true := by decide +kernel
theorem md_X10_passesSign : mdOk m_X10_passesSign := ⟨ea_X10_passesSign, by decide +kernel, by decide +kernel, _, _, rfl, rfl⟩
set_option maxRecDepth 100000 in
theorem ea_X10_isDigitHere : co_X10_isDigitHere.all (entOk (mRow m_X10_isDigitHere).2.2.2.2.1 (mRow m_X10_isDigitHere).2.2.1 (mRow m_X10_isDigitHere).2.1) = true := by decide +kernel
theorem md_X10_isDigitHere : mdOk m_X10_isDigitHere := ⟨ea_X10_isDigitHere, by decide +kernel, by decide +kernel, _, _, rfl, rfl⟩
set_option maxRecDepth 100000 in
theorem ea_X10_passesNumber : co_X10_passesNumber.all (entOk (mRow m_X10_passesNumber).2.2.2.2.1 (mRow m_X10_passesNumber).2.2.1 (mRow m_X10_passesNumber).2.1) = true := by decide +kernel
theorem md_X10_passesNumber : mdOk m_X10_passesNumber := ⟨ea_X10_passesNumber, by decide +kernel, by decide +kernel, _, _, rfl, rfl⟩
set_option maxRecDepth 100000 in
theorem ea_X10_passesLetter : co_X10_passesLetter.all (entOk (mRow m_X10_passesLetter).2.2.2.2.1 (mRow m_X10_passesLetter).2.2.1 (mRow m_X10_passesLetter).2.1) = true := by decide +kernel
theorem md_X10_passesLetter : mdOk m_X10_passesLetter := ⟨ea_X10_passesLetter, by decide +kernel, by decide +kernel, _, _, rfl, rfl⟩
set_option maxRecDepth 100000 in
theorem ea_X10_passesAct : co_X10_passesAct.all (entOk (mRow m_X10_passesAct).2.2.2.2.1 (mRow m_X10_passesAct).2.2.1 (mRow m_X10_passesAct).2.1) = true := by decide +kernel
theorem md_X10_passesAct : mdOk m_X10_passesAct := ⟨ea_X10_passesAct, by decide +kernel, by decide +kernel, _, _, rfl, rfl⟩
set_option maxRecDepth 100000 in
theorem ea_X10_faultOf : co_X10_faultOf.all (entOk (mRow m_X10_faultOf).2.2.2.2.1 (mRow m_X10_faultOf).2.2.1 (mRow m_X10_faultOf).2.1) = true := by decide +kernel
theorem md_X10_faultOf : mdOk m_X10_faultOf := ⟨ea_X10_faultOf, by decide +kernel, by decide +kernel, _, _, rfl, rfl⟩
set_option maxRecDepth 100000 in
theorem ea_X10_faultPosition : co_X10_faultPosition.all (entOk (mRow m_X10_faultPosition).2.2.2.2.1 (mRow m_X10_faultPosition).2.2.1 (mRow m_X10_faultPosition).2.1) = true := by decide +kernel
theorem md_X10_faultPosition : mdOk m_X10_faultPosition := ⟨ea_X10_faultPosition, by decide +kernel, by decide +kernel, _, _, rfl, rfl⟩
set_option maxRecDepth 100000 in
theorem ea_X10_does : co_X10_does.all (entOk (mRow m_X10_does).2.2.2.2.1 (mRow m_X10_does).2.2.1 (mRow m_X10_does).2.1) = true := by decide +kernel
theorem md_X10_does : mdOk m_X10_does := ⟨ea_X10_does, by decide +kernel, by decide +kernel, _, _, rfl, rfl⟩
set_option maxRecDepth 100000 in
theorem ea_X10_run : co_X10_run.all (entOk (mRow m_X10_run).2.2.2.2.1 (mRow m_X10_run).2.2.1 (mRow m_X10_run).2.1) = true := by decide +kernel
theorem md_X10_run : mdOk m_X10_run := ⟨ea_X10_run, by decide +kernel, by decide +kernel, _, _, rfl, rfl⟩
set_option maxRecDepth 100000 in
theorem ea_X10_children : co_X10_children.all (entOk (mRow m_X10_children).2.2.2.2.1 (mRow m_X10_children).2.2.1 (mRow m_X10_children).2.1) = true := by decide +kernel
theorem md_X10_children : mdOk m_X10_children := ⟨ea_X10_children, by decide +kernel, by decide +kernel, _, _, rfl, rfl⟩
set_option maxRecDepth 100000 in
theorem ea_X10_sitesOf : co_X10_sitesOf.all (entOk (mRow m_X10_sitesOf).2.2.2.2.1 (mRow m_X10_sitesOf).2.2.1 (mRow m_X10_sitesOf).2.1) = true := by decide +kernel
theorem md_X10_sitesOf : mdOk m_X10_sitesOf := ⟨ea_X10_sitesOf, by decide +kernel, by decide +kernel, _, _, rfl, rfl⟩
set_option maxRecDepth 100000 in
theorem ea_X10_server : co_X10_server.all (entOk (mRow m_X10_server).2.2.2.2.1 (mRow m_X10_server).2.2.1 (mRow m_X10_server).2.1) = true := by decide +kernel
theorem md_X10_server : mdOk m_X10_server := ⟨ea_X10_server, by decide +kernel, by decide +kernel, _, _, rfl, rfl⟩
set_option maxRecDepth 100000 in
theorem ea_X10_copiesOf : co_X10_copiesOf.all (entOk (mRow m_X10_copiesOf).2.2.2.2.1 (mRow m_X10_copiesOf).2.2.1 (mRow m_X10_copiesOf).2.1) = true := by decide +kernel
theorem md_X10_copiesOf : mdOk m_X10_copiesOf := ⟨ea_X10_copiesOf, by decide +kernel, by decide +kernel, _, _, rfl, rfl⟩
set_option maxRecDepth 100000 in
theorem ea_X10_site : co_X10_site.all (entOk (mRow m_X10_site).2.2.2.2.1 (mRow m_X10_site).2.2.1 (mRow m_X10_site).2.1) = true := by decide +kernel
theorem md_X10_site : mdOk m_X10_site := ⟨ea_X10_site, by decide +kernel, by decide +kernel, _, _, rfl, rfl⟩
set_option maxRecDepth 100000 in
theorem ea_X10_slot : co_X10_slot.all (entOk (mRow m_X10_slot).2.2.2.2.1 (mRow m_X10_slot).2.2.1 (mRow m_X10_slot).2.1) = true := by decide +kernel
theorem md_X10_slot : mdOk m_X10_slot := ⟨ea_X10_slot, by decide +kernel, by decide +kernel, _, _, rfl, rfl⟩
set_option maxRecDepth 100000 in
theorem ea_X10_router : co_X10_router.all (entOk (mRow m_X10_router).2.2.2.2.1 (mRow m_X10_router).2.2.1 (mRow m_X10_router).2.1) = true := by decide +kernel
theorem md_X10_router : mdOk m_X10_router := ⟨ea_X10_router, by decide +kernel, by decide +kernel, _, _, rfl, rfl⟩
set_option maxRecDepth 100000 in
theorem ea_X10_map : co_X10_map.all (entOk (mRow m_X10_map).2.2.2.2.1 (mRow m_X10_map).2.2.1 (mRow m_X10_map).2.1) = true := by decide +kernel
theorem md_X10_map : mdOk m_X10_map := ⟨ea_X10_map, by decide +kernel, by decide +kernel, _, _, rfl, rfl⟩
set_option maxRecDepth 100000 in
theorem ea_X10_isAhead : co_X10_isAhead.all (entOk (mRow m_X10_isAhead).2.2.2.2.1 (mRow m_X10_isAhead).2.2.1 (mRow m_X10_isAhead).2.1) = true := by decide +kernel
theorem md_X10_isAhead : mdOk m_X10_isAhead := ⟨ea_X10_isAhead, by decide +kernel, by decide +kernel, _, _, rfl, rfl⟩
set_option maxRecDepth 100000 in
theorem ea_X10_endingNext : co_X10_endingNext.all (entOk (mRow m_X10_endingNext).2.2.2.2.1 (mRow m_X10_endingNext).2.2.1 (mRow m_X10_endingNext).2.1) = true := by decide +kernel
theorem md_X10_endingNext : mdOk m_X10_endingNext := ⟨ea_X10_endingNext, by decide +kernel, by decide +kernel, _, _, rfl, rfl⟩
set_option maxRecDepth 100000 in
theorem ea_X10_upMany : co_X10_upMany.all (entOk (mRow m_X10_upMany).2.2.2.2.1 (mRow m_X10_upMany).2.2.1 (mRow m_X10_upMany).2.1) = true := by decide +kernel
theorem md_X10_upMany : mdOk m_X10_upMany := ⟨ea_X10_upMany, by decide +kernel, by decide +kernel, _, _, rfl, rfl⟩
set_option maxRecDepth 100000 in
theorem ea_X10_sumOf : co_X10_sumOf.all (entOk (mRow m_X10_sumOf).2.2.2.2.1 (mRow m_X10_sumOf).2.2.1 (mRow m_X10_sumOf).2.1) = true := by decide +kernel
theorem md_X10_sumOf : mdOk m_X10_sumOf := ⟨ea_X10_sumOf, by decide +kernel, by decide +kernel, _, _, rfl, rfl⟩
set_option maxRecDepth 100000 in
theorem ea_X10_answered : co_X10_answered.all (entOk (mRow m_X10_answered).2.2.2.2.1 (mRow m_X10_answered).2.2.1 (mRow m_X10_answered).2.1) = true := by decide +kernel
theorem md_X10_answered : mdOk m_X10_answered := ⟨ea_X10_answered, by decide +kernel, by decide +kernel, _, _, rfl, rfl⟩
set_option maxRecDepth 100000 in
theorem ea_X10_total : co_X10_total.all (entOk (mRow m_X10_total).2.2.2.2.1 (mRow m_X10_total).2.2.1 (mRow m_X10_total).2.1) = true := by decide +kernel
theorem md_X10_total : mdOk m_X10_total := ⟨ea_X10_total, by decide +kernel, by decide +kernel, _, _, rfl, rfl⟩
set_option maxRecDepth 100000 in
theorem ea_X10_wouldReach : co_X10_wouldReach.all (entOk (mRow m_X10_wouldReach).2.2.2.2.1 (mRow m_X10_wouldReach).2.2.1 (mRow m_X10_wouldReach).2.1) = true := by decide +kernel
theorem md_X10_wouldReach : mdOk m_X10_wouldReach := ⟨ea_X10_wouldReach, by decide +kernel, by decide +kernel, _, _, rfl, rfl⟩
set_option maxRecDepth 100000 in
theorem ea_X10_wouldAsk : co_X10_wouldAsk.all (entOk (mRow m_X10_wouldAsk).2.2.2.2.1 (mRow m_X10_wouldAsk).2.2.1 (mRow m_X10_wouldAsk).2.1) = true := by decide +kernel
theorem md_X10_wouldAsk : mdOk m_X10_wouldAsk := ⟨ea_X10_wouldAsk, by decide +kernel, by decide +kernel, _, _, rfl, rfl⟩
set_option maxRecDepth 100000 in
theorem ea_X10_share : co_X10_share.all (entOk (mRow m_X10_share).2.2.2.2.1 (mRow m_X10_share).2.2.1 (mRow m_X10_share).2.1) = true := by decide +kernel
theorem md_X10_share : mdOk m_X10_share := ⟨ea_X10_share, by decide +kernel, by decide +kernel, _, _, rfl, rfl⟩
set_option maxRecDepth 100000 in
theorem ea_J6_bitCount_0f7a4 : co_J6_bitCount_0f7a4.all (entOk (mRow m_J6_bitCount_0f7a4).2.2.2.2.1 (mRow m_J6_bitCount_0f7a4).2.2.1 (mRow m_J6_bitCount_0f7a4).2.1) = true := by decide +kernel
theorem md_J6_bitCount_0f7a4 : mdOk m_J6_bitCount_0f7a4 := ⟨ea_J6_bitCount_0f7a4, by decide +kernel, by decide +kernel, _, _, rfl, rfl⟩
set_option maxRecDepth 100000 in
theorem ea_J9_floorMod_7cf53 : co_J9_floorMod_7cf53.all (entOk (mRow m_J9_floorMod_7cf53).2.2.2.2.1 (mRow m_J9_floorMod_7cf53).2.2.1 (mRow m_J9_floorMod_7cf53).2.1) = true := by decide +kernel
theorem md_J9_floorMod_7cf53 : mdOk m_J9_floorMod_7cf53 := ⟨ea_J9_floorMod_7cf53, by decide +kernel, by decide +kernel, _, _, rfl, rfl⟩
set_option maxRecDepth 100000 in
theorem ex_L_law_0 : cx_L_law_0.all (entOk (mRow m_L_law).2.2.2.2.1 (mRow m_L_law).2.2.1 (mRow m_L_law).2.1) = true := by decide +kernel
set_option maxRecDepth 100000 in
theorem ex_L_law_1 : cx_L_law_1.all (entOk (mRow m_L_law).2.2.2.2.1 (mRow m_L_law).2.2.1 (mRow m_L_law).2.1) = true := by decide +kernel
set_option maxRecDepth 100000 in
theorem ex_L_law_2 : cx_L_law_2.all (entOk (mRow m_L_law).2.2.2.2.1 (mRow m_L_law).2.2.1 (mRow m_L_law).2.1) = true := by decide +kernel
set_option maxRecDepth 100000 in
theorem ex_L_law_3 : cx_L_law_3.all (entOk (mRow m_L_law).2.2.2.2.1 (mRow m_L_law).2.2.1 (mRow m_L_law).2.1) = true := by decide +kernel
set_option maxRecDepth 100000 in
theorem ex_L_law_4 : cx_L_law_4.all (entOk (mRow m_L_law).2.2.2.2.1 (mRow m_L_law).2.2.1 (mRow m_L_law).2.1) = true := by decide +kernel
set_option maxRecDepth 100000 in
theorem ex_L_law_5 : cx_L_law_5.all (entOk (mRow m_L_law).2.2.2.2.1 (mRow m_L_law).2.2.1 (mRow m_L_law).2.1) = true := by decide +kernel
set_option maxRecDepth 100000 in
theorem ex_L_law_6 : cx_L_law_6.all (entOk (mRow m_L_law).2.2.2.2.1 (mRow m_L_law).2.2.1 (mRow m_L_law).2.1) = true := by decide +kernel
set_option maxRecDepth 100000 in
theorem ex_L_law_7 : cx_L_law_7.all (entOk (mRow m_L_law).2.2.2.2.1 (mRow m_L_law).2.2.1 (mRow m_L_law).2.1) = true := by decide +kernel
set_option maxRecDepth 100000 in
theorem ex_L_law_8 : cx_L_law_8.all (entOk (mRow m_L_law).2.2.2.2.1 (mRow m_L_law).2.2.1 (mRow m_L_law).2.1) = true := by decide +kernel
set_option maxRecDepth 100000 in
theorem ex_L_law_9 : cx_L_law_9.all (entOk (mRow m_L_law).2.2.2.2.1 (mRow m_L_law).2.2.1 (mRow m_L_law).2.1) = true := by decide +kernel
set_option maxRecDepth 100000 in
theorem ex_L_law_10 : cx_L_law_10.all (entOk (mRow m_L_law).2.2.2.2.1 (mRow m_L_law).2.2.1 (mRow m_L_law).2.1) = true := by decide +kernel
set_option maxRecDepth 100000 in
theorem ex_L_law_11 : cx_L_law_11.all (entOk (mRow m_L_law).2.2.2.2.1 (mRow m_L_law).2.2.1 (mRow m_L_law).2.1) = true := by decide +kernel
set_option maxRecDepth 100000 in
theorem ex_L_law_12 : cx_L_law_12.all (entOk (mRow m_L_law).2.2.2.2.1 (mRow m_L_law).2.2.1 (mRow m_L_law).2.1) = true := by decide +kernel
set_option maxRecDepth 100000 in
theorem ex_L_law_13 : cx_L_law_13.all (entOk (mRow m_L_law).2.2.2.2.1 (mRow m_L_law).2.2.1 (mRow m_L_law).2.1) = true := by decide +kernel
set_option maxRecDepth 100000 in
theorem ex_L_law_14 : cx_L_law_14.all (entOk (mRow m_L_law).2.2.2.2.1 (mRow m_L_law).2.2.1 (mRow m_L_law).2.1) = true := by decide +kernel
set_option maxRecDepth 100000 in
theorem ex_L_law_15 : cx_L_law_15.all (entOk (mRow m_L_law).2.2.2.2.1 (mRow m_L_law).2.2.1 (mRow m_L_law).2.1) = true := by decide +kernel
set_option maxRecDepth 100000 in
theorem ex_L_law_16 : cx_L_law_16.all (entOk (mRow m_L_law).2.2.2.2.1 (mRow m_L_law).2.2.1 (mRow m_L_law).2.1) = true := by decide +kernel
set_option maxRecDepth 100000 in
theorem ex_L_law_17 : cx_L_law_17.all (entOk (mRow m_L_law).2.2.2.2.1 (mRow m_L_law).2.2.1 (mRow m_L_law).2.1) = true := by decide +kernel
set_option maxRecDepth 100000 in
theorem ex_L_law_18 : cx_L_law_18.all (entOk (mRow m_L_law).2.2.2.2.1 (mRow m_L_law).2.2.1 (mRow m_L_law).2.1) = true := by decide +kernel
set_option maxRecDepth 100000 in
theorem ex_L_law_19 : cx_L_law_19.all (entOk (mRow m_L_law).2.2.2.2.1 (mRow m_L_law).2.2.1 (mRow m_L_law).2.1) = true := by decide +kernel
set_option maxRecDepth 100000 in
theorem ex_L_law_20 : cx_L_law_20.all (entOk (mRow m_L_law).2.2.2.2.1 (mRow m_L_law).2.2.1 (mRow m_L_law).2.1) = true := by decide +kernel
set_option maxRecDepth 100000 in
theorem ex_L_law_21 : cx_L_law_21.all (entOk (mRow m_L_law).2.2.2.2.1 (mRow m_L_law).2.2.1 (mRow m_L_law).2.1) = true := by decide +kernel
set_option maxRecDepth 100000 in
theorem ex_L_law_22 : cx_L_law_22.all (entOk (mRow m_L_law).2.2.2.2.1 (mRow m_L_law).2.2.1 (mRow m_L_law).2.1) = true := by decide +kernel
set_option maxRecDepth 100000 in
theorem ex_L_law_23 : cx_L_law_23.all (entOk (mRow m_L_law).2.2.2.2.1 (mRow m_L_law).2.2.1 (mRow m_L_law).2.1) = true := by decide +kernel
set_option maxRecDepth 100000 in
theorem ex_L_law_24 : cx_L_law_24.all (entOk (mRow m_L_law).2.2.2.2.1 (mRow m_L_law).2.2.1 (mRow m_L_law).2.1) = true := by decide +kernel
set_option maxRecDepth 100000 in
theorem ex_L_law_25 : cx_L_law_25.all (entOk (mRow m_L_law).2.2.2.2.1 (mRow m_L_law).2.2.1 (mRow m_L_law).2.1) = true := by decide +kernel
theorem ea_L_law : co_L_law.all (entOk (mRow m_L_law).2.2.2.2.1 (mRow m_L_law).2.2.1 (mRow m_L_law).2.1) = true := by
  unfold co_L_law
  simp only [List.all_append, ex_L_law_0, ex_L_law_1, ex_L_law_2, ex_L_law_3, ex_L_law_4, ex_L_law_5, ex_L_law_6, ex_L_law_7, ex_L_law_8, ex_L_law_9, ex_L_law_10, ex_L_law_11, ex_L_law_12, ex_L_law_13, ex_L_law_14, ex_L_law_15, ex_L_law_16, ex_L_law_17, ex_L_law_18, ex_L_law_19, ex_L_law_20, ex_L_law_21, ex_L_law_22, ex_L_law_23, ex_L_law_24, ex_L_law_25, Bool.and_self]
theorem md_L_law : mdOk m_L_law := ⟨ea_L_law, by decide +kernel, by decide +kernel, _, _, rfl, rfl⟩
theorem mlT_lt : ∀ q ∈ mlT, q.2.2.1 < 215 := by decide +kernel
theorem initL_ok : ∀ m, m < 215 → m ∉ initL → (mRow m).1.name ≠ "<init>" := by decide +kernel
set_option maxRecDepth 100000 in
theorem md_all : ∀ m, m < 215 → mdOk m := fun m h => match m, h with
  | 0, _ => md_X0_init
  | 1, _ => md_X0_add
  | 2, _ => md_X0_rewind
  | 3, _ => md_X0_findFault
  | 4, _ => md_X0_readAct
  | 5, _ => md_X0_readSending
  | 6, _ => md_X0_readSign
  | 7, _ => md_X0_readNumber
  | 8, _ => md_X0_byteHere
  | 9, _ => md_X0_isDigit
  | 10, _ => md_X1_init
  | 11, _ => md_X1_become
  | 12, _ => md_X1_copyFrom
  | 13, _ => md_X1_isAt
  | 14, _ => md_X1_has
  | 15, _ => md_X1_holds
  | 16, _ => md_X1_meets
  | 17, _ => md_X2_init
  | 18, _ => md_X2_become
  | 19, _ => md_X2_copyFrom
  | 20, _ => md_X2_isHolding
  | 21, _ => md_X2_property
  | 22, _ => md_X3_init
  | 23, _ => md_X3_row
  | 24, _ => md_X3_draft
  | 25, _ => md_X3_keepDraft
  | 26, _ => md_X3_takeLatest
  | 27, _ => md_X4_init
  | 28, _ => md_X4_start
  | 29, _ => md_X4_copyFrom
  | 30, _ => md_X4_isPlace
  | 31, _ => md_X4_property
  | 32, _ => md_X4_moveToFront
  | 33, _ => md_X4_drop
  | 34, _ => md_X4_dropEnded
  | 35, _ => md_X4_placeOfSite
  | 36, _ => md_X4_placeOfSmallest
  | 37, _ => md_X4_addMap
  | 38, _ => md_X5_init
  | 39, _ => md_X5_copyFrom
  | 40, _ => md_X6_init
  | 41, _ => md_X6_start
  | 42, _ => md_X6_copyFrom
  | 43, _ => md_X6_isRegistered
  | 44, _ => md_X6_isUp
  | 45, _ => md_X7_init
  | 46, _ => md_X7_copyFrom
  | 47, _ => md_X7_fill
  | 48, _ => md_X7_propertyOf
  | 49, _ => md_X7_isEmpty
  | 50, _ => md_X7_areEmpty
  | 51, _ => md_X7_have
  | 52, _ => md_X7_lowestPriority
  | 53, _ => md_X7_weightThatCounts
  | 54, _ => md_X7_placeFor
  | 55, _ => md_X7_flowsTo
  | 56, _ => md_X8_init
  | 57, _ => md_X8_copyFrom
  | 58, _ => md_X8_isServer
  | 59, _ => md_X8_isSite
  | 60, _ => md_X8_isRouter
  | 61, _ => md_X8_newServer
  | 62, _ => md_X8_newSite
  | 63, _ => md_X8_newRouter
  | 64, _ => md_X8_fillSlot
  | 65, _ => md_X8_vacateSlot
  | 66, _ => md_X8_startRegistration
  | 67, _ => md_X8_endRegistration
  | 68, _ => md_X8_changeMapLife
  | 69, _ => md_X8_letPass
  | 70, _ => md_X8_emptyCache
  | 71, _ => md_X8_sendLetter
  | 72, _ => md_X8_placeByMap
  | 73, _ => md_X8_ask
  | 74, _ => md_X8_goByProxy
  | 75, _ => md_X8_homeOf
  | 76, _ => md_X8_homeOfSite
  | 77, _ => md_X8_hopsTo
  | 78, _ => md_X8_answerFor
  | 79, _ => md_X8_siteEndingAt
  | 80, _ => md_X8_sitesEndingAheadOf
  | 81, _ => md_X8_serverProperty
  | 82, _ => md_X8_childrenOf
  | 83, _ => md_X8_sitesAtHome
  | 84, _ => md_X8_siteProperty
  | 85, _ => md_X8_mapsOf
  | 86, _ => md_X8_totalOf
  | 87, _ => md_X8_sitesUp
  | 88, _ => md_X8_sumOverRouters
  | 89, _ => md_X8_namesWithAnswer
  | 90, _ => md_X9_init
  | 91, _ => md_X9_addServer
  | 92, _ => md_X9_addSite
  | 93, _ => md_X9_addRouter
  | 94, _ => md_X9_setSlot
  | 95, _ => md_X9_emptySlot
  | 96, _ => md_X9_register
  | 97, _ => md_X9_unregister
  | 98, _ => md_X9_setMapLife
  | 99, _ => md_X9_send
  | 100, _ => md_X9_pass
  | 101, _ => md_X9_forget
  | 102, _ => md_X9_append
  | 103, _ => md_X9_clearText
  | 104, _ => md_X9_faultPosition
  | 105, _ => md_X9_run
  | 106, _ => md_X9_undo
  | 107, _ => md_X9_save
  | 108, _ => md_X9_restore
  | 109, _ => md_X9_server
  | 110, _ => md_X9_site
  | 111, _ => md_X9_slot
  | 112, _ => md_X9_router
  | 113, _ => md_X9_map
  | 114, _ => md_X9_answer
  | 115, _ => md_X9_way
  | 116, _ => md_X9_endingNext
  | 117, _ => md_X9_total
  | 118, _ => md_X9_wouldReach
  | 119, _ => md_X9_wouldAsk
  | 120, _ => md_X9_share
  | 121, _ => md_X9_recorded
  | 122, _ => md_X9_carryOutAct
  | 123, _ => md_X9_isSave
  | 124, _ => md_X9_isSlot
  | 125, _ => md_X9_isName
  | 126, _ => md_X9_isFlow
  | 127, _ => md_X9_isPlaceOfSlot
  | 128, _ => md_X9_isBlock
  | 129, _ => md_X10_init
  | 130, _ => md_X10_isIn
  | 131, _ => md_X10_isServer
  | 132, _ => md_X10_isSite
  | 133, _ => md_X10_isRouter
  | 134, _ => md_X10_isName
  | 135, _ => md_X10_siteAt
  | 136, _ => md_X10_routerAt
  | 137, _ => md_X10_mapAt
  | 138, _ => md_X10_keeps
  | 139, _ => md_X10_brings
  | 140, _ => md_X10_records
  | 141, _ => md_X10_undo
  | 142, _ => md_X10_save
  | 143, _ => md_X10_restore
  | 144, _ => md_X10_isBlock
  | 145, _ => md_X10_firstOf
  | 146, _ => md_X10_sizeOf
  | 147, _ => md_X10_holds
  | 148, _ => md_X10_homeOf
  | 149, _ => md_X10_wayTo
  | 150, _ => md_X10_way
  | 151, _ => md_X10_addServer
  | 152, _ => md_X10_ofSite
  | 153, _ => md_X10_has
  | 154, _ => md_X10_homeOfSite
  | 155, _ => md_X10_isRegistered
  | 156, _ => md_X10_isUp
  | 157, _ => md_X10_answerOf
  | 158, _ => md_X10_answer
  | 159, _ => md_X10_addSite
  | 160, _ => md_X10_addRouter
  | 161, _ => md_X10_setSlot
  | 162, _ => md_X10_emptySlot
  | 163, _ => md_X10_registers
  | 164, _ => md_X10_register
  | 165, _ => md_X10_unregisterError
  | 166, _ => md_X10_unregisters
  | 167, _ => md_X10_unregister
  | 168, _ => md_X10_setMapLife
  | 169, _ => md_X10_mapsOf
  | 170, _ => md_X10_ofMap
  | 171, _ => md_X10_drops
  | 172, _ => md_X10_makesRoom
  | 173, _ => md_X10_uses
  | 174, _ => md_X10_asks
  | 175, _ => md_X10_chosen
  | 176, _ => md_X10_isAt
  | 177, _ => md_X10_takes
  | 178, _ => md_X10_proxy
  | 179, _ => md_X10_sends
  | 180, _ => md_X10_isLetter
  | 181, _ => md_X10_send
  | 182, _ => md_X10_pass
  | 183, _ => md_X10_forget
  | 184, _ => md_X10_append
  | 185, _ => md_X10_clearText
  | 186, _ => md_X10_passesSign
  | 187, _ => md_X10_isDigitHere
  | 188, _ => md_X10_passesNumber
  | 189, _ => md_X10_passesLetter
  | 190, _ => md_X10_passesAct
  | 191, _ => md_X10_faultOf
  | 192, _ => md_X10_faultPosition
  | 193, _ => md_X10_does
  | 194, _ => md_X10_run
  | 195, _ => md_X10_children
  | 196, _ => md_X10_sitesOf
  | 197, _ => md_X10_server
  | 198, _ => md_X10_copiesOf
  | 199, _ => md_X10_site
  | 200, _ => md_X10_slot
  | 201, _ => md_X10_router
  | 202, _ => md_X10_map
  | 203, _ => md_X10_isAhead
  | 204, _ => md_X10_endingNext
  | 205, _ => md_X10_upMany
  | 206, _ => md_X10_sumOf
  | 207, _ => md_X10_answered
  | 208, _ => md_X10_total
  | 209, _ => md_X10_wouldReach
  | 210, _ => md_X10_wouldAsk
  | 211, _ => md_X10_share
  | 212, _ => md_J6_bitCount_0f7a4
  | 213, _ => md_J9_floorMod_7cf53
  | 214, _ => md_L_law
  | n + 215, h => absurd h (by omega)
