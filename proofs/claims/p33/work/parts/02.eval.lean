/-! THE SMALL MACHINE: bytecode over a typed store. A reference is (kind, number); a store is the numbers that fields and int arrays hold, and what the rows of maps hold. -/
abbrev MV : Type := Int32 ⊕ (Nat × Nat)
abbrev St : Type := (Nat → Nat → Nat → Int32) × (Nat → Nat → Nat)
/-- an instruction: its place; (kind, operands); a constant; a list of pairs -/
abbrev Ent : Type := Nat × (Nat × Nat × Nat × Nat) × Int32 × List (Nat × Nat)
/-- fields that hold one object for ever: which -/
def lk (c k i : Nat) : Option (Nat × Nat) := match c with
  | 0 => (match k with | 0 => some (19, 0) | _ => none)
  | 1 => none
  | 2 => (match k with | 0 => some (1, 160 + i) | 1 => some (7, 80 + i) | _ => none)
  | 3 => (match k with | 0 => some (16, 0) | _ => none)
  | 4 => (match k with | 0 => some (14, i) | _ => none)
  | 5 => (match k with | 0 => some (1, i) | _ => none)
  | 6 => (match k with | 0 => some (1, 80 + i) | 1 => some (7, i) | _ => none)
  | 7 => some (15, i)
  | 8 => (match k with | 0 => some (11, i) | 1 => some (12, i) | 2 => some (13, i) | _ => none)
  | 9 => (match k with | 0 => some (8, 0) | 1 => some (8, 1) | 2 => some (3, 0) | 3 => some (17, 0) | 4 => some (18, 0) | _ => some (0, 0))
  | 10 => (match k with | 0 => some (20, 0) | 1 => some (21, 0) | 2 => some (22, 0) | 4 => some (23, 0) | _ => none)
  | _ => none
/-- the elements of an array of references -/
def el (P : Nat → Nat → Nat) (c i j : Nat) : Nat × Nat := match c with
  | 11 => (5, 8 * i + j)
  | 12 => (6, 8 * i + j)
  | 13 => (4, 4 * i + j)
  | 14 => (2, P i j)
  | 16 => (8, 2 + j)
  | _ => (8, 8 + j)
def alen (c : Nat) : Nat := match c with
  | 11 => 8 | 12 => 8 | 13 => 4 | 14 => 5 | 15 => 9 | 16 => 6 | 17 => 2 | 18 => 2 | 19 => 80 | 20 => 509 | 21 => 4072 | 22 => 2 | _ => 80
/-- what kind of array: 0 int, 1 boolean, 2 byte, 3 references, 9 none -/
def akind (c : Nat) : Nat := match c with
  | 11 => 3 | 12 => 3 | 13 => 3 | 14 => 3 | 15 => 0 | 16 => 3 | 17 => 3 | 18 => 1 | 19 => 2 | 20 => 0 | 21 => 0 | 22 => 0 | 23 => 0 | _ => 9
def fv (s : St) (c i k : Nat) : MV := match lk c k i with
  | some r => .inr r
  | none => .inl (s.1 c i k)
def putV (s : St) (c i k : Nat) (x : Int32) : St := (fun a b d => if a = c ∧ b = i ∧ d = k then x else s.1 a b d, s.2)
def putP (s : St) (i k y : Nat) : St := (s.1, fun a b => if a = i ∧ b = k then y else s.2 a b)
def getL : List MV → Nat → Option MV
  | [], _ => none
  | x :: _, 0 => some x
  | _ :: l, n + 1 => getL l n
/-- a local is set, or the next one comes -/
def setL : List MV → Nat → MV → List MV
  | [], _, v => [v]
  | _ :: l, 0, v => v :: l
  | x :: l, n + 1, v => x :: setL l n v
def takeL : List MV → Nat → List MV
  | [], _ => []
  | _ :: _, 0 => []
  | x :: l, n + 1 => x :: takeL l n
def popL : Nat → List MV → List MV → Option (List MV × List MV)
  | 0, acc, st => some (acc, st)
  | n + 1, acc, v :: st => popL n (v :: acc) st
  | _ + 1, _, [] => none
def fromPc : List Ent → Nat → List Ent
  | [], _ => []
  | e :: es, t => match Nat.beq e.1 t with
    | true => e :: es
    | false => fromPc es t
/-- behind the mark that stands at a loop's head -/
def behind : List Ent → List Ent
  | (pc, (0, a), c) :: es => es
  | es => es
def cmpT (b : Nat) (x y : Int32) : Prop := match b with
  | 0 => x = y | 1 => ¬ x = y | 2 => x.toInt < y.toInt | 3 => y.toInt ≤ x.toInt | 4 => y.toInt < x.toInt | _ => x.toInt ≤ y.toInt
def cmpF (b : Nat) (x y : Int32) : Prop := match b with
  | 0 => ¬ x = y | 1 => x = y | 2 => y.toInt ≤ x.toInt | 3 => x.toInt < y.toInt | 4 => x.toInt ≤ y.toInt | _ => y.toInt < x.toInt
def binW (a : Nat) (x y : Int32) (k : Int32 → Prop) : Prop := match a with
  | 0 => k (x + y)
  | 1 => k (x - y)
  | 2 => k (x * y)
  | 3 => ¬ y = 0 ∧ k (x / y)
  | 4 => ¬ y = 0 ∧ k (x - x / y * y)
  | 5 => k (x &&& y)
  | 6 => k ((x.toUInt32 >>> (y.toUInt32 &&& Int32.toUInt32 31)).toInt32)
  | 7 => k (x ^^^ y)
  | 8 => k (x >>> (y &&& 31))
  | _ => k (x <<< (y &&& 31))
def swW (x : Int32) (k : Nat → Prop) (d : Nat) : List (Nat × Nat) → Prop
  | [] => k d
  | (v, t) :: cs => (x = Int32.ofNat v → k t) ∧ (¬ x = Int32.ofNat v → swW x k d cs)
def retW (ret : Nat) (v : Int32) (q : Prop) : Prop := match ret with
  | 0 => q
  | 1 => (v = 0 ∨ v = 1) ∧ q
  | _ => False
def pushW (r : Option MV) (st : List MV) : List MV := match r with
  | some v => v :: st
  | none => st
def inA (i : Int32) (n : Nat) : Prop := 0 ≤ i.toInt ∧ i.toInt < (n : Int)
def boolW (b : Bool) (q : Prop) : Prop := match b with
  | true => q
  | false => False
/-- one instruction: k goes on with the next one, j jumps, X takes a loop's head over, call calls, Q is what is wanted of the answer -/
def stepW (call : Nat → List MV → St → (Option MV → St → Prop) → Prop) (L : Nat) (xs : Nat → Int32) (ret : Nat) (Q : Option MV → St → Prop) (X : Nat → List MV → List MV → St → Prop) (k : List Ent → List MV → List MV → St → Prop) (j : Nat → List MV → List MV → St → Prop) (es : List Ent) (ls st : List MV) (s : St) : Prop :=
  match es with
  | [] => False
  | (pc, (op, a, b, d), c, cs) :: es => match op with
    | 0 => X pc (takeL ls a) st s
    | 1 => k es ls (.inl c :: st) s
    | 2 => (match getL ls a with
      | some (.inl x) => boolW (Nat.ble b 1) (k es ls (.inl x :: st) s)
      | some (.inr r) => boolW (Nat.ble 2 b) (k es ls (.inr r :: st) s)
      | none => False)
    | 3 => (match st with
      | .inl x :: st => boolW (Nat.ble b 1 && Nat.ble a ls.length) (k es (setL ls a (.inl x)) st s)
      | .inr r :: st => boolW (Nat.ble 2 b && Nat.ble a ls.length) (k es (setL ls a (.inr r)) st s)
      | [] => False)
    | 4 => (match st with
      | .inl y :: .inl x :: st => binW a x y (fun v => k es ls (.inl v :: st) s)
      | _ => False)
    | 5 => (match getL ls a with
      | some (.inl x) => k es (setL ls a (.inl (x + c))) st s
      | _ => False)
    | 6 => (match st with
      | .inl x :: st => (cmpF b x 0 → k es ls st s) ∧ (cmpT b x 0 → j a ls st s)
      | _ => False)
    | 7 => (match st with
      | .inl y :: .inl x :: st => (cmpF b x y → k es ls st s) ∧ (cmpT b x y → j a ls st s)
      | _ => False)
    | 8 => j a ls st s
    | 9 => (match st with
      | .inr (q, i) :: st => boolW (Nat.beq q b) (k es ls (fv s b i d :: st) s)
      | _ => False)
    | 10 => (match st with
      | .inl x :: .inr (q, i) :: st => boolW (Nat.beq q b) (match lk b d i with
        | none => (match Nat.beq b 2 && Nat.beq d 5 with
          | true => (x = 0 ∨ x = 1) ∧ k es ls st (putV s b i d x)
          | false => k es ls st (putV s b i d x))
        | some _ => False)
      | _ => False)
    | 11 => (match st with
      | .inl i :: .inr (q, n) :: st => (match Nat.beq q 24 with
        | true => boolW (Nat.beq a 0) (inA i L ∧ k es ls (.inl (xs i.toNatClampNeg) :: st) s)
        | false => (match akind q with
          | 0 => boolW (Nat.beq a 0) (inA i (alen q) ∧ k es ls (.inl (s.1 q n i.toNatClampNeg) :: st) s)
          | 1 => boolW (Nat.beq a 1) (inA i (alen q) ∧ k es ls (.inl (s.1 q n i.toNatClampNeg) :: st) s)
          | 2 => boolW (Nat.beq a 1) (inA i (alen q) ∧ k es ls (.inl (s.1 q n i.toNatClampNeg) :: st) s)
          | 3 => boolW (Nat.beq a 2) (inA i (alen q) ∧ k es ls (.inr (el s.2 q n i.toNatClampNeg) :: st) s)
          | _ => False))
      | _ => False)
    | 12 => (match st with
      | .inl x :: .inl i :: .inr (q, n) :: st => (match akind q with
        | 0 => boolW (Nat.beq a 0) (inA i (alen q) ∧ k es ls st (putV s q n i.toNatClampNeg x))
        | 1 => boolW (Nat.beq a 1) (inA i (alen q) ∧ (x = 0 ∨ x = 1) ∧ k es ls st (putV s q n i.toNatClampNeg x))
        | 2 => boolW (Nat.beq a 1) (inA i (alen q) ∧ x.toInt8.toInt32 = x ∧ k es ls st (putV s q n i.toNatClampNeg x))
        | _ => False)
      | .inr (w, y) :: .inl i :: .inr (q, n) :: st => boolW (Nat.beq w 2 && (Nat.beq a 2 && Nat.beq q 14)) (inA i 5 ∧ k es ls st (putP s n i.toNatClampNeg y))
      | _ => False)
    | 13 => (match cs with
      | (n, w) :: _ => (match popL n [] st with
        | some (as, st) => boolW (Nat.ble st.length 8) (match Nat.beq d 0 with
          | true => (match as with
            | .inr (q, _) :: _ => boolW (Nat.beq q w) (call b as s (fun r s => k es ls (pushW r st) s))
            | _ => False)
          | false => call b as s (fun r s => k es ls (pushW r st) s))
        | none => False)
      | [] => False)
    | 14 => (match Nat.beq a 0 with
      | true => (match st with
        | [.inl v] => retW ret v (Q (some (.inl v)) s)
        | _ => False)
      | false => (match st with
        | [] => boolW (Nat.beq ret 2) (Q none s)
        | _ => False))
    | 15 => (match st with
      | v :: st => k es ls (v :: v :: st) s
      | _ => False)
    | 16 => (match st with
      | v :: w :: st => k es ls (v :: w :: v :: w :: st) s
      | _ => False)
    | 17 => (match st with
      | .inl x :: st => k es ls (.inl x.toInt8.toInt32 :: st) s
      | _ => False)
    | 18 => (match st with
      | .inl x :: st => swW x (fun t => j t ls st s) a cs
      | _ => False)
    | 19 => (match st with
      | .inr (q, _) :: st => boolW (Nat.beq q 24) (k es ls (.inl (Int32.ofNat L) :: st) s)
      | _ => False)
    | 20 => (match st with
      | .inl y :: .inl x :: st => boolW (Nat.ble st.length 8) (k es ls (.inl (if y < x then y else x) :: st) s)
      | _ => False)
    | _ => False
/-- at most n instructions from an entry on, up to a loop's head or the end -/
def wp (call : Nat → List MV → St → (Option MV → St → Prop) → Prop) (L : Nat) (xs : Nat → Int32) (ret : Nat) (Q : Option MV → St → Prop) (X : Nat → List MV → List MV → St → Prop) (code : List Ent) : Nat → List Ent → List MV → List MV → St → Prop
  | 0 => fun _ _ _ _ => False
  | n + 1 => fun es ls st s => stepW call L xs ret Q X (wp call L xs ret Q X code n) (fun t ls st s => wp call L xs ret Q X code n (fromPc code t) ls st s) es ls st s
/-- a method's body meets Q: X holds at its start, whatever X is closed under the body's stretches -/
def bodyW (call : Nat → List MV → St → (Option MV → St → Prop) → Prop) (L : Nat) (xs : Nat → Int32) (ret : Nat) (Q : Option MV → St → Prop) (code : List Ent) (pc : Nat) (ls st : List MV) (s : St) : Prop :=
  ∀ X : Nat → List MV → List MV → St → Prop, (∀ (n pc : Nat) (ls st : List MV) (s : St), wp call L xs ret Q X code n (behind (fromPc code pc)) ls st s → X pc ls st s) → X pc ls st s
/-- method m, on these arguments and this store, with f frames of room, returns, and Q holds of its answer and its store -/
def wpM (L : Nat) (xs : Nat → Int32) (cod : Nat → List Ent) (rets : Nat → Nat) : Nat → Nat → List MV → St → (Option MV → St → Prop) → Prop
  | 0 => fun _ _ _ _ => False
  | f + 1 => fun m as s Q => ∀ call : Nat → List MV → St → (Option MV → St → Prop) → Prop, (∀ (m : Nat) (as : List MV) (s : St) (Q : Option MV → St → Prop), wpM L xs cod rets f m as s Q → call m as s Q) → bodyW call L xs (rets m) Q (cod m) 0 as [] s
