/-! THE MAKING: what stands in the end -/
/-- two tables are the same -/
def eqV (v w : MV) : Bool := match v, w with
  | .inl x, .inl y => decide (x = y)
  | .inr (a, b), .inr (c, d) => Nat.beq a c && Nat.beq b d
  | _, _ => false
def eqF : List (Option MV) → List (Option MV) → Bool
  | [], [] => true
  | none :: l, none :: r => eqF l r
  | some v :: l, some w :: r => eqV v w && eqF l r
  | _, _ => false
def eqI : List (Nat × Int32) → List (Nat × Int32) → Bool
  | [], [] => true
  | (i, x) :: l, (j, y) :: r => Nat.beq i j && (decide (x = y) && eqI l r)
  | _, _ => false
def eqR : List (Nat × Nat) → List (Nat × Nat) → Bool
  | [], [] => true
  | (i, x) :: l, (j, y) :: r => Nat.beq i j && (Nat.beq x y && eqR l r)
  | _, _ => false
def eqC (e g : CE) : Bool := match e, g with
  | .inl (a, l), .inl (b, r) => Nat.beq a b && eqF l r
  | .inr (a, m, .inl l), .inr (b, n, .inl r) => Nat.beq a b && (Nat.beq m n && eqI l r)
  | .inr (a, m, .inr l), .inr (b, n, .inr r) => Nat.beq a b && (Nat.beq m n && eqR l r)
  | _, _ => false
def eqT : List CE → List CE → Bool
  | [], [] => true
  | e :: l, g :: r => eqC e g && eqT l r
  | _, _ => false
theorem eqV_ok {v w : MV} (h : eqV v w = true) : v = w := by
  cases v with
  | inl x => cases w with
    | inl y => exact congrArg Sum.inl (of_decide_eq_true h)
    | inr r => cases h
  | inr q => cases w with
    | inl y => cases h
    | inr r =>
      obtain ⟨a, b⟩ := q
      obtain ⟨c, d⟩ := r
      have h : (Nat.beq a c && Nat.beq b d) = true := h
      rw [Bool.and_eq_true] at h
      rw [Nat.eq_of_beq_eq_true h.1, Nat.eq_of_beq_eq_true h.2]
theorem eqF_ok : ∀ {l r : List (Option MV)}, eqF l r = true → l = r
  | [], [], _ => rfl
  | none :: l, none :: r, h => congrArg (none :: ·) (eqF_ok (l := l) (r := r) h)
  | some v :: l, some w :: r, h => by
    have h : (eqV v w && eqF l r) = true := h
    rw [Bool.and_eq_true] at h
    rw [eqV_ok h.1, eqF_ok h.2]
  | [], _ :: _, h => by cases h
  | none :: _, [], h => by cases h
  | some _ :: _, [], h => by cases h
  | none :: _, some _ :: _, h => by cases h
  | some _ :: _, none :: _, h => by cases h
theorem eqI_ok : ∀ {l r : List (Nat × Int32)}, eqI l r = true → l = r
  | [], [], _ => rfl
  | (i, x) :: l, (j, y) :: r, h => by
    have h : (Nat.beq i j && (decide (x = y) && eqI l r)) = true := h
    rw [Bool.and_eq_true, Bool.and_eq_true, decide_eq_true_eq] at h
    rw [Nat.eq_of_beq_eq_true h.1, h.2.1, eqI_ok h.2.2]
  | [], _ :: _, h => by cases h
  | _ :: _, [], h => by cases h
theorem eqR_ok : ∀ {l r : List (Nat × Nat)}, eqR l r = true → l = r
  | [], [], _ => rfl
  | (i, x) :: l, (j, y) :: r, h => by
    have h : (Nat.beq i j && (Nat.beq x y && eqR l r)) = true := h
    rw [Bool.and_eq_true, Bool.and_eq_true] at h
    rw [Nat.eq_of_beq_eq_true h.1, Nat.eq_of_beq_eq_true h.2.1, eqR_ok h.2.2]
  | [], _ :: _, h => by cases h
  | _ :: _, [], h => by cases h
theorem eqC_ok {e g : CE} (h : eqC e g = true) : e = g := by
  match e, g, h with
  | .inl (a, l), .inl (b, r), h =>
    have h : (Nat.beq a b && eqF l r) = true := h
    rw [Bool.and_eq_true] at h
    rw [Nat.eq_of_beq_eq_true h.1, eqF_ok h.2]
  | .inr (a, m, .inl l), .inr (b, n, .inl r), h =>
    have h : (Nat.beq a b && (Nat.beq m n && eqI l r)) = true := h
    rw [Bool.and_eq_true, Bool.and_eq_true] at h
    rw [Nat.eq_of_beq_eq_true h.1, Nat.eq_of_beq_eq_true h.2.1, eqI_ok h.2.2]
  | .inr (a, m, .inr l), .inr (b, n, .inr r), h =>
    have h : (Nat.beq a b && (Nat.beq m n && eqR l r)) = true := h
    rw [Bool.and_eq_true, Bool.and_eq_true] at h
    rw [Nat.eq_of_beq_eq_true h.1, Nat.eq_of_beq_eq_true h.2.1, eqR_ok h.2.2]
  | .inl _, .inr (_, _, .inl _), h => cases h
  | .inl _, .inr (_, _, .inr _), h => cases h
  | .inr (_, _, .inl _), .inl _, h => cases h
  | .inr (_, _, .inr _), .inl _, h => cases h
  | .inr (_, _, .inl _), .inr (_, _, .inr _), h => cases h
  | .inr (_, _, .inr _), .inr (_, _, .inl _), h => cases h
theorem eqT_ok : ∀ {l r : List CE}, eqT l r = true → l = r
  | [], [], _ => rfl
  | e :: l, g :: r, h => by
    have h : (eqC e g && eqT l r) = true := h
    rw [Bool.and_eq_true] at h
    rw [eqC_ok h.1, eqT_ok h.2]
  | [], _ :: _, h => by cases h
  | _ :: _, [], h => by cases h
def isT (o : Option (List CE)) (r : List CE) : Bool := match o with
  | some l => eqT l r
  | none => false
theorem isT_ok {o : Option (List CE)} {r : List CE} (h : isT o r = true) : o = some r := by
  cases o with
  | none => cases h
  | some l => rw [eqT_ok (show eqT l r = true from h)]
def wbO (w : Nat) : Nat := if w < 2 then 1 + 140 * w else if w < 8 then 3 + 140 * w else 4 + 140 * w
def svO (i : Nat) : Nat := wbO (i / 8) + 4 + 2 * (i % 8)
def stO (i : Nat) : Nat := wbO (i / 8) + 20 + 4 * (i % 8)
def roO (i : Nat) : Nat := wbO (i / 4) + 52 + 22 * (i % 4)
def mpO (y : Nat) : Nat := roO (y / 5) + 2 + 4 * (y % 5)
/-- which cell is made when -/
def ofs (r : Nat × Nat) : Nat := match r.1 with
  | 0 => 1405 | 19 => 1406 | 9 => 0 | 3 => 281 | 16 => 282 | 17 => 1123 | 18 => 1404 | 10 => 1407 | 20 => 1408 | 21 => 1409 | 22 => 1410 | 23 => 1411
  | 8 => wbO r.2 | 11 => wbO r.2 + 1 | 12 => wbO r.2 + 2 | 13 => wbO r.2 + 3
  | 5 => svO r.2 | 6 => stO r.2 | 4 => roO r.2 | 14 => roO r.2 + 1 | 2 => mpO r.2
  | 1 => if r.2 < 80 then svO r.2 + 1 else if r.2 < 160 then stO (r.2 - 80) + 1 else mpO (r.2 - 160) + 1
  | 7 => if r.2 < 80 then stO r.2 + 2 else mpO (r.2 - 80) + 2
  | 15 => if r.2 < 80 then stO r.2 + 3 else mpO (r.2 - 80) + 3
  | _ => 5000
/-- the first store -/
def ini1 (c i k : Nat) : Int32 := match c with
  | 0 => (match k with | 3 => -1 | _ => 0)
  | 1 => (match k with | 1 => if i < 80 ∧ i % 8 = 0 then nI 256 else 0 | _ => 0)
  | 5 => (match k with | 1 => -5 | _ => 0)
  | 8 => (match k with | 3 => 1 | 7 => 10 | _ => 0)
  | 20 => (match k with | 1 => 1 | 4 => 10 | 5 => -5 | 7 => nI 256 | _ => 0)
  | _ => 0
def z0 : St := (ini1, fun i j => 5 * i + j)
def dF (r : Nat × Nat) : List (Option MV) := (List.range (nfK r.1)).map (fun k => some (match lk r.1 k r.2 with
  | some q => .inr (0, ofs q)
  | none => .inl (z0.1 r.1 r.2 k)))
def unW (w k : Nat) : Nat × Nat :=
  if k < 4 then (if k = 0 then (8, w) else (10 + k, w))
  else if k < 20 then (if (k - 4) % 2 = 0 then (5, 8 * w + (k - 4) / 2) else (1, 8 * w + (k - 4) / 2))
  else if k < 52 then (match (k - 20) % 4 with
    | 0 => (6, 8 * w + (k - 20) / 4) | 1 => (1, 80 + (8 * w + (k - 20) / 4)) | 2 => (7, 8 * w + (k - 20) / 4) | _ => (15, 8 * w + (k - 20) / 4))
  else (match (k - 52) % 22 with
    | 0 => (4, 4 * w + (k - 52) / 22)
    | 1 => (14, 4 * w + (k - 52) / 22)
    | j + 2 => (match j % 4 with
      | 0 => (2, 5 * (4 * w + (k - 52) / 22) + j / 4) | 1 => (1, 160 + (5 * (4 * w + (k - 52) / 22) + j / 4)) | 2 => (7, 80 + (5 * (4 * w + (k - 52) / 22) + j / 4)) | _ => (15, 80 + (5 * (4 * w + (k - 52) / 22) + j / 4))))
def unofs (k : Nat) : Nat × Nat :=
  if k = 0 then (9, 0) else if k < 281 then unW ((k - 1) / 140) ((k - 1) % 140) else if k = 281 then (3, 0) else if k = 282 then (16, 0)
  else if k < 1123 then unW ((k - 283) / 140 + 2) ((k - 283) % 140) else if k = 1123 then (17, 0) else if k < 1404 then unW ((k - 1124) / 140 + 8) ((k - 1124) % 140)
  else if k = 1404 then (18, 0) else if k = 1405 then (0, 0) else if k = 1406 then (19, 0) else if k = 1407 then (10, 0) else (k - 1388, 0)
/-- what the cell of r holds in the end; cell k; the newest of len cells from n on -/
def descR (r : Nat × Nat) : CE :=
  if r.1 < 10 then .inl (r.1, dF r)
  else if akind r.1 = 3 then .inr (atyK r.1, alen r.1, .inr ((List.range (alen r.1)).reverse.map (fun j => (j, ofs (el z0.2 r.1 r.2 j)))))
  else .inr (atyK r.1, alen r.1, .inl (if r.1 = 20 then [(7, nI 256), (5, -5), (4, nI 10), (1, nI 1)] else []))
def fin (k : Nat) : CE := descR (unofs k)
def tm (n : Nat) : Nat → List CE
  | 0 => []
  | len + 1 => fin (n + len) :: tm n len
set_option maxRecDepth 1000000 in
theorem unofs_ok : allR.all (fun r => decide (unofs (ofs r) = r)) = true := by decide +kernel
