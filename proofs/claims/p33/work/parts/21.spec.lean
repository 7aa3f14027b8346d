/-! THE NUMBERS: what the reference's row of numbers says; every answer is told by it -/
abbrev Fm : Type := Nat → Int32
def nn (x : Int32) : Nat := x.toNatClampNeg
def cS (F : Fm) : Nat := nn (F 1)
def cT (F : Fm) : Nat := nn (F 2)
def cR (F : Fm) : Nat := nn (F 3)
def cM (F : Fm) (r : Nat) : Nat := nn (F (165 + 6 * r))
/-- where map p of router r stands -/
def mA (r p : Nat) : Nat := 189 + 16 * (5 * r + p)
abbrev holdF (F : Fm) (k : Nat) (a z : Int32) : Prop := (F (5 + 3 * k + 1)).toInt ≤ a.toInt ∧ (a + z).toInt ≤ (F (5 + 3 * k + 1) + F (5 + 3 * k + 2)).toInt
def homeN (F : Fm) (a z : Int32) : Nat → Nat
  | 0 => 0
  | n + 1 => if holdF F (n + 1) a z ∧ (F (5 + 3 * (n + 1) + 2)).toInt < (F (5 + 3 * homeN F a z n + 2)).toInt then n + 1 else homeN F a z n
def homeF (F : Fm) (a z : Int32) : Nat := homeN F a z (cS F - 1)
def wayN (F : Fm) : Nat → Nat → Nat
  | 0, _ => 0
  | n + 1, k => if k = 0 then 1 else wayN F n (nn (F (5 + 3 * k))) + 1
def wayF (F : Fm) (k : Nat) : Nat := wayN F 8 k
abbrev upF (F : Fm) (k : Nat) : Prop := (F 0).toInt < (F (29 + 17 * k + 4)).toInt ∧ (F (29 + 17 * k + 5) = nI 1 ∨ F (29 + 17 * k + 9) = nI 1 ∨ F (29 + 17 * k + 13) = nI 1)
abbrev hasF (F : Fm) (k : Nat) (name : Int32) : Prop := (F (29 + 17 * k)).toInt ≤ name.toInt ∧ name.toInt < (F (29 + 17 * k) + F (29 + 17 * k + 1)).toInt
def betB (F : Fm) (n : Nat) (o : Option Nat) : Bool := match o with
  | none => true
  | some b => decide ((F (29 + 17 * n + 1)).toInt < (F (29 + 17 * b + 1)).toInt)
def ansN (F : Fm) (name : Int32) : Nat → Option Nat
  | 0 => none
  | n + 1 => if (upF F n ∧ hasF F n name ∧ homeF F (F (29 + 17 * n)) (F (29 + 17 * n + 1)) = homeF F name (nI 1)) ∧ betB F n (ansN F name n) = true then some n else ansN F name n
def ansF (F : Fm) (name : Int32) : Option Nat := ansN F name (cT F)
def optI (o : Option Nat) (d : Int32) : Int32 := match o with
  | some n => nI n
  | none => d
/-- lowest priority and sum of weights after k slots that stand at b -/
def lsN (F : Fm) (b : Nat) : Nat → Int32 × Int32
  | 0 => (nI 10, nI 0)
  | k + 1 => if F (b + 4 * k) = nI 1 ∧ (F (b + 4 * k + 2)).toInt ≤ (lsN F b k).1.toInt then (F (b + 4 * k + 2), if (F (b + 4 * k + 2)).toInt < (lsN F b k).1.toInt then F (b + 4 * k + 3) else (lsN F b k).2 + F (b + 4 * k + 3)) else lsN F b k
def choN (F : Fm) (b : Nat) (lo : Int32) : Nat → Nat → Int32 → Int32
  | 0, _, _ => -5
  | n + 1, k, left => if F (b + 4 * k) = nI 1 ∧ F (b + 4 * k + 2) = lo then (if (left - F (b + 4 * k + 3)).toInt < 0 then F (b + 4 * k + 1) else choN F b lo n (k + 1) (left - F (b + 4 * k + 3))) else choN F b lo n (k + 1) left
def choF (F : Fm) (b : Nat) (flow : Int32) : Int32 := choN F b (lsN F b 3).1 3 0 (if (lsN F b 3).2 = 0 then nI 0 else flow - flow / (lsN F b 3).2 * (lsN F b 3).2)
abbrev isAtF (F : Fm) (k : Nat) (place : Int32) : Prop := ((F (29 + 17 * k + 5) = nI 1 ∧ F (29 + 17 * k + 6) = place) ∨ (F (29 + 17 * k + 9) = nI 1 ∧ F (29 + 17 * k + 10) = place) ∨ (F (29 + 17 * k + 13) = nI 1 ∧ F (29 + 17 * k + 14) = place)) ∧ upF F k
def dropsF (F : Fm) (r p : Nat) : Fm := fun i => if i = 165 + 6 * r then F i - nI 1 else if mA r p ≤ i ∧ i < mA r (cM F r - 1) then F (i + 16) else F i
def roomF (F : Fm) (r c : Nat) : Fm := fun i => if mA r 1 ≤ i ∧ i < mA r c + 16 then F (i - 16) else F i
def usesF (F : Fm) (r p : Nat) : Fm := fun i => if mA r 0 ≤ i ∧ i < mA r 1 then F (i + 16 * p) else if mA r 1 ≤ i ∧ i < mA r (p + 1) then F (i - 16) else F i
def fillF (F : Fm) (r k : Nat) : Fm := fun i => if i = 165 + 6 * r then F i + nI 1 else if i = mA r 0 then nI k else if i = mA r 0 + 1 then F (29 + 17 * k + 3) else if i = mA r 0 + 2 then F 0 + F 4 else if i = mA r 0 + 3 then nI 0 else if mA r 0 + 4 ≤ i ∧ i < mA r 0 + 16 then F (29 + 17 * k + 5 + (i - (mA r 0 + 4))) else F i
/-- maps of site k among the first n go -/
def purgeF (r k : Nat) : Nat → Fm → Fm
  | 0, F => F
  | n + 1, F => purgeF r k n (if F (mA r n) = nI k then dropsF F r n else F)
def askedF (F : Fm) (r : Nat) (name : Int32) : Fm := fun i => if i = 165 + 6 * r + 1 then F i + nI 1 else if i = 165 + 6 * r + 2 then F i + nI (wayF F (homeF F name (nI 1))) else F i
def newF (F : Fm) (r k : Nat) : Fm :=
  let G := purgeF r k (cM F r) F
  let H := if cM G r = 5 then dropsF G r 4 else G
  fillF (roomF H r (cM H r)) r k
def asksF (F : Fm) (r : Nat) (name : Int32) : Bool × Fm := match ansF (askedF F r name) name with
  | none => (false, askedF F r name)
  | some k => (true, newF (askedF F r name) r k)
/-- maps among the first n that do not hold go -/
def endF (r : Nat) : Nat → Fm → Fm
  | 0, F => F
  | n + 1, F => endF r n (if (F (mA r n + 2)).toInt ≤ (F 0).toInt then dropsF F r n else F)
def tkB (F : Fm) (r n : Nat) (o : Option Nat) : Bool := match o with
  | none => decide ((F (29 + 17 * nn (F (mA r n)) + 1)).toInt < 257)
  | some b => decide ((F (29 + 17 * nn (F (mA r n)) + 1)).toInt < (F (29 + 17 * nn (F (mA r b)) + 1)).toInt)
def takeN (F : Fm) (r : Nat) (name : Int32) : Nat → Option Nat
  | 0 => none
  | n + 1 => if hasF F (nn (F (mA r n))) name ∧ tkB F r n (takeN F r name n) = true then some n else takeN F r name n
def plusF (F : Fm) (j : Nat) : Fm := fun i => if i = j then F i + nI 1 else F i
def proxF (name : Int32) : Int32 := nI 32 + name / nI 32
def restF (G : Fm) (r p : Nat) (name flow : Int32) : Int32 × Fm :=
  let G1 := usesF G r p
  let k := nn (G1 (mA r 0))
  let place := choF G1 (mA r 0 + 4) flow
  if isAtF G1 k place then (place, if G1 (mA r 0 + 1) = G1 (29 + 17 * k + 3) then G1 else fun i => if i = mA r 0 + 3 then nI 1 else G1 i)
  else match asksF (dropsF (plusF G1 (165 + 6 * r + 5)) r 0) r name with
    | (true, G3) => (choF G3 (mA r 0 + 4) flow, G3)
    | (false, G3) => (proxF name, plusF G3 (165 + 6 * r + 4))
def sendF (F : Fm) (r : Nat) (name flow : Int32) : Int32 × Fm :=
  let F1 := plusF F (165 + 6 * r + 3)
  let F2 := endF r (cM F1 r) F1
  match takeN F2 r name (cM F2 r) with
  | none => (match asksF F2 r name with
    | (true, F3) => restF F3 r 0 name flow
    | (false, F3) => (proxF name, plusF F3 (165 + 6 * r + 4)))
  | some p => if F2 (mA r p + 3) = nI 1 then (match asksF F2 r name with
      | (true, F3) => restF F3 r 0 name flow
      | (false, F3) => (proxF name, plusF (dropsF F3 r p) (165 + 6 * r + 4)))
    else restF F2 r p name flow
/-- a store whose row of numbers is F -/
def setN (s : St) (F : Fm) : St := (fun a b d => if a = 20 ∧ b = 0 then F d else s.1 a b d, s.2)
theorem setN_now (s : St) (F : Fm) (i : Nat) : (setN s F).1 20 0 i = F i := by
  show (if 20 = 20 ∧ 0 = 0 then F i else s.1 20 0 i) = F i
  rw [if_pos ⟨rfl, rfl⟩]
theorem setN_self (s : St) : setN s (s.1 20 0) = s := by
  unfold setN
  apply Prod.ext
  · funext a b d
    show (if a = 20 ∧ b = 0 then s.1 20 0 d else s.1 a b d) = _
    split
    · rename_i h; rw [h.1, h.2]
    · rfl
  · rfl
theorem setN_setN (s : St) (F G : Fm) : setN (setN s F) G = setN s G := by
  unfold setN
  apply Prod.ext
  · funext a b d
    show (if a = 20 ∧ b = 0 then G d else if a = 20 ∧ b = 0 then F d else s.1 a b d) = (if a = 20 ∧ b = 0 then G d else s.1 a b d)
    by_cases h : a = 20 ∧ b = 0
    · rw [if_pos h, if_pos h]
    · rw [if_neg h, if_neg h, if_neg h]
  · rfl
def putF (F : Fm) (i : Nat) (x : Int32) : Fm := fun j => if j = i then x else F j
theorem putF_at (F : Fm) (i : Nat) (x : Int32) : putF F i x i = x := if_pos rfl
theorem putF_ne (F : Fm) {i j : Nat} (x : Int32) (h : j ≠ i) : putF F i x j = F j := if_neg h
theorem putF_plus (F : Fm) (j : Nat) : putF F j (F j + nI 1) = plusF F j := by
  funext i
  unfold putF plusF
  split
  · rename_i h; rw [h]
  · rfl
theorem setN_put (s : St) (F : Fm) (i : Nat) (x : Int32) : putV (setN s F) 20 0 i x = setN s (putF F i x) := by
  unfold setN putV putF
  apply Prod.ext
  · funext a b d
    show (if a = 20 ∧ b = 0 ∧ d = i then x else if a = 20 ∧ b = 0 then F d else s.1 a b d) = (if a = 20 ∧ b = 0 then (if d = i then x else F d) else s.1 a b d)
    by_cases h1 : a = 20 <;> by_cases h2 : b = 0 <;> simp [h1, h2]
  · rfl
theorem setN_o {s : St} {F : Fm} {a b d : Nat} (h : a ≠ 20) : (setN s F).1 a b d = s.1 a b d := by
  show (if a = 20 ∧ b = 0 then F d else s.1 a b d) = _
  rw [if_neg fun q => h q.1]
theorem alen20 : alen 20 = 509 := rfl
theorem alen21 : alen 21 = 4072 := rfl
/-! what holds of the numbers, always -/
def WFserver (F : Fm) (k : Nat) : Prop := (∃ a z : Nat, F (5 + 3 * k + 1) = nI a ∧ F (5 + 3 * k + 2) = nI z ∧ 1 ≤ z ∧ a + z ≤ 256) ∧ (k = 0 → F (5 + 3 * k) = -5) ∧ (0 < k → ∃ p : Nat, p < k ∧ F (5 + 3 * k) = nI p)
def slotOk (F : Fm) (b : Nat) : Prop := (F b = nI 0 ∨ F b = nI 1) ∧ (F b = nI 1 → (0 ≤ (F (b + 1)).toInt ∧ (F (b + 1)).toInt < 32) ∧ (0 ≤ (F (b + 2)).toInt ∧ (F (b + 2)).toInt < 10) ∧ 1 ≤ (F (b + 3)).toInt ∧ (F (b + 3)).toInt ≤ 9)
def WFsite (F : Fm) (B k : Nat) : Prop := (∃ a z : Nat, F (29 + 17 * k) = nI a ∧ F (29 + 17 * k + 1) = nI z ∧ 1 ≤ z ∧ a + z ≤ 256) ∧ (1 ≤ (F (29 + 17 * k + 2)).toInt ∧ (F (29 + 17 * k + 2)).toInt ≤ 48) ∧ (1 ≤ (F (29 + 17 * k + 3)).toInt ∧ (F (29 + 17 * k + 3)).toInt ≤ (B : Int)) ∧ (0 ≤ (F (29 + 17 * k + 4)).toInt ∧ (F (29 + 17 * k + 4)).toInt ≤ 10300) ∧ ∀ j, j < 3 → slotOk F (29 + 17 * k + 5 + 4 * j)
def WFmap (F : Fm) (r p : Nat) : Prop := F (mA r p) = nI (nn (F (mA r p))) ∧ nn (F (mA r p)) < cT F ∧ (F (mA r p + 3) = nI 0 ∨ F (mA r p + 3) = nI 1) ∧ ∀ j, j < 3 → slotOk F (mA r p + 4 + 4 * j)
def WFrouter (F : Fm) (r : Nat) : Prop := F (165 + 6 * r) = nI (cM F r) ∧ cM F r ≤ 5 ∧ (∀ p, p < cM F r → WFmap F r p) ∧ ∀ p q, p < cM F r → q < cM F r → F (mA r p) = F (mA r q) → p = q
def WF (F : Fm) (B : Nat) : Prop := (F 1 = nI (cS F) ∧ 1 ≤ cS F ∧ cS F ≤ 8) ∧ (F 2 = nI (cT F) ∧ cT F ≤ 8) ∧ (F 3 = nI (cR F) ∧ cR F ≤ 4) ∧ (0 ≤ (F 0).toInt ∧ (F 0).toInt ≤ 10200) ∧ (1 ≤ (F 4).toInt ∧ (F 4).toInt ≤ 100) ∧ (∀ k, k < cS F → WFserver F k) ∧ (∀ k, k < cT F → WFsite F B k) ∧ ∀ r, r < cR F → WFrouter F r
section WFP
variable {F : Fm} {B : Nat}
theorem WF.s1 (h : WF F B) : F 1 = nI (cS F) := h.1.1
theorem WF.s2 (h : WF F B) : 1 ≤ cS F ∧ cS F ≤ 8 := h.1.2
theorem WF.t1 (h : WF F B) : F 2 = nI (cT F) := h.2.1.1
theorem WF.t2 (h : WF F B) : cT F ≤ 8 := h.2.1.2
theorem WF.r1 (h : WF F B) : F 3 = nI (cR F) := h.2.2.1.1
theorem WF.r2 (h : WF F B) : cR F ≤ 4 := h.2.2.1.2
theorem WF.h (h : WF F B) : 0 ≤ (F 0).toInt ∧ (F 0).toInt ≤ 10200 := h.2.2.2.1
theorem WF.l (h : WF F B) : 1 ≤ (F 4).toInt ∧ (F 4).toInt ≤ 100 := h.2.2.2.2.1
theorem WF.server (h : WF F B) {k : Nat} (hk : k < cS F) : WFserver F k := h.2.2.2.2.2.1 k hk
theorem WF.site (h : WF F B) {k : Nat} (hk : k < cT F) : WFsite F B k := h.2.2.2.2.2.2.1 k hk
theorem WF.router (h : WF F B) {r : Nat} (hr : r < cR F) : WFrouter F r := h.2.2.2.2.2.2.2 r hr
theorem WF.flag (h : WF F B) {k : Nat} (hk : k < cT F) (j : Nat) (hj : j < 3) : slotOk F (29 + 17 * k + 5 + 4 * j) := (h.site hk).2.2.2.2 j hj
end WFP
