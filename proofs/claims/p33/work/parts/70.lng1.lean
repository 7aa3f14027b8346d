/-! METHODS WITH LONGS: a small machine of their own; a long's second local is a hole -/
abbrev LV : Type := MV ⊕ Int64
abbrev LO : Type := List (Option LV)
def getG : LO → Nat → Option (Option LV)
  | [], _ => none
  | x :: _, 0 => some x
  | _ :: l, n + 1 => getG l n
def setG : LO → Nat → Option LV → LO
  | [], _, v => [v]
  | _ :: l, 0, v => v :: l
  | x :: l, n + 1, v => x :: setG l n v
def takeG : LO → Nat → LO
  | [], _ => []
  | _ :: _, 0 => []
  | x :: l, n + 1 => x :: takeG l n
def popG : Nat → List LV → List LV → Option (List LV × List LV)
  | 0, acc, st => some (acc, st)
  | n + 1, acc, v :: st => popG n (v :: acc) st
  | _ + 1, _, [] => none
def mvs : List LV → Option (List MV)
  | [] => some []
  | .inl v :: l => (match mvs l with
    | some l => some (v :: l)
    | none => none)
  | .inr _ :: _ => none
/-- no long stands just ahead of a local -/
def noLong (ls : LO) : Nat → Bool
  | 0 => true
  | a + 1 => (match getG ls a with
    | some (some (.inr _)) => false
    | _ => true)
def spread : List LV → LO
  | [] => []
  | .inl v :: l => some (.inl v) :: spread l
  | .inr y :: l => some (.inr y) :: none :: spread l
def pushM (r : Option MV) (st : List LV) : List LV := match r with
  | some v => .inl v :: st
  | none => st
def pushR (r : Option LV) (st : List LV) : List LV := match r with
  | some v => v :: st
  | none => st
/-- one instruction, as in stepW -/
def stepL (callM : Nat → List MV → St → (Option MV → St → Prop) → Prop) (callL : Nat → List LV → St → (Option LV → St → Prop) → Prop) (L : Nat) (ret : Nat) (Q : Option LV → St → Prop) (X : Nat → LO → List LV → St → Prop) (k : List Ent → LO → List LV → St → Prop) (j : Nat → LO → List LV → St → Prop) (es : List Ent) (ls : LO) (st : List LV) (s : St) : Prop :=
  match es with
  | [] => False
  | (pc, (op, a, b, d), c, cs) :: es => match op with
    | 0 => X pc (takeG ls a) st s
    | 1 => k es ls (.inl (.inl c) :: st) s
    | 2 => (match getG ls a with
      | some (some (.inl (.inl x))) => boolW (Nat.ble b 1) (k es ls (.inl (.inl x) :: st) s)
      | some (some (.inl (.inr r))) => boolW (Nat.ble 2 b) (k es ls (.inl (.inr r) :: st) s)
      | _ => False)
    | 3 => (match st with
      | .inl (.inl x) :: st => boolW (Nat.ble b 1 && (Nat.ble a ls.length && noLong ls a)) (k es (setG ls a (some (.inl (.inl x)))) st s)
      | .inl (.inr r) :: st => boolW (Nat.ble 2 b && (Nat.ble a ls.length && noLong ls a)) (k es (setG ls a (some (.inl (.inr r)))) st s)
      | _ => False)
    | 4 => (match st with
      | .inl (.inl y) :: .inl (.inl x) :: st => binW a x y (fun v => k es ls (.inl (.inl v) :: st) s)
      | _ => False)
    | 5 => (match getG ls a with
      | some (some (.inl (.inl x))) => boolW (Nat.ble a ls.length && noLong ls a) (k es (setG ls a (some (.inl (.inl (x + c))))) st s)
      | _ => False)
    | 6 => (match st with
      | .inl (.inl x) :: st => (cmpF b x 0 → k es ls st s) ∧ (cmpT b x 0 → j a ls st s)
      | _ => False)
    | 7 => (match st with
      | .inl (.inl y) :: .inl (.inl x) :: st => (cmpF b x y → k es ls st s) ∧ (cmpT b x y → j a ls st s)
      | _ => False)
    | 8 => j a ls st s
    | 13 => (match cs with
      | (n, w) :: _ => (match popG n [] st with
        | some (as, st) => boolW (Nat.ble st.length 4) (match mvs as with
          | some as => (match Nat.beq d 0 with
            | true => (match as with
              | .inr (q, _) :: _ => boolW (Nat.beq q w) (callM b as s (fun r s => k es ls (pushM r st) s))
              | _ => False)
            | false => callM b as s (fun r s => k es ls (pushM r st) s))
          | none => False)
        | none => False)
      | [] => False)
    | 14 => (match st with
      | [.inl (.inl v)] => boolW (Nat.beq a 0) (retW ret v (Q (some (.inl (.inl v))) s))
      | _ => False)
    | 19 => (match st with
      | .inl (.inr (q, _)) :: st => boolW (Nat.beq q 24) (k es ls (.inl (.inl (Int32.ofNat L)) :: st) s)
      | _ => False)
    | 25 => (match cs with
      | (n, _) :: _ => (match popG n [] st with
        | some (as, st) => boolW (Nat.ble st.length 4) (boolW (Nat.ble (spread as).length (n + 1)) (callL b as s (fun r s => k es ls (pushR r st) s)))
        | none => False)
      | [] => False)
    | 26 => k es ls (.inr c.toInt64 :: st) s
    | 27 => (match st with
      | .inl (.inl x) :: st => k es ls (.inr x.toInt64 :: st) s
      | _ => False)
    | 28 => (match st with
      | .inr y :: .inr x :: st => k es ls (.inr (x * y) :: st) s
      | _ => False)
    | 29 => (match st with
      | .inr y :: .inr x :: st => k es ls (.inr (x + y) :: st) s
      | _ => False)
    | 30 => (match st with
      | .inr y :: .inr x :: st => k es ls (.inl (.inl (lg_cmp x y)) :: st) s
      | _ => False)
    | 31 => (match getG ls a with
      | some (some (.inr y)) => k es ls (.inr y :: st) s
      | _ => False)
    | 32 => (match st with
      | .inr y :: st => boolW (Nat.ble a ls.length && noLong ls a) (k es (setG (setG ls a (some (.inr y))) (a + 1) none) st s)
      | _ => False)
    | 33 => (match st with
      | [.inr y] => boolW (Nat.beq ret 3) (Q (some (.inr y)) s)
      | _ => False)
    | 34 => (match st with
      | .inl _ :: st => k es ls st s
      | _ => False)
    | _ => False
def wpl (callM : Nat → List MV → St → (Option MV → St → Prop) → Prop) (callL : Nat → List LV → St → (Option LV → St → Prop) → Prop) (L : Nat) (ret : Nat) (Q : Option LV → St → Prop) (X : Nat → LO → List LV → St → Prop) (code : List Ent) : Nat → List Ent → LO → List LV → St → Prop
  | 0 => fun _ _ _ _ => False
  | n + 1 => fun es ls st s => stepL callM callL L ret Q X (wpl callM callL L ret Q X code n) (fun t ls st s => wpl callM callL L ret Q X code n (fromPc code t) ls st s) es ls st s
def bodyL (callM : Nat → List MV → St → (Option MV → St → Prop) → Prop) (callL : Nat → List LV → St → (Option LV → St → Prop) → Prop) (L : Nat) (ret : Nat) (Q : Option LV → St → Prop) (code : List Ent) (pc : Nat) (ls : LO) (st : List LV) (s : St) : Prop :=
  ∀ X : Nat → LO → List LV → St → Prop, (∀ (n pc : Nat) (ls : LO) (st : List LV) (s : St), wpl callM callL L ret Q X code n (behind (fromPc code pc)) ls st s → X pc ls st s) → X pc ls st s
/-- a method with longs, on these arguments and this store, with f frames of room, returns, and Q holds -/
def wpL (L : Nat) (xs : Nat → Int32) (cod col : Nat → List Ent) (rets : Nat → Nat) : Nat → Nat → List LV → St → (Option LV → St → Prop) → Prop
  | 0 => fun _ _ _ _ => False
  | f + 1 => fun m as s Q => ∀ (callM : Nat → List MV → St → (Option MV → St → Prop) → Prop) (callL : Nat → List LV → St → (Option LV → St → Prop) → Prop), (∀ (m : Nat) (as : List MV) (s : St) (Q : Option MV → St → Prop), wpM L xs cod rets f m as s Q → callM m as s Q) → (∀ (m : Nat) (as : List LV) (s : St) (Q : Option LV → St → Prop), wpL L xs cod col rets f m as s Q → callL m as s Q) → bodyL callM callL L (rets m) Q (col m) 0 (spread as) [] s
/-! what its values are -/
def trl (ad : Nat × Nat → Nat) (v : LV) : Value := match v with
  | .inl v => trv ad v
  | .inr y => .long y
def okL (v : LV) : Prop := match v with
  | .inl v => okV v
  | .inr _ => True
def okO (v : Option LV) : Prop := match v with
  | some v => okL v
  | none => True
def enumO (ad : Nat × Nat → Nat) : Nat → LO → List (Nat × Value)
  | _, [] => []
  | k, some v :: l => (k, trl ad v) :: enumO ad (k + 1) l
  | k, none :: l => enumO ad (k + 1) l
def locO (ad : Nat × Nat → Nat) (nL : Nat) (lsA : Array Slot) (ls : LO) : Prop := lv_has lsA nL (enumO ad 0 ls) ∧ ls.length ≤ nL
theorem mem_enumO {ad : Nat × Nat → Nat} {l : LO} : ∀ {k : Nat} {q : Nat × Value}, q ∈ enumO ad k l ↔ k ≤ q.1 ∧ ∃ v, l[q.1 - k]? = some (some v) ∧ q.2 = trl ad v := by
  induction l with
  | nil => intro k q; simp [enumO]
  | cons x l ih =>
    intro k q
    obtain ⟨a, w⟩ := q
    have key : (k + 1 ≤ a ∧ ∃ v, l[a - (k + 1)]? = some (some v) ∧ w = trl ad v) ↔ (k + 1 ≤ a ∧ ∃ v, (x :: l)[a - k]? = some (some v) ∧ w = trl ad v) := by
      constructor
      · rintro ⟨h1, v, h2, h3⟩
        refine ⟨h1, v, ?_, h3⟩
        have : a - k = (a - (k + 1)) + 1 := by omega
        rw [this]
        exact h2
      · rintro ⟨h1, v, h2, h3⟩
        refine ⟨h1, v, ?_, h3⟩
        have : a - k = (a - (k + 1)) + 1 := by omega
        rw [this] at h2
        exact h2
    cases x with
    | none =>
      show (a, w) ∈ enumO ad (k + 1) l ↔ _
      rw [ih]
      simp only
      rw [key]
      constructor
      · rintro ⟨h1, h2⟩
        exact ⟨by omega, h2⟩
      · rintro ⟨h1, v, h2, h3⟩
        refine ⟨?_, v, h2, h3⟩
        rcases Nat.lt_or_ge k a with q | q
        · exact q
        · have : a - k = 0 := by omega
          rw [this] at h2
          cases h2
    | some u =>
      show (a, w) ∈ (k, trl ad u) :: enumO ad (k + 1) l ↔ _
      rw [List.mem_cons, ih]
      simp only
      rw [key]
      constructor
      · rintro (h | ⟨h1, h2⟩)
        · cases h
          refine ⟨Nat.le_refl _, u, ?_, rfl⟩
          rw [Nat.sub_self]
          rfl
        · exact ⟨by omega, h2⟩
      · rintro ⟨h1, v, h2, h3⟩
        by_cases e : a = k
        · subst e
          rw [Nat.sub_self] at h2
          left
          cases h2
          rw [h3]
        · exact Or.inr ⟨by omega, v, h2, h3⟩
theorem getG_eq : ∀ (l : LO) (n : Nat), getG l n = l[n]?
  | [], n => by cases n <;> rfl
  | x :: l, 0 => rfl
  | x :: l, n + 1 => by show getG l n = _; rw [getG_eq l n]; rfl
theorem setG_at : ∀ (l : LO) (n : Nat) (v : Option LV) (k : Nat), n ≤ l.length → (setG l n v)[k]? = if k = n then some v else l[k]?
  | [], 0, v, 0, _ => rfl
  | [], 0, v, k + 1, _ => by simp [setG]
  | [], n + 1, v, k, h => by simp at h
  | x :: l, 0, v, 0, _ => rfl
  | x :: l, 0, v, k + 1, _ => by simp [setG]
  | x :: l, n + 1, v, 0, _ => by simp [setG]
  | x :: l, n + 1, v, k + 1, h => by
    show (setG l n v)[k]? = _
    rw [setG_at l n v k (by simpa using h)]
    by_cases e : k = n <;> simp [e]
theorem setG_len : ∀ (l : LO) (n : Nat) (v : Option LV), n ≤ l.length → (setG l n v).length = Nat.max l.length (n + 1)
  | [], 0, v, _ => rfl
  | [], n + 1, v, h => by simp at h
  | x :: l, 0, v, _ => by
    simp only [setG, List.length]
    exact (Nat.max_eq_left (by omega)).symm
  | x :: l, n + 1, v, h => by
    simp only [setG, List.length]
    rw [setG_len l n v (by simpa using h)]
    simp only [Nat.max_def]; split <;> split <;> omega
theorem setG_ok {l : LO} {v : Option LV} (hl : ∀ w ∈ l, okO w) (hv : okO v) : ∀ (n : Nat), ∀ w ∈ setG l n v, okO w := by
  induction l with
  | nil => intro n w hw; simp [setG] at hw; rw [hw]; exact hv
  | cons x l ih =>
    intro n w hw
    cases n with
    | zero =>
      simp only [setG, List.mem_cons] at hw
      rcases hw with rfl | hw
      · exact hv
      · exact hl w (List.mem_cons_of_mem _ hw)
    | succ n =>
      simp only [setG, List.mem_cons] at hw
      rcases hw with rfl | hw
      · exact hl _ List.mem_cons_self
      · exact ih (fun w h => hl w (List.mem_cons_of_mem _ h)) n w hw
theorem takeG_eq : ∀ (l : LO) (n : Nat), takeG l n = l.take n
  | [], n => by cases n <;> rfl
  | x :: l, 0 => rfl
  | x :: l, n + 1 => by show x :: takeG l n = _; rw [takeG_eq l n]; rfl
theorem locO_get {ad : Nat × Nat → Nat} {nL : Nat} {lsA : Array Slot} {ls : LO} (h : locO ad nL lsA ls) {a : Nat} {v : LV} (hv : getG ls a = some (some v)) : lsA[a]? = some (.val (trl ad v)) := by
  refine h.1.2.2 (a, trl ad v) (mem_enumO.mpr ⟨Nat.zero_le _, v, ?_, rfl⟩)
  rw [getG_eq] at hv
  exact hv
theorem noLong_at {ls : LO} {a : Nat} (h : noLong ls (a + 1) = true) {y : Int64} : ¬ ls[a]? = some (some (.inr y)) := by
  intro e
  rw [← getG_eq] at e
  have h : (match getG ls a with | some (some (.inr _)) => false | _ => true) = true := h
  rw [e] at h
  cases h
theorem cat2 {ad : Nat × Nat → Nat} {v : LV} (h : (trl ad v).category = 2) : ∃ y, v = .inr y := by
  cases v with
  | inl v => rw [show trl ad (.inl v) = trv ad v from rfl, trv_cat] at h; cases h
  | inr y => exact ⟨y, rfl⟩
theorem locO_set1 {ad : Nat × Nat → Nat} {nL : Nat} {lsA : Array Slot} {ls : LO} (h : locO ad nL lsA ls) {a : Nat} (ha : a < nL) (hl : a ≤ ls.length) (hn : noLong ls a = true) (v : LV) {lv' : List (Nat × Value)} (he : (a, trl ad v) :: (enumO ad 0 ls).filter (fun q => !(q.1 == a) && !(q.1 + 1 == a && q.2.category == 2)) = lv')
    {lsB : Array Slot} (hB : lv_has lsB nL lv') : locO ad nL lsB (setG ls a (some v)) := by
  refine ⟨⟨hB.1, hB.2.1, fun q hq => ?_⟩, ?_⟩
  · obtain ⟨-, w, h2, h3⟩ := mem_enumO.mp hq
    apply hB.2.2
    rw [← he]
    rw [Nat.sub_zero, setG_at _ _ _ _ hl] at h2
    by_cases e : q.1 = a
    · rw [if_pos e] at h2
      have h4 : v = w := Option.some.inj (Option.some.inj h2)
      rw [h4, ← e, ← h3]
      exact List.mem_cons_self
    · rw [if_neg e] at h2
      refine List.mem_cons_of_mem _ (List.mem_filter.mpr ⟨mem_enumO.mpr ⟨Nat.zero_le _, w, h2, h3⟩, ?_⟩)
      have hc : ¬ (q.1 + 1 = a ∧ q.2.category = 2) := by
        rintro ⟨e1, e2⟩
        rw [h3] at e2
        obtain ⟨y, rfl⟩ := cat2 e2
        subst e1
        exact noLong_at hn h2
      simp [e]
      exact Classical.not_and_iff_not_or_not.mp hc
  · rw [setG_len _ _ _ hl]
    exact Nat.max_le.mpr ⟨h.2, ha⟩
theorem locO_set2 {ad : Nat × Nat → Nat} {nL : Nat} {lsA : Array Slot} {ls : LO} (h : locO ad nL lsA ls) {a : Nat} (ha : a + 1 < nL) (hl : a ≤ ls.length) (hn : noLong ls a = true) (y : Int64) {lv' : List (Nat × Value)} (he : (a, Value.long y) :: (enumO ad 0 ls).filter (fun q => !(q.1 == a) && (!(q.1 == a + 1) && !(q.1 + 1 == a && q.2.category == 2))) = lv')
    {lsB : Array Slot} (hB : lv_has lsB nL lv') : locO ad nL lsB (setG (setG ls a (some (.inr y))) (a + 1) none) := by
  have hl2 : a + 1 ≤ (setG ls a (some (.inr y))).length := by
    rw [setG_len _ _ _ hl]
    exact Nat.le_max_right _ _
  refine ⟨⟨hB.1, hB.2.1, fun q hq => ?_⟩, ?_⟩
  · obtain ⟨-, w, h2, h3⟩ := mem_enumO.mp hq
    apply hB.2.2
    rw [← he]
    rw [Nat.sub_zero, setG_at _ _ _ _ hl2] at h2
    by_cases e0 : q.1 = a + 1
    · rw [if_pos e0] at h2
      cases h2
    rw [if_neg e0, setG_at _ _ _ _ hl] at h2
    by_cases e : q.1 = a
    · rw [if_pos e] at h2
      have h4 : (Sum.inr y : LV) = w := Option.some.inj (Option.some.inj h2)
      obtain ⟨q1, q2⟩ := q
      simp only at e h3
      rw [e, h3, ← h4]
      exact List.mem_cons_self
    · rw [if_neg e] at h2
      refine List.mem_cons_of_mem _ (List.mem_filter.mpr ⟨mem_enumO.mpr ⟨Nat.zero_le _, w, h2, h3⟩, ?_⟩)
      have hc : ¬ (q.1 + 1 = a ∧ q.2.category = 2) := by
        rintro ⟨e1, e2⟩
        rw [h3] at e2
        obtain ⟨y', rfl⟩ := cat2 e2
        subst e1
        exact noLong_at hn h2
      simp [e, e0]
      exact Classical.not_and_iff_not_or_not.mp hc
  · rw [setG_len _ _ _ hl2, setG_len _ _ _ hl]
    exact Nat.max_le.mpr ⟨Nat.max_le.mpr ⟨h.2, by omega⟩, by omega⟩
theorem locO_take {ad : Nat × Nat → Nat} {nL : Nat} {lsA : Array Slot} {ls : LO} (h : locO ad nL lsA ls) (n : Nat) : locO ad nL lsA (takeG ls n) := by
  rw [takeG_eq]
  refine ⟨⟨h.1.1, h.1.2.1, fun q hq => h.1.2.2 q ?_⟩, by rw [List.length_take]; exact Nat.le_trans (Nat.min_le_right _ _) h.2⟩
  obtain ⟨h1, v, h2, h3⟩ := mem_enumO.mp hq
  refine mem_enumO.mpr ⟨h1, v, ?_, h3⟩
  rw [List.getElem?_take] at h2
  split at h2
  · exact h2
  · cases h2
theorem okO_getG {ls : LO} (h : ∀ v ∈ ls, okO v) {a : Nat} {v : LV} (hv : getG ls a = some (some v)) : okL v := by
  rw [getG_eq] at hv
  exact h _ (List.mem_of_getElem? hv)
theorem popG_eq : ∀ (n : Nat) (acc st as st' : List LV), popG n acc st = some (as, st') → ∃ t, as = t ++ acc ∧ st = t.reverse ++ st' ∧ t.length = n
  | 0, acc, st, as, st', h => by cases h; exact ⟨[], rfl, rfl, rfl⟩
  | n + 1, acc, [], as, st', h => by cases h
  | n + 1, acc, v :: st, as, st', h => by
    obtain ⟨t, e1, e2, e3⟩ := popG_eq n (v :: acc) st as st' h
    exact ⟨t ++ [v], by simp [e1], by simp [e2], by simp [e3]⟩
theorem mvs_eq : ∀ {as : List LV} {bs : List MV}, mvs as = some bs → as = bs.map Sum.inl
  | [], bs, h => by cases h; rfl
  | .inl v :: l, bs, h => by
    have h : (match mvs l with | some l => some (v :: l) | none => none) = some bs := h
    cases hm : mvs l with
    | none => rw [hm] at h; cases h
    | some l' =>
      rw [hm] at h
      cases h
      rw [mvs_eq hm]
      rfl
  | .inr _ :: _, bs, h => by cases h
theorem okL_cons {v : LV} {st : List LV} (h1 : okL v) (h2 : ∀ w ∈ st, okL w) : ∀ w ∈ v :: st, okL w := fun w hw => by
  rcases List.mem_cons.mp hw with rfl | h
  · exact h1
  · exact h2 w h
theorem okL_head {v : LV} {st : List LV} (h : ∀ w ∈ v :: st, okL w) : okL v := h v List.mem_cons_self
theorem okL_tail {v : LV} {st : List LV} (h : ∀ w ∈ v :: st, okL w) : ∀ w ∈ st, okL w := fun w hw => h w (List.mem_cons_of_mem _ hw)
theorem cat_sumL (ad : Nat × Nat → Nat) (st : List LV) : ((st.map (trl ad)).map fun v => v.category).sum ≤ 2 * st.length := by
  induction st with
  | nil => exact Nat.le_refl _
  | cons v st ih =>
    have h : (trl ad v).category ≤ 2 := by
      cases v with
      | inl v => rw [show trl ad (.inl v) = trv ad v from rfl, trv_cat]; omega
      | inr y => exact Nat.le_refl _
    simp only [List.map_cons, List.sum_cons, List.length_cons]
    omega
theorem map_inl (ad : Nat × Nat → Nat) (as : List MV) : (as.map (Sum.inl : MV → LV)).map (trl ad) = as.map (trv ad) := by
  rw [List.map_map]
  rfl
theorem spread_ok : ∀ {as : List LV}, (∀ v ∈ as, okL v) → ∀ w ∈ spread as, okO w
  | [], _, w, hw => by cases hw
  | .inl v :: l, h, w, hw => by
    rcases List.mem_cons.mp hw with rfl | hw
    · exact h _ List.mem_cons_self
    · exact spread_ok (fun v hv => h v (List.mem_cons_of_mem _ hv)) w hw
  | .inr y :: l, h, w, hw => by
    rcases List.mem_cons.mp hw with rfl | hw
    · trivial
    · rcases List.mem_cons.mp hw with rfl | hw
      · trivial
      · exact spread_ok (fun v hv => h v (List.mem_cons_of_mem _ hv)) w hw
theorem lv_args_spread (ad : Nat × Nat → Nat) : ∀ (vs : List LV) (k : Nat), lv_args k (vs.map (trl ad)) = enumO ad k (spread vs)
  | [], k => rfl
  | .inl v :: vs, k => by
    have h1 : (trl ad (.inl v)).category = 1 := trv_cat ad v
    show (k, trl ad (.inl v)) :: lv_args (if (trl ad (.inl v)).category = 2 then k + 2 else k + 1) (vs.map (trl ad)) = (k, trl ad (.inl v)) :: enumO ad (k + 1) (spread vs)
    rw [if_neg (by rw [h1]; decide), lv_args_spread ad vs (k + 1)]
  | .inr y :: vs, k => by
    show (k, trl ad (.inr y)) :: lv_args (k + 2) (vs.map (trl ad)) = (k, trl ad (.inr y)) :: enumO ad (k + 1 + 1) (spread vs)
    rw [lv_args_spread ad vs (k + 2)]
theorem sl_spread (ad : Nat × Nat → Nat) : ∀ (vs : List LV), (lg_sl (vs.map (trl ad))).length = (spread vs).length
  | [] => rfl
  | .inl v :: vs => by
    have h1 : (trl ad (.inl v)).category = 1 := trv_cat ad v
    have ih := sl_spread ad vs
    unfold lg_sl at ih ⊢
    rw [List.map_cons, List.flatMap_cons, List.length_append, ih, if_neg (by rw [h1]; decide)]
    simp only [List.length_cons, List.length_nil, spread]
    omega
  | .inr y :: vs => by
    have h1 : (trl ad (.inr y)).category = 2 := rfl
    have ih := sl_spread ad vs
    unfold lg_sl at ih ⊢
    rw [List.map_cons, List.flatMap_cons, List.length_append, ih, if_pos h1]
    simp only [List.length_cons, List.length_nil, spread]
    omega
