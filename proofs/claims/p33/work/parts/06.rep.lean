/-! THE STORE IN THE HEAP: every object has its address; the cells hold what the store says -/
def cntK (c : Nat) : Nat := match c with
  | 0 => 1 | 1 => 360 | 2 => 200 | 3 => 1 | 4 => 40 | 5 => 80 | 6 => 80 | 7 => 280 | 8 => 10 | 9 => 1 | 10 => 0
  | 11 => 10 | 12 => 10 | 13 => 10 | 14 => 40 | 15 => 280 | 16 => 1 | 17 => 1 | 18 => 1 | 19 => 1 | _ => 0
def nfK (c : Nat) : Nat := match c with
  | 0 => 8 | 1 => 2 | 2 => 6 | 3 => 3 | 4 => 7 | 5 => 2 | 6 => 5 | 7 => 1 | 8 => 8 | 9 => 6 | _ => 0
def allR : List (Nat × Nat) := (List.range 24).flatMap (fun c => (List.range (cntK c)).map (fun i => (c, i)))
theorem mem_allR {c i : Nat} : (c, i) ∈ allR ↔ i < cntK c := by
  constructor
  · intro h
    obtain ⟨c', h1, h2⟩ := List.mem_flatMap.mp h
    obtain ⟨i', h3, h4⟩ := List.mem_map.mp h2
    cases h4
    exact List.mem_range.mp h3
  · intro h
    have hc : c < 24 := by
      rcases Nat.lt_or_ge c 24 with q | q
      · exact q
      · exfalso
        have : cntK c = 0 := by
          unfold cntK
          split <;> first | rfl | omega
        omega
    exact List.mem_flatMap.mpr ⟨c, List.mem_range.mpr hc, List.mem_map.mpr ⟨i, List.mem_range.mpr h, rfl⟩⟩
def okR (r : Nat × Nat) : Prop := r.2 < cntK r.1 ∨ r = (24, 0)
def okV (v : MV) : Prop := match v with
  | .inl _ => True
  | .inr r => okR r
def trv (ad : Nat × Nat → Nat) (v : MV) : Value := match v with
  | .inl x => .int x
  | .inr r => .ref (ad r)
/-- which type of array: a place in tysA -/
def atyK (c : Nat) : Nat := match c with
  | 11 => 3 | 12 => 4 | 13 => 5 | 14 => 6 | 16 => 7 | 17 => 7 | 18 => 1 | 19 => 2 | _ => 0
def tysA (cA : Nat → ClassId) : List (ClassId × FieldType) := [(cA 0, .int), (cA 1, .boolean), (cA 2, .byte), (cA 3, .object RX5), (cA 4, .object RX6), (cA 5, .object RX4), (cA 6, .object RX2), (cA 7, .object RX8)]
def cellD (cA : Nat → ClassId) (ad : Nat × Nat → Nat) (z : St) (r : Nat × Nat) : va_E :=
  if r.1 < 10 then .inr (r.1, (List.range (nfK r.1)).map (fun k => trv ad (fv z r.1 r.2 k)))
  else if akind r.1 = 3 then .inl (cA (atyK r.1), alen r.1, .inr (.inr (.inr (.inr (fun j => some (ad (el z.2 r.1 r.2 j)))))))
  else .inl (cA (atyK r.1), alen r.1, .inl (z.1 r.1 r.2))
def smW (cA : Nat → ClassId) (ad : Nat × Nat → Nat) (z : St) : va_W := allR.map (fun r => (ad r, cellD cA ad z r))
def okP (z : St) : Prop := ∀ i j : Nat, i < 40 → j < 5 → z.2 i j < 200
def Hp (D : va_G) (cA : Nat → ClassId) (ad : Nat × Nat → Nat) (z : St) (H : Heap) : Prop := va_P D vwCl (smW cA ad z) H ∧ okP z
def adOk (ad : Nat × Nat → Nat) (A : Nat → Prop) : Prop := va_D A (allR.map (fun r => (ad r, (.inr (0, []) : va_E))))
theorem smW_D {cA : Nat → ClassId} {ad : Nat × Nat → Nat} {A : Nat → Prop} (h : adOk ad A) (z : St) : va_D A (smW cA ad z) := by
  have key : ∀ (k : Nat) (q : Nat × va_E), (smW cA ad z)[k]? = some q → (allR.map (fun r => (ad r, (.inr (0, []) : va_E))))[k]? = some (q.1, .inr (0, [])) := by
    intro k q hq
    unfold smW at hq
    rw [List.getElem?_map] at hq ⊢
    cases hr : allR[k]? with
    | none => rw [hr] at hq; cases hq
    | some r => rw [hr] at hq; cases hq; rfl
  exact ⟨fun i j p q hi hj e => h.1 i j _ _ (key i p hi) (key j q hj) e, fun k q hk => h.2 k (q.1, .inr (0, [])) (key k q hk)⟩
theorem smW_get {cA : Nat → ClassId} {ad : Nat × Nat → Nat} (z : St) {r : Nat × Nat} (h : r.2 < cntK r.1) : ∃ k : Nat, (smW cA ad z)[k]? = some (ad r, cellD cA ad z r) := by
  apply List.getElem?_of_mem
  exact List.mem_map.mpr ⟨r, mem_allR.mpr h, rfl⟩
/-- one cell becomes another one, all others stay -/
theorem smW_set {cA : Nat → ClassId} {ad : Nat × Nat → Nat} {A : Nat → Prop} (hD : adOk ad A) {z z' : St} {r : Nat × Nat} {k : Nat} {e : va_E} (hk : (smW cA ad z)[k]? = some (ad r, cellD cA ad z r)) (h : r.2 < cntK r.1) (he : cellD cA ad z' r = e)
    (ho : ∀ r', r' ≠ r → cellD cA ad z' r' = cellD cA ad z r') : (smW cA ad z).set k (ad r, e) = smW cA ad z' := by
  have hl := (List.getElem?_eq_some_iff.mp hk).1
  apply List.ext_getElem?
  intro j
  by_cases hj : j = k
  · subst hj
    rw [List.getElem?_set_self hl]
    unfold smW at hk ⊢
    rw [List.getElem?_map] at hk ⊢
    cases hr : allR[j]? with
    | none => rw [hr] at hk; cases hk
    | some r' =>
      rw [hr] at hk
      have e1 : ad r' = ad r := congrArg Prod.fst (Option.some.inj hk)
      obtain ⟨i, hi⟩ := List.getElem?_of_mem (mem_allR.mpr h)
      have e2 : j = i := hD.1 j i (ad r', .inr (0, [])) (ad r, .inr (0, [])) (by rw [List.getElem?_map, hr]; rfl) (by rw [List.getElem?_map, hi]; rfl) e1
      subst e2
      have e3 : r' = r := Option.some.inj (hr.symm.trans hi)
      subst e3
      simp [he]
  · rw [List.getElem?_set_ne (Ne.symm hj)]
    unfold smW at hk ⊢
    rw [List.getElem?_map, List.getElem?_map]
    cases hr : allR[j]? with
    | none => rfl
    | some r' =>
      have hne : r' ≠ r := by
        intro e
        subst e
        rw [List.getElem?_map] at hk
        cases hr2 : allR[k]? with
        | none => rw [hr2] at hk; cases hk
        | some r2 =>
          rw [hr2] at hk
          have e1 : ad r2 = ad r' := congrArg Prod.fst (Option.some.inj hk)
          exact hj (hD.1 j k (ad r', .inr (0, [])) (ad r2, .inr (0, [])) (by rw [List.getElem?_map, hr]; rfl) (by rw [List.getElem?_map, hr2]; rfl) e1.symm)
      simp [ho r' hne]
theorem cell_obj {cA : Nat → ClassId} {ad : Nat × Nat → Nat} {z : St} {c i : Nat} (h : c < 10) : cellD cA ad z (c, i) = .inr (c, (List.range (nfK c)).map (fun k => trv ad (fv z c i k))) := if_pos h
theorem okR_lk {c k i : Nat} {r : Nat × Nat} (h : i < cntK c) (e : lk c k i = some r) : okR r := by
  left
  unfold lk at e
  unfold cntK at h
  split at e <;> first
    | (cases e; done)
    | (split at e <;> first | (cases e; done) | (cases e; simp only [cntK] at h ⊢; omega))
    | (cases e; simp only [cntK] at h ⊢; omega)
theorem okR_el {P : Nat → Nat → Nat} {c i j : Nat} (hP : ∀ i j : Nat, i < 40 → j < 5 → P i j < 200) (h : i < cntK c) (ha : akind c = 3) (hj : j < alen c) : okR (el P c i j) := by
  left
  unfold akind at ha
  split at ha <;> first
    | omega
    | (simp only [cntK, alen, el] at *; omega)
    | (simp only [cntK, alen, el] at *; exact hP _ _ (by omega) (by omega))
theorem okV_fv {z : St} {c i k : Nat} (h : i < cntK c) : okV (fv z c i k) := by
  unfold fv
  cases e : lk c k i with
  | none => trivial
  | some r => exact okR_lk h e
/-- the locals -/
def enumL : Nat → List Value → List (Nat × Value)
  | _, [] => []
  | k, v :: l => (k, v) :: enumL (k + 1) l
def locOk (ad : Nat × Nat → Nat) (nL : Nat) (lsA : Array Slot) (ls : List MV) : Prop := lv_has lsA nL (enumL 0 (ls.map (trv ad))) ∧ ls.length ≤ nL
theorem mem_enumL {l : List Value} : ∀ {k : Nat} {q : Nat × Value}, q ∈ enumL k l ↔ k ≤ q.1 ∧ l[q.1 - k]? = some q.2 := by
  induction l with
  | nil => intro k q; simp [enumL]
  | cons v l ih =>
    intro k q
    obtain ⟨a, w⟩ := q
    simp only [enumL, List.mem_cons, ih]
    constructor
    · rintro (h | ⟨h1, h2⟩)
      · cases h
        exact ⟨Nat.le_refl _, by simp⟩
      · refine ⟨by omega, ?_⟩
        have : a - k = (a - (k + 1)) + 1 := by omega
        rw [this]
        exact h2
    · rintro ⟨h1, h2⟩
      by_cases e : a = k
      · subst e
        simp at h2
        exact Or.inl (by rw [h2])
      · right
        refine ⟨by omega, ?_⟩
        have : a - k = (a - (k + 1)) + 1 := by omega
        rw [this] at h2
        exact h2
theorem getL_eq : ∀ (l : List MV) (n : Nat), getL l n = l[n]?
  | [], n => by cases n <;> rfl
  | x :: l, 0 => rfl
  | x :: l, n + 1 => by show getL l n = _; rw [getL_eq l n]; rfl
theorem setL_at : ∀ (l : List MV) (n : Nat) (v : MV) (k : Nat), n ≤ l.length → (setL l n v)[k]? = if k = n then some v else l[k]?
  | [], 0, v, 0, _ => rfl
  | [], 0, v, k + 1, _ => by simp [setL]
  | [], n + 1, v, k, h => by simp at h
  | x :: l, 0, v, 0, _ => rfl
  | x :: l, 0, v, k + 1, _ => by simp [setL]
  | x :: l, n + 1, v, 0, _ => by simp [setL]
  | x :: l, n + 1, v, k + 1, h => by
    show (setL l n v)[k]? = _
    rw [setL_at l n v k (by simpa using h)]
    by_cases e : k = n <;> simp [e]
theorem setL_len : ∀ (l : List MV) (n : Nat) (v : MV), (setL l n v).length ≤ Nat.max l.length (n + 1)
  | [], n, v => by simp only [setL, List.length]; exact Nat.le_trans (by omega) (Nat.le_max_right _ _)
  | x :: l, 0, v => by simp only [setL]; exact Nat.le_max_left _ _
  | x :: l, n + 1, v => by
    have h := setL_len l n v
    simp only [setL, List.length]
    have e : Nat.max (l.length + 1) (n + 1 + 1) = Nat.max l.length (n + 1) + 1 := by
      simp only [Nat.max_def]; split <;> split <;> omega
    rw [e]
    omega
theorem setL_ok {l : List MV} {v : MV} (hl : ∀ w ∈ l, okV w) (hv : okV v) : ∀ (n : Nat), ∀ w ∈ setL l n v, okV w := by
  induction l with
  | nil => intro n w hw; simp [setL] at hw; rw [hw]; exact hv
  | cons x l ih =>
    intro n w hw
    cases n with
    | zero =>
      simp only [setL, List.mem_cons] at hw
      rcases hw with rfl | hw
      · exact hv
      · exact hl w (List.mem_cons_of_mem _ hw)
    | succ n =>
      simp only [setL, List.mem_cons] at hw
      rcases hw with rfl | hw
      · exact hl _ List.mem_cons_self
      · exact ih (fun w h => hl w (List.mem_cons_of_mem _ h)) n w hw
theorem takeL_eq : ∀ (l : List MV) (n : Nat), takeL l n = l.take n
  | [], n => by cases n <;> rfl
  | x :: l, 0 => rfl
  | x :: l, n + 1 => by show x :: takeL l n = _; rw [takeL_eq l n]; rfl
theorem trv_cat (ad : Nat × Nat → Nat) (v : MV) : (trv ad v).category = 1 := by cases v <;> rfl
theorem loc_get {ad : Nat × Nat → Nat} {nL : Nat} {lsA : Array Slot} {ls : List MV} (h : locOk ad nL lsA ls) {a : Nat} {v : MV} (hv : getL ls a = some v) : lsA[a]? = some (.val (trv ad v)) := by
  refine h.1.2.2 (a, trv ad v) (mem_enumL.mpr ⟨Nat.zero_le _, ?_⟩)
  rw [getL_eq] at hv
  simp [hv]
theorem loc_set {ad : Nat × Nat → Nat} {nL : Nat} {lsA : Array Slot} {ls : List MV} (h : locOk ad nL lsA ls) {a : Nat} (ha : a < nL) (hl : a ≤ ls.length) (v : MV) {lv' : List (Nat × Value)} (he : (a, trv ad v) :: (enumL 0 (ls.map (trv ad))).filter (fun q => !(q.1 == a) && !(q.1 + 1 == a && q.2.category == 2)) = lv')
    {lsB : Array Slot} (hB : lv_has lsB nL lv') : locOk ad nL lsB (setL ls a v) := by
  refine ⟨⟨hB.1, hB.2.1, fun q hq => ?_⟩, ?_⟩
  · obtain ⟨-, h2⟩ := mem_enumL.mp hq
    apply hB.2.2
    rw [← he]
    simp only [Nat.sub_zero, List.getElem?_map] at h2
    rw [setL_at _ _ _ _ hl] at h2
    by_cases e : q.1 = a
    · rw [if_pos e] at h2
      have h3 : trv ad v = q.2 := Option.some.inj h2
      rw [h3, ← e]
      exact List.mem_cons_self
    · rw [if_neg e] at h2
      refine List.mem_cons_of_mem _ (List.mem_filter.mpr ⟨mem_enumL.mpr ⟨Nat.zero_le _, by simpa using h2⟩, ?_⟩)
      cases hw : ls[q.1]? with
      | none => rw [hw] at h2; cases h2
      | some w =>
        rw [hw] at h2
        have h3 : trv ad w = q.2 := Option.some.inj h2
        rw [← h3, trv_cat]
        simp [e]
  · have := setL_len ls a v
    have h3 := h.2
    exact Nat.le_trans this (Nat.max_le.mpr ⟨h3, ha⟩)
theorem loc_take {ad : Nat × Nat → Nat} {nL : Nat} {lsA : Array Slot} {ls : List MV} (h : locOk ad nL lsA ls) (n : Nat) : locOk ad nL lsA (takeL ls n) := by
  rw [takeL_eq]
  refine ⟨⟨h.1.1, h.1.2.1, fun q hq => h.1.2.2 q ?_⟩, by rw [List.length_take]; exact Nat.le_trans (Nat.min_le_right _ _) h.2⟩
  obtain ⟨h1, h2⟩ := mem_enumL.mp hq
  refine mem_enumL.mpr ⟨h1, ?_⟩
  rw [List.map_take] at h2
  have h3 := List.getElem?_take (l := ls.map (trv ad)) (i := n) (j := q.1 - 0)
  rw [h3] at h2
  split at h2
  · exact h2
  · cases h2
theorem okV_getL {ls : List MV} (h : ∀ v ∈ ls, okV v) {a : Nat} {v : MV} (hv : getL ls a = some v) : okV v := by
  rw [getL_eq] at hv
  exact h v (List.mem_of_getElem? hv)
theorem popL_eq : ∀ (n : Nat) (acc st as st' : List MV), popL n acc st = some (as, st') → ∃ t, as = t ++ acc ∧ st = t.reverse ++ st' ∧ t.length = n
  | 0, acc, st, as, st', h => by cases h; exact ⟨[], rfl, rfl, rfl⟩
  | n + 1, acc, [], as, st', h => by cases h
  | n + 1, acc, v :: st, as, st', h => by
    obtain ⟨t, e1, e2, e3⟩ := popL_eq n (v :: acc) st as st' h
    exact ⟨t ++ [v], by simp [e1], by simp [e2], by simp [e3]⟩
/-- words that any later state keeps -/
def Tk (U : State) : Prop := ∀ w, inT w → va_Nw w U
theorem kw_on {w : Cond} (h : kw w = true) : w.onTables = true := by
  unfold kw at h
  rcases Bool.or_eq_true _ _ |>.mp h with h | h
  · exact (Bool.and_eq_true _ _ |>.mp h).1
  · cases w <;> first | rfl | cases h
theorem Tk.warm {s U : State} (hW : s.WarmedH U.vm) (h : Tk s) : Tk U := by
  intro w hw
  have h1 := h w hw
  have h2 := hw.2
  unfold kw at h2
  rcases Bool.or_eq_true _ _ |>.mp h2 with h3 | h3
  · exact word_at hW (Or.inl h3) h1
  · cases w <;> first | exact va_Nw.warmM hW h1 | cases h3
theorem Tk.use {s : State} {args : Array Value} (h : Tk s) {w : Cond} (hw : inT w) : w.before args s = true := va_Nw.use (kw_on hw.2) (h w hw)
theorem Tk.same {s U : State} (h : s.vm = U.vm) (k : Tk s) : Tk U := fun w hw => va_Nw.same (kw_on hw.2) h (k w hw)
/-- a store in a state -/
def RepU (D : va_G) (cA : Nat → ClassId) (ad : Nat × Nat → Nat) (L : Nat) (xs : Nat → Int32) (z : St) (U : State) : Prop := Hp D cA ad z U.heap ∧ va_K D vwCl (tysA cA) U ∧ Tk U ∧ va_X (ad (24, 0)) L xs U U.heap
def QcM (D : va_G) (cA : Nat → ClassId) (ad : Nat × Nat → Nat) (A : Nat → Prop) (L : Nat) (xs : Nat → Int32) (Q : Option MV → St → Prop) : Array Value → State → Outcome → State → Prop := fun _ st oc t => (∃ (r : Option Int32) (z : St), oc = .returned (r.map Value.int) ∧ Q (r.map Sum.inl) z ∧ RepU D cA ad L xs z t) ∧ va_F A st t
def rmF (f : Nat) : Room := { frames := f, cells := 0, slots := 0, locals := 38 * f }
