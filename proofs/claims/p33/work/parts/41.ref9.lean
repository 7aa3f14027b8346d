/-! THE REFERENCE: its rows of states -/
/-- a store whose kept rows are G -/
def setK (s : St) (G : Fm) : St := (fun a b d => if a = 21 ∧ b = 0 then G d else s.1 a b d, s.2)
def keepG (G F : Fm) (c : Nat) : Fm := fun i => if 509 * c ≤ i ∧ i < 509 * c + 509 then F (i - 509 * c) else G i
def keK (G F : Fm) (c k : Nat) : Fm := fun i => if 509 * c ≤ i ∧ i < 509 * c + k then F (i - 509 * c) else G i
def mixF (F G : Fm) : Fm := fun i => if i < 509 then G i else F i
def miK (F G : Fm) (k : Nat) : Fm := fun i => if i < k then G i else F i
def shK (G : Fm) (k : Nat) : Fm := fun i => if i < k then G (i + 509) else G i
def recG (G F : Fm) (n : Nat) : Fm := if n = 5 then keepG (shK G 2036) F 4 else keepG G F n
def recN (n : Nat) : Nat := if n = 5 then 5 else n + 1
section REF9
variable {L : Nat} {xs : Nat → Int32} {f i k r p q c j n B b : Nat} {x y v a z name flow place : Int32} {s : St} {F G : Fm} {Q : Option MV → St → Prop}
theorem setK_k : (setK s G).1 21 0 i = G i := by
  show (if 21 = 21 ∧ 0 = 0 then G i else s.1 21 0 i) = G i
  rw [if_pos ⟨rfl, rfl⟩]
theorem setK_o {a b d : Nat} (h : a ≠ 21) : (setK s G).1 a b d = s.1 a b d := by
  show (if a = 21 ∧ b = 0 then G d else s.1 a b d) = _
  rw [if_neg fun q => h q.1]
theorem setNK_k : (setN (setK s G) F).1 21 0 i = G i := by rw [setN_o (by decide), setK_k]
theorem setNK_put : putV (setN (setK s G) F) 21 0 i x = setN (setK s (putF G i x)) F := by
  unfold setN setK putV putF
  apply Prod.ext
  · funext a b d
    show (if a = 21 ∧ b = 0 ∧ d = i then x else if a = 20 ∧ b = 0 then F d else if a = 21 ∧ b = 0 then G d else s.1 a b d) = (if a = 20 ∧ b = 0 then F d else if a = 21 ∧ b = 0 then (if d = i then x else G d) else s.1 a b d)
    by_cases h1 : a = 21 <;> by_cases h2 : b = 0 <;> simp [h1, h2]
  · rfl
theorem setNK_fv {d : Nat} : (setN (setK s G) F).1 10 0 d = s.1 10 0 d := by rw [setN_o (by decide), setK_o (by decide)]
theorem setNK_fvv (hs : s.1 10 0 i = x) (hl : lk 10 i 0 = none) : fv (setN (setK s G) F) 10 0 i = .inl x := by
  unfold fv
  rw [hl, setNK_fv, hs]
theorem setNK_fput : putV (setN (setK s G) F) 10 0 i x = setN (setK (putV s 10 0 i x) G) F := by
  unfold setN setK putV
  apply Prod.ext
  · funext a b d
    show (if a = 10 ∧ b = 0 ∧ d = i then x else if a = 20 ∧ b = 0 then F d else if a = 21 ∧ b = 0 then G d else s.1 a b d) = (if a = 20 ∧ b = 0 then F d else if a = 21 ∧ b = 0 then G d else if a = 10 ∧ b = 0 ∧ d = i then x else s.1 a b d)
    by_cases h1 : a = 10
    · subst h1; simp
    · simp [h1]
  · rfl
theorem putV_put : putV (putV s k b i x) k b i y = putV s k b i y := by
  unfold putV
  apply Prod.ext
  · funext a e d
    show (if a = k ∧ e = b ∧ d = i then y else if a = k ∧ e = b ∧ d = i then x else s.1 a e d) = (if a = k ∧ e = b ∧ d = i then y else s.1 a e d)
    split <;> rfl
  · rfl
theorem putV_at : (putV s k b i x).1 k b i = x := by
  show (if k = k ∧ b = b ∧ i = i then x else s.1 k b i) = x
  rw [if_pos ⟨rfl, rfl, rfl⟩]
theorem keK_0 : keK G F c 0 = G := by
  funext i
  simp only [keK]
  rw [if_neg (by omega)]
theorem keK_s : putF (keK G F c k) (509 * c + k) (F k) = keK G F c (k + 1) := by
  funext i
  simp only [putF, keK]
  (repeat' split) <;> first | rfl | omega | (exfalso; omega) | (congr 1; omega)
theorem miK_0 : miK F G 0 = F := by
  funext i
  simp only [miK]
  rw [if_neg (by omega)]
theorem miK_s : putF (miK F G k) k (G k) = miK F G (k + 1) := by
  funext i
  simp only [putF, miK]
  (repeat' split) <;> first | rfl | omega | (exfalso; omega) | (subst_vars; rfl)
theorem shK_0 : shK G 0 = G := by
  funext i
  simp only [shK]
  rw [if_neg (by omega)]
theorem shK_s : putF (shK G k) k (shK G k (k + 509)) = shK G (k + 1) := by
  have e : shK G k (k + 509) = G (k + 509) := by
    simp only [shK]
    rw [if_neg (by omega)]
  rw [e]
  funext i
  simp only [putF, shK]
  (repeat' split) <;> first | rfl | omega | (exfalso; omega) | (subst_vars; rfl)
end REF9
