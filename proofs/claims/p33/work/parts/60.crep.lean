/-! THE CLASS'S WORLDS: what a world's objects hold, told by the row of numbers -/
def cellsRep (s : St) (id : Nat) (F : Fm) (b : Nat) : Prop := ∀ j, j < 3 → (F (b + 4 * j) = nI 1 → s.1 15 id (j * 3) = F (b + 4 * j + 1) ∧ s.1 15 id (j * 3 + 1) = F (b + 4 * j + 2) ∧ s.1 15 id (j * 3 + 2) = F (b + 4 * j + 3)) ∧ (F (b + 4 * j) = nI 0 → s.1 15 id (j * 3 + 2) = 0)
def repServer (s : St) (w k : Nat) (F : Fm) : Prop := s.1 5 (8 * w + k) 1 = F (5 + 3 * k) ∧ s.1 1 (8 * w + k) 0 = F (5 + 3 * k + 1) ∧ s.1 1 (8 * w + k) 1 = F (5 + 3 * k + 2)
def repSite (s : St) (w k : Nat) (F : Fm) : Prop := s.1 1 (80 + (8 * w + k)) 0 = F (29 + 17 * k) ∧ s.1 1 (80 + (8 * w + k)) 1 = F (29 + 17 * k + 1) ∧ s.1 6 (8 * w + k) 2 = F (29 + 17 * k + 2) ∧ s.1 6 (8 * w + k) 3 = F (29 + 17 * k + 3) ∧ s.1 6 (8 * w + k) 4 = F (29 + 17 * k + 4) ∧ cellsRep s (8 * w + k) F (29 + 17 * k + 5)
def repMap (s : St) (y : Nat) (F : Fm) (r p : Nat) : Prop := s.1 2 y 2 = F (mA r p) ∧ s.1 2 y 3 = F (mA r p + 1) ∧ s.1 2 y 4 = F (mA r p + 2) ∧ s.1 2 y 5 = F (mA r p + 3) ∧ s.1 1 (160 + y) 0 = F (29 + 17 * nn (F (mA r p))) ∧ s.1 1 (160 + y) 1 = F (29 + 17 * nn (F (mA r p)) + 1) ∧ cellsRep s (80 + y) F (mA r p + 4)
def repRouter (s : St) (i : Nat) (F : Fm) (r : Nat) : Prop := s.1 4 i 1 = F (165 + 6 * r) ∧ s.1 4 i 2 = F (165 + 6 * r + 1) ∧ s.1 4 i 3 = F (165 + 6 * r + 2) ∧ s.1 4 i 4 = F (165 + 6 * r + 3) ∧ s.1 4 i 5 = F (165 + 6 * r + 4) ∧ s.1 4 i 6 = F (165 + 6 * r + 5) ∧ ∀ p, p < cM F r → repMap s (s.2 i p) F r p
def RepW (s : St) (w : Nat) (F : Fm) : Prop := (s.1 8 w 3 = F 1 ∧ s.1 8 w 4 = F 2 ∧ s.1 8 w 5 = F 3 ∧ s.1 8 w 6 = F 0 ∧ s.1 8 w 7 = F 4) ∧ (∀ k, k < cS F → repServer s w k F) ∧ (∀ k, k < cT F → repSite s w k F) ∧ ∀ r, r < cR F → repRouter s (4 * w + r) F r
def permOk (s : St) : Prop := ∀ i, i < 40 → (∀ j, j < 5 → 5 * i ≤ s.2 i j ∧ s.2 i j < 5 * i + 5) ∧ ∀ j j', j < 5 → j' < 5 → s.2 i j = s.2 i j' → j = j'
/-- the world to which an object belongs -/
def ownW (c i : Nat) : Nat := match c with
  | 8 => i
  | 5 => i / 8
  | 6 => i / 8
  | 4 => i / 4
  | 2 => i / 20
  | 1 => if i < 80 then i / 8 else if i < 160 then (i - 80) / 8 else (i - 160) / 20
  | 15 => if i < 80 then i / 8 else (i - 80) / 20
  | _ => 99
/-- all that belongs to world w is the same -/
def sameW (s s' : St) (w : Nat) : Prop := (∀ c i k, ownW c i = w → s'.1 c i k = s.1 c i k) ∧ ∀ i j, i / 4 = w → s'.2 i j = s.2 i j
section CR
variable {w k r p q i j B b y id : Nat} {x : Int32} {s s' : St} {F G : Fm}
theorem RepW.s1 (h : RepW s w F) : s.1 8 w 3 = F 1 := h.1.1
theorem RepW.t1 (h : RepW s w F) : s.1 8 w 4 = F 2 := h.1.2.1
theorem RepW.r1 (h : RepW s w F) : s.1 8 w 5 = F 3 := h.1.2.2.1
theorem RepW.h1 (h : RepW s w F) : s.1 8 w 6 = F 0 := h.1.2.2.2.1
theorem RepW.l1 (h : RepW s w F) : s.1 8 w 7 = F 4 := h.1.2.2.2.2
theorem RepW.server (h : RepW s w F) (hk : k < cS F) : repServer s w k F := h.2.1 k hk
theorem RepW.site (h : RepW s w F) (hk : k < cT F) : repSite s w k F := h.2.2.1 k hk
theorem RepW.router (h : RepW s w F) (hr : r < cR F) : repRouter s (4 * w + r) F r := h.2.2.2 r hr
theorem cellsRep_cg (h : ∀ k, s'.1 15 id k = s.1 15 id k) (q : cellsRep s id F b) : cellsRep s' id F b := by
  intro j hj
  rw [h, h, h]
  exact q j hj
theorem own_5 (hk : k < 8) : ownW 5 (8 * w + k) = w := by show (8 * w + k) / 8 = w; omega
theorem own_6 (hk : k < 8) : ownW 6 (8 * w + k) = w := by show (8 * w + k) / 8 = w; omega
theorem own_4 (hk : r < 4) : ownW 4 (4 * w + r) = w := by show (4 * w + r) / 4 = w; omega
theorem own_1a (hw : w < 10) (hk : k < 8) : ownW 1 (8 * w + k) = w := by
  show (if 8 * w + k < 80 then (8 * w + k) / 8 else _) = w
  rw [if_pos (by omega)]; omega
theorem own_1b (hw : w < 10) (hk : k < 8) : ownW 1 (80 + (8 * w + k)) = w := by
  show (if 80 + (8 * w + k) < 80 then _ else if 80 + (8 * w + k) < 160 then (80 + (8 * w + k) - 80) / 8 else _) = w
  rw [if_neg (by omega), if_pos (by omega)]; omega
theorem own_1c (h : y / 20 = w) : ownW 1 (160 + y) = w := by
  show (if 160 + y < 80 then _ else if 160 + y < 160 then _ else (160 + y - 160) / 20) = w
  rw [if_neg (by omega), if_neg (by omega)]; omega
theorem own_15a (hw : w < 10) (hk : k < 8) : ownW 15 (8 * w + k) = w := by
  show (if 8 * w + k < 80 then (8 * w + k) / 8 else _) = w
  rw [if_pos (by omega)]; omega
theorem own_15b (h : y / 20 = w) : ownW 15 (80 + y) = w := by
  show (if 80 + y < 80 then _ else (80 + y - 80) / 20) = w
  rw [if_neg (by omega)]; omega
theorem repMap_cg (h : sameW s s' w) (hy : y / 20 = w) (q : repMap s y F r p) : repMap s' y F r p := by
  obtain ⟨h1, h2⟩ := h
  have e2 : ∀ k, s'.1 2 y k = s.1 2 y k := fun k => h1 2 y k hy
  have e1 : ∀ k, s'.1 1 (160 + y) k = s.1 1 (160 + y) k := fun k => h1 1 (160 + y) k (own_1c hy)
  unfold repMap at q ⊢
  rw [e2, e2, e2, e2, e1, e1]
  exact ⟨q.1, q.2.1, q.2.2.1, q.2.2.2.1, q.2.2.2.2.1, q.2.2.2.2.2.1, cellsRep_cg (fun k => h1 15 _ k (own_15b hy)) q.2.2.2.2.2.2⟩
theorem perm_own (hp : permOk s) (hi : i < 40) (hj : j < 5) : s.2 i j / 20 = i / 4 := by
  have := (hp i hi).1 j hj
  omega
theorem RepW_cg (hw : WF F B) (hp : permOk s) (h10 : w < 10) (h : sameW s s' w) (q : RepW s w F) : RepW s' w F := by
  have h8 := hw.s2
  have ht := hw.t2
  have hr := hw.r2
  obtain ⟨h1, h2⟩ := id h
  refine ⟨?_, fun k hk => ?_, fun k hk => ?_, fun r hk => ?_⟩
  · have e : ∀ k, s'.1 8 w k = s.1 8 w k := fun k => h1 8 w k rfl
    rw [e, e, e, e, e]
    exact q.1
  · have g := q.server hk
    unfold repServer at g ⊢
    rw [h1 5 _ _ (own_5 (by omega)), h1 1 _ _ (own_1a h10 (by omega)), h1 1 _ _ (own_1a h10 (by omega))]
    exact g
  · have g := q.site hk
    unfold repSite at g ⊢
    rw [h1 6 _ _ (own_6 (by omega)), h1 6 _ _ (own_6 (by omega)), h1 6 _ _ (own_6 (by omega)), h1 1 _ _ (own_1b h10 (by omega)), h1 1 _ _ (own_1b h10 (by omega))]
    exact ⟨g.1, g.2.1, g.2.2.1, g.2.2.2.1, g.2.2.2.2.1, cellsRep_cg (fun k => h1 15 _ k (own_15a h10 (by omega))) g.2.2.2.2.2⟩
  · have g := q.router hk
    have h5 := (hw.router hk).2.1
    unfold repRouter at g ⊢
    have e : ∀ k, s'.1 4 (4 * w + r) k = s.1 4 (4 * w + r) k := fun k => h1 4 _ k (own_4 (by omega))
    rw [e, e, e, e, e, e]
    refine ⟨g.1, g.2.1, g.2.2.1, g.2.2.2.1, g.2.2.2.2.1, g.2.2.2.2.2.1, fun p hp' => ?_⟩
    rw [h2 _ _ (by omega)]
    exact repMap_cg h (by rw [perm_own hp (by omega) (by omega)]; omega) (g.2.2.2.2.2.2 p hp')
theorem putV_ne {c i k a b d : Nat} (h : a ≠ c ∨ b ≠ i ∨ d ≠ k) : (putV s c i k x).1 a b d = s.1 a b d := if_neg (fun q => by omega)
theorem putV_2 {c i k : Nat} : (putV s c i k x).2 = s.2 := rfl
end CR
