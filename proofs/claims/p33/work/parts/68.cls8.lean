/-! THE CLASS: what changes, and what stays -/
def Upd (s s' : St) (w : Nat) : Prop := (∀ c i k, ownW c i ≠ w → s'.1 c i k = s.1 c i k) ∧ (∀ i j, i / 4 ≠ w → s'.2 i j = s.2 i j) ∧ (permOk s → permOk s')
/-- the router to which an object belongs -/
def ownR (c j : Nat) : Nat := match c with
  | 4 => j
  | 2 => j / 5
  | 1 => if j < 160 then 999 else (j - 160) / 5
  | 15 => if j < 80 then 999 else (j - 80) / 5
  | _ => 999
def sameR (s s' : St) (i : Nat) : Prop := (∀ c j k, ownR c j = i → s'.1 c j k = s.1 c j k) ∧ ∀ j, s'.2 i j = s.2 i j
def bcE (x : Int32) : Int32 :=
  let sh : Int32 → Int32 → Int32 := fun x y => (x.toUInt32 >>> (y.toUInt32 &&& Int32.toUInt32 31)).toInt32
  let a := x - (sh x (nI 1) &&& nI 1431655765)
  let b := (a &&& nI 858993459) + (sh a (nI 2) &&& nI 858993459)
  let c := (b + sh b (nI 4)) &&& nI 252645135
  let d := c + sh c (nI 8)
  (d + sh d (nI 16)) &&& nI 63
section CLS8
variable {L : Nat} {xs : Nat → Int32} {f i k r p q c j n B b w w' m sd : Nat} {x y v a z l lo v0 v1 name flow place which : Int32} {s s' t : St} {F G F' u : Fm} {Q : Option MV → St → Prop} {P : Nat → Bool}
theorem Upd.refl : Upd s s w := ⟨fun _ _ _ _ => rfl, fun _ _ _ => rfl, fun h => h⟩
theorem Upd.trans (h1 : Upd s s' w) (h2 : Upd s' t w) : Upd s t w := ⟨fun c i k h => (h2.1 c i k h).trans (h1.1 c i k h), fun i j h => (h2.2.1 i j h).trans (h1.2.1 i j h), fun h => h2.2.2 (h1.2.2 h)⟩
theorem permOk_of (h : ∀ i j, s'.2 i j = s.2 i j) (hp : permOk s) : permOk s' := fun i hi => ⟨fun j hj => by rw [h]; exact (hp i hi).1 j hj, fun j j' a b => by rw [h, h]; exact (hp i hi).2 j j' a b⟩
theorem Upd_put (h : ownW c i = w) : Upd s (putV s c i k x) w := ⟨fun c' i' k' h' => putV_ne (by
  by_cases e1 : c' = c
  · by_cases e2 : i' = i
    · subst e1; subst e2; exact absurd h h'
    · exact Or.inr (Or.inl e2)
  · exact Or.inl e1), fun _ _ _ => rfl, fun h => permOk_of (fun _ _ => rfl) h⟩
theorem Upd.put (h : Upd s s' w) (ho : ownW c i = w) : Upd s (putV s' c i k x) w := h.trans (Upd_put ho)
theorem Upd.same (h : Upd s s' w) (hw : w' ≠ w) : sameW s s' w' := ⟨fun c i k e => h.1 c i k (by rw [e]; exact hw), fun i j e => h.2.1 i j (by rw [e]; exact hw)⟩
/-- what other worlds hold stays -/
theorem Upd.rep (h : Upd s s' w) (hw : w' ≠ w) (hF : WF F B) (hp : permOk s) (h10 : w' < 10) (hR : RepW s w' F) : RepW s' w' F := RepW_cg hF hp h10 (h.same hw) hR
theorem repServer_cg (h5 : ∀ j, s'.1 5 (8 * w + k) j = s.1 5 (8 * w + k) j) (h1 : ∀ j, s'.1 1 (8 * w + k) j = s.1 1 (8 * w + k) j) (hF : ∀ i, 5 + 3 * k ≤ i → i < 5 + 3 * k + 3 → F' i = F i) (q : repServer s w k F) : repServer s' w k F' := by
  unfold repServer at q ⊢
  rw [h5, h1, h1, hF _ (by omega) (by omega), hF _ (by omega) (by omega), hF _ (by omega) (by omega)]
  exact q
theorem cellsRep_cg2 {b' : Nat} (h : ∀ k, k < 9 → s'.1 15 n k = s.1 15 m k) (hF : ∀ i, i < 12 → F' (b' + i) = F (b + i)) (q : cellsRep s m F b) : cellsRep s' n F' b' := by
  intro j hj
  have e0 := hF (4 * j) (by omega)
  have e1 := hF (4 * j + 1) (by omega)
  have e2 := hF (4 * j + 2) (by omega)
  have e3 := hF (4 * j + 3) (by omega)
  rw [h _ (by omega), h _ (by omega), h _ (by omega)]
  simp only [← Nat.add_assoc] at e0 e1 e2 e3
  rw [e0, e1, e2, e3]
  exact q j hj
theorem repSite_cg (h6 : ∀ j, s'.1 6 (8 * w + k) j = s.1 6 (8 * w + k) j) (h1 : ∀ j, s'.1 1 (80 + (8 * w + k)) j = s.1 1 (80 + (8 * w + k)) j) (h15 : ∀ j, j < 9 → s'.1 15 (8 * w + k) j = s.1 15 (8 * w + k) j) (hF : ∀ i, 29 + 17 * k ≤ i → i < 29 + 17 * k + 17 → F' i = F i) (q : repSite s w k F) : repSite s' w k F' := by
  unfold repSite at q ⊢
  rw [h6, h6, h6, h1, h1, hF _ (by omega) (by omega), hF _ (by omega) (by omega), hF _ (by omega) (by omega), hF _ (by omega) (by omega), hF _ (by omega) (by omega)]
  exact ⟨q.1, q.2.1, q.2.2.1, q.2.2.2.1, q.2.2.2.2.1, cellsRep_cg2 h15 (fun i hi => hF _ (by omega) (by omega)) q.2.2.2.2.2⟩
theorem repMap_F {y p' : Nat} (hT : nn (F (mA r p)) < cT F) (hm : ∀ j, j < 16 → F' (mA r p' + j) = F (mA r p + j)) (hb : ∀ t, t < cT F → F' (29 + 17 * t) = F (29 + 17 * t) ∧ F' (29 + 17 * t + 1) = F (29 + 17 * t + 1)) (q : repMap s y F r p) : repMap s y F' r p' := by
  have e0 : F' (mA r p') = F (mA r p) := hm 0 (by omega)
  unfold repMap at q ⊢
  rw [e0, hm 1 (by omega), hm 2 (by omega), hm 3 (by omega), (hb _ hT).1, (hb _ hT).2]
  exact ⟨q.1, q.2.1, q.2.2.1, q.2.2.2.1, q.2.2.2.2.1, q.2.2.2.2.2.1, cellsRep_cg2 (fun _ _ => rfl) (fun i hi => by
    have := hm (4 + i) (by omega)
    simp only [← Nat.add_assoc] at this
    exact this) q.2.2.2.2.2.2⟩
theorem ownR_1 {y : Nat} : ownR 1 (160 + y) = y / 5 := by
  show (if 160 + y < 160 then 999 else (160 + y - 160) / 5) = _
  rw [if_neg (by omega), show 160 + y - 160 = y by omega]
theorem ownR_15 {y : Nat} : ownR 15 (80 + y) = y / 5 := by
  show (if 80 + y < 80 then 999 else (80 + y - 80) / 5) = _
  rw [if_neg (by omega), show 80 + y - 80 = y by omega]
theorem repMap_s {y : Nat} (h : ∀ c j k, ownR c j = i → s'.1 c j k = s.1 c j k) (hy : y / 5 = i) (q : repMap s y F r p) : repMap s' y F r p := by
  have e2 : ∀ k, s'.1 2 y k = s.1 2 y k := fun k => h 2 y k hy
  have e1 : ∀ k, s'.1 1 (160 + y) k = s.1 1 (160 + y) k := fun k => h 1 (160 + y) k (ownR_1.trans hy)
  have e15 : ∀ k, s'.1 15 (80 + y) k = s.1 15 (80 + y) k := fun k => h 15 (80 + y) k (ownR_15.trans hy)
  unfold repMap at q ⊢
  rw [e2, e2, e2, e2, e1, e1]
  exact ⟨q.1, q.2.1, q.2.2.1, q.2.2.2.1, q.2.2.2.2.1, q.2.2.2.2.2.1, cellsRep_cg e15 q.2.2.2.2.2.2⟩
theorem perm_5 (hp : permOk s) (hi : i < 40) (hj : j < 5) : s.2 i j / 5 = i := by
  have := (hp i hi).1 j hj
  omega
theorem repRouter_s (hw : WFrouter F r) (hp : permOk s) (hi : i < 40) (h : sameR s s' i) (q : repRouter s i F r) : repRouter s' i F r := by
  obtain ⟨h1, h2⟩ := h
  have w5 := hw.2.1
  unfold repRouter at q ⊢
  rw [h1 4 i 1 rfl, h1 4 i 2 rfl, h1 4 i 3 rfl, h1 4 i 4 rfl, h1 4 i 5 rfl, h1 4 i 6 rfl]
  refine ⟨q.1, q.2.1, q.2.2.1, q.2.2.2.1, q.2.2.2.2.1, q.2.2.2.2.2.1, fun p hp' => ?_⟩
  rw [h2]
  exact repMap_s h1 (perm_5 hp hi (by omega)) (q.2.2.2.2.2.2 p hp')
theorem repRouter_F (hw : WFrouter F r) (h0 : ∀ i, 165 + 6 * r ≤ i → i < 165 + 6 * r + 6 → F' i = F i) (hm : ∀ i, mA r 0 ≤ i → i < mA r 5 → F' i = F i) (hb : ∀ t, t < cT F → F' (29 + 17 * t) = F (29 + 17 * t) ∧ F' (29 + 17 * t + 1) = F (29 + 17 * t + 1)) (q : repRouter s i F r) : repRouter s i F' r := by
  have w5 := hw.2.1
  have m0 := mA_eq r 0
  have m5 := mA_eq r 5
  have ec : cM F' r = cM F r := by unfold cM; rw [h0 _ (by omega) (by omega)]
  unfold repRouter at q ⊢
  rw [h0 _ (by omega) (by omega), h0 _ (by omega) (by omega), h0 _ (by omega) (by omega), h0 _ (by omega) (by omega), h0 _ (by omega) (by omega), h0 _ (by omega) (by omega), ec]
  exact ⟨q.1, q.2.1, q.2.2.1, q.2.2.2.1, q.2.2.2.2.1, q.2.2.2.2.2.1, fun p hp => repMap_F (hw.2.2.1 p hp).2.1 (fun j hj => hm _ (by have := mA_eq r p; omega) (by have := mA_eq r p; omega)) hb (q.2.2.2.2.2.2 p hp)⟩
theorem sameR_put (h : ownR c j ≠ i) : sameR s (putV s c j k x) i := ⟨fun c' j' k' e => putV_ne (by
  by_cases e1 : c' = c
  · by_cases e2 : j' = j
    · subst e1; subst e2; exact absurd e h
    · exact Or.inr (Or.inl e2)
  · exact Or.inl e1), fun _ => rfl⟩
theorem sameR.trans (h1 : sameR s s' i) (h2 : sameR s' t i) : sameR s t i := ⟨fun c j k e => (h2.1 c j k e).trans (h1.1 c j k e), fun j => (h2.2 j).trans (h1.2 j)⟩
theorem sameR.refl : sameR s s i := ⟨fun _ _ _ _ => rfl, fun _ => rfl⟩
theorem sameR.put (h : sameR s s' i) (ho : ownR c j ≠ i) : sameR s (putV s' c j k x) i := h.trans (sameR_put ho)
/-- another row of numbers that agrees below 509 -/
theorem RepW_F (hw : WF F B) (h : ∀ i, i < 509 → F' i = F i) (q : RepW s w F) : RepW s w F' := by
  have s2 := hw.s2
  have t2 := hw.t2
  have r2 := hw.r2
  have e1 : cS F' = cS F := by unfold cS; rw [h 1 (by omega)]
  have e2 : cT F' = cT F := by unfold cT; rw [h 2 (by omega)]
  have e3 : cR F' = cR F := by unfold cR; rw [h 3 (by omega)]
  refine ⟨?_, fun k hk => ?_, fun k hk => ?_, fun r hk => ?_⟩
  · rw [h 1 (by omega), h 2 (by omega), h 3 (by omega), h 0 (by omega), h 4 (by omega)]
    exact q.1
  · exact repServer_cg (fun _ => rfl) (fun _ => rfl) (fun i a b => h i (by omega)) (q.server (by omega))
  · exact repSite_cg (fun _ => rfl) (fun _ => rfl) (fun _ _ => rfl) (fun i a b => h i (by omega)) (q.site (by omega))
  · have m0 := mA_eq r 0
    have m5 := mA_eq r 5
    exact repRouter_F (hw.router (by omega)) (fun i a b => h i (by omega)) (fun i a b => h i (by omega)) (fun t ht => ⟨h _ (by omega), h _ (by omega)⟩) (q.router (by omega))
theorem bc_ok : ∀ n, n < 257 → 1 ≤ n → (bcE (nI n) = nI 1 ↔ powB (nI n)) := by decide +kernel
set_option maxHeartbeats 4000000 in
set_option maxRecDepth 100000 in
theorem c_bitCount (h : Q (some (.inl (bcE v))) s) : wpM L xs codT retT (f + 1) m_J6_bitCount_0f7a4 [.inl v] s Q := by
  intro call hcall X hX; refine hX 1000 0 _ _ _ ?_
  repeat' (first | (intro hc) | (refine And.intro ?_ ?_) | (exact absurd nI_0 ‹cmpF 0 (nI 0) 0›) | (exact absurd ‹cmpT 0 (nI 1) 0› nI1_ne) | (exact absurd nI_0 ‹cmpT 1 (nI 0) 0›) | (exact absurd ‹cmpF 1 (nI 1) 0› nI1_ne) | (show wp _ _ _ _ _ _ _ _ _ _ _ _; conv => whnf))
  exact h
set_option maxHeartbeats 4000000 in
set_option maxRecDepth 100000 in
theorem c_isBlock (h : Q (some (.inl (bI (blkB a z)))) s) : wpM L xs codT retT (f + 2) m_X9_isBlock [.inl a, .inl z] s Q := by
  have pw : powB z → 1 ≤ z.toInt ∧ z.toInt ≤ 256 := by
    rintro (q | q | q | q | q | q | q | q | q) <;> rw [q, nI_toI (by decide)] <;> omega
  by_cases hz : 1 ≤ z.toInt ∧ z.toInt ≤ 256
  · obtain ⟨n, rfl, e2, e3⟩ := nI_ex (show 0 ≤ z.toInt by omega)
    have hb := bc_ok n (by omega) (by omega)
    have hn0 : ¬ nI n = 0 := fun q => by rw [q] at hz; exact absurd hz.1 (by decide)
    by_cases hp : powB (nI n)
    · have hb1 := hb.mpr hp
      by_cases ha : iN a 256
      · by_cases hr : a - a / nI n * nI n = 0
        · have e : bI (blkB a (nI n)) = nI 1 := if_pos ⟨hp, by omega, hr⟩
          rw [e] at h
          intro call hcall X hX; refine hX 1000 0 _ _ _ ?_
          repeat' (first | (intro hc) | (refine And.intro ?_ ?_) | (exact absurd nI_0 ‹cmpF 0 (nI 0) 0›) | (exact absurd ‹cmpT 0 (nI 1) 0› nI1_ne) | (exact absurd nI_0 ‹cmpT 1 (nI 0) 0›) | (exact absurd ‹cmpF 1 (nI 1) 0› nI1_ne) | (show wp _ _ _ _ _ _ _ _ _ _ _ _; conv => whnf) | (simp (disch := omega) only [nI_add, nI_mul, setN_now, setN_put, nI_cl, Nat.add_zero]) | (refine hcall _ _ _ _ ?_; first | (refine c_bitCount ?_) | (refine c_sName ?_) | fail))
          all_goals first
            | exact Or.inl rfl
            | exact Or.inr rfl
            | exact h
            | exact hn0
            | (exfalso; exact hn0 (by assumption))
            | (exfalso; exact bF ha (by assumption))
            | (exfalso; exact (by assumption : cmpF 0 (bcE (nI n)) (nI 1)) hb1)
            | (exfalso; exact (by assumption : cmpT 1 (a - a / nI n * nI n) 0) hr)
            | (exfalso; clear h hp hb hr e ha; (try clear hX hcall); (try clear h); (try simp (disch := omega) only [cmpT, cmpF, bI_eq0, bI_ne0, Classical.not_not, nI_toI, nI_cl, nI_inj, nI_add, nI_mul, nI_subI, takeL, setL, Int32.toInt_zero, Nat.add_zero, Nat.zero_mul, Nat.zero_add, alen11, alen12, alen13, alen14, alen15, alen16, alen17, alen18, alen19] at *); omega)
        · have e : bI (blkB a (nI n)) = nI 0 := if_neg (fun q => hr q.2.2)
          rw [e] at h
          intro call hcall X hX; refine hX 1000 0 _ _ _ ?_
          repeat' (first | (intro hc) | (refine And.intro ?_ ?_) | (exact absurd nI_0 ‹cmpF 0 (nI 0) 0›) | (exact absurd ‹cmpT 0 (nI 1) 0› nI1_ne) | (exact absurd nI_0 ‹cmpT 1 (nI 0) 0›) | (exact absurd ‹cmpF 1 (nI 1) 0› nI1_ne) | (show wp _ _ _ _ _ _ _ _ _ _ _ _; conv => whnf) | (simp (disch := omega) only [nI_add, nI_mul, setN_now, setN_put, nI_cl, Nat.add_zero]) | (refine hcall _ _ _ _ ?_; first | (refine c_bitCount ?_) | (refine c_sName ?_) | fail))
          all_goals first
            | exact Or.inl rfl
            | exact Or.inr rfl
            | exact h
            | exact hn0
            | (exfalso; exact hn0 (by assumption))
            | (exfalso; exact bF ha (by assumption))
            | (exfalso; exact (by assumption : cmpF 0 (bcE (nI n)) (nI 1)) hb1)
            | (exfalso; exact hr (by assumption : cmpF 1 (a - a / nI n * nI n) 0))
            | (exfalso; clear h hp hb hr e ha; (try clear hX hcall); (try clear h); (try simp (disch := omega) only [cmpT, cmpF, bI_eq0, bI_ne0, Classical.not_not, nI_toI, nI_cl, nI_inj, nI_add, nI_mul, nI_subI, takeL, setL, Int32.toInt_zero, Nat.add_zero, Nat.zero_mul, Nat.zero_add, alen11, alen12, alen13, alen14, alen15, alen16, alen17, alen18, alen19] at *); omega)
      · have e : bI (blkB a (nI n)) = nI 0 := if_neg (fun q => ha (by have := q.2.1; omega))
        rw [e] at h
        intro call hcall X hX; refine hX 1000 0 _ _ _ ?_
        repeat' (first | (intro hc) | (refine And.intro ?_ ?_) | (exact absurd nI_0 ‹cmpF 0 (nI 0) 0›) | (exact absurd ‹cmpT 0 (nI 1) 0› nI1_ne) | (exact absurd nI_0 ‹cmpT 1 (nI 0) 0›) | (exact absurd ‹cmpF 1 (nI 1) 0› nI1_ne) | (show wp _ _ _ _ _ _ _ _ _ _ _ _; conv => whnf) | (simp (disch := omega) only [nI_add, nI_mul, setN_now, setN_put, nI_cl, Nat.add_zero]) | (refine hcall _ _ _ _ ?_; first | (refine c_bitCount ?_) | (refine c_sName ?_) | fail))
        all_goals first
          | exact Or.inl rfl
          | exact Or.inr rfl
          | exact h
          | exact hn0
          | (exfalso; exact bT ha (by assumption))
          | (exfalso; exact (by assumption : cmpF 0 (bcE (nI n)) (nI 1)) hb1)
          | (exfalso; clear h hp hb e ha; (try clear hX hcall); (try clear h); (try simp (disch := omega) only [cmpT, cmpF, bI_eq0, bI_ne0, Classical.not_not, nI_toI, nI_cl, nI_inj, nI_add, nI_mul, nI_subI, takeL, setL, Int32.toInt_zero, Nat.add_zero, Nat.zero_mul, Nat.zero_add, alen11, alen12, alen13, alen14, alen15, alen16, alen17, alen18, alen19] at *); omega)
    · have hb1 : ¬ bcE (nI n) = nI 1 := fun q => hp (hb.mp q)
      have e : bI (blkB a (nI n)) = nI 0 := if_neg (fun q => hp q.1)
      rw [e] at h
      intro call hcall X hX; refine hX 1000 0 _ _ _ ?_
      repeat' (first | (intro hc) | (refine And.intro ?_ ?_) | (exact absurd nI_0 ‹cmpF 0 (nI 0) 0›) | (exact absurd ‹cmpT 0 (nI 1) 0› nI1_ne) | (exact absurd nI_0 ‹cmpT 1 (nI 0) 0›) | (exact absurd ‹cmpF 1 (nI 1) 0› nI1_ne) | (show wp _ _ _ _ _ _ _ _ _ _ _ _; conv => whnf) | (simp (disch := omega) only [nI_add, nI_mul, setN_now, setN_put, nI_cl, Nat.add_zero]) | (refine hcall _ _ _ _ ?_; first | (refine c_bitCount ?_) | (refine c_sName ?_) | fail))
      all_goals first
        | exact Or.inl rfl
        | exact Or.inr rfl
        | exact h
        | exact hn0
        | (exfalso; exact hb1 (by assumption : cmpT 0 (bcE (nI n)) (nI 1)))
        | (exfalso; clear h hp hb e; (try clear hX hcall); (try clear h); (try simp (disch := omega) only [cmpT, cmpF, bI_eq0, bI_ne0, Classical.not_not, nI_toI, nI_cl, nI_inj, nI_add, nI_mul, nI_subI, takeL, setL, Int32.toInt_zero, Nat.add_zero, Nat.zero_mul, Nat.zero_add, alen11, alen12, alen13, alen14, alen15, alen16, alen17, alen18, alen19] at *); omega)
  · have e : bI (blkB a z) = nI 0 := if_neg (fun q => hz (pw q.1))
    rw [e] at h
    clear pw
    intro call hcall X hX; refine hX 1000 0 _ _ _ ?_
    repeat' (first | (intro hc) | (refine And.intro ?_ ?_) | (exact absurd nI_0 ‹cmpF 0 (nI 0) 0›) | (exact absurd ‹cmpT 0 (nI 1) 0› nI1_ne) | (exact absurd nI_0 ‹cmpT 1 (nI 0) 0›) | (exact absurd ‹cmpF 1 (nI 1) 0› nI1_ne) | (show wp _ _ _ _ _ _ _ _ _ _ _ _; conv => whnf) | (simp (disch := omega) only [nI_add, nI_mul, setN_now, setN_put, nI_cl, Nat.add_zero]) | (refine hcall _ _ _ _ ?_; first | (refine c_bitCount ?_) | (refine c_sName ?_) | fail))
    all_goals first
      | exact Or.inl rfl
      | exact Or.inr rfl
      | exact h
      | (exfalso; clear h e; (try clear hX hcall); (try clear h); (try simp (disch := omega) only [cmpT, cmpF, bI_eq0, bI_ne0, Classical.not_not, nI_toI, nI_cl, nI_inj, nI_add, nI_mul, nI_subI, takeL, setL, Int32.toInt_zero, Nat.add_zero, Nat.zero_mul, Nat.zero_add, alen11, alen12, alen13, alen14, alen15, alen16, alen17, alen18, alen19] at *); omega)
      | (intro q; apply hz; rw [q]; clear h e; (try clear hX hcall); (try clear h); (try simp (disch := omega) only [cmpT, cmpF, bI_eq0, bI_ne0, Classical.not_not, nI_toI, nI_cl, nI_inj, nI_add, nI_mul, nI_subI, takeL, setL, Int32.toInt_zero, Nat.add_zero, Nat.zero_mul, Nat.zero_add, alen11, alen12, alen13, alen14, alen15, alen16, alen17, alen18, alen19] at *); omega)
      | fail
end CLS8
