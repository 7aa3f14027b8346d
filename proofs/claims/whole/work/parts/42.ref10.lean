/-! THE REFERENCE: calls that change something -/
abbrev powB (z : Int32) : Prop := z = nI 1 ∨ z = nI 2 ∨ z = nI 4 ∨ z = nI 8 ∨ z = nI 16 ∨ z = nI 32 ∨ z = nI 64 ∨ z = nI 128 ∨ z = nI 256
abbrev blkB (a z : Int32) : Prop := powB z ∧ (0 ≤ a.toInt ∧ a.toInt ≤ 255) ∧ a - a / z * z = 0
abbrev iN (v : Int32) (n : Nat) : Prop := 0 ≤ v.toInt ∧ v.toInt < (n : Int)
abbrev meetF (F : Fm) (k : Nat) (a z : Int32) : Prop := a.toInt < (F (5 + 3 * k + 1) + F (5 + 3 * k + 2)).toInt ∧ (F (5 + 3 * k + 1)).toInt < (a + z).toInt
/-- a server of parent p meets the block -/
def anyM (F : Fm) (p a z : Int32) : Nat → Bool
  | 0 => false
  | n + 1 => anyM F p a z n || decide (1 ≤ n ∧ F (5 + 3 * n) = p ∧ meetF F n a z)
def serverF (F : Fm) (p a z : Int32) : Int32 × Fm :=
  if ¬ iN p (cS F) then (-1, F)
  else if ¬ (blkB a z ∧ holdF F (nn p) a z ∧ z.toInt < (F (5 + 3 * nn p + 2)).toInt) then (-2, F)
  else if anyM F p a z (cS F) = true then (-3, F)
  else if cS F = 8 then (-4, F)
  else (nI (cS F), fun i => if i = 5 + 3 * cS F then p else if i = 5 + 3 * cS F + 1 then a else if i = 5 + 3 * cS F + 2 then z else if i = 1 then F 1 + nI 1 else F i)
/-- a site has just this block -/
def anyS (F : Fm) (a z : Int32) : Nat → Bool
  | 0 => false
  | n + 1 => anyS F a z n || decide (F (29 + 17 * n) = a ∧ F (29 + 17 * n + 1) = z)
def siteF (F : Fm) (a z l : Int32) : Int32 × Fm :=
  if ¬ (blkB a z ∧ 1 ≤ l.toInt ∧ l.toInt ≤ 48) then (-2, F)
  else if anyS F a z (cT F) = true then (-3, F)
  else if cT F = 8 then (-4, F)
  else (nI (cT F), fun i => if i = 29 + 17 * cT F then a else if i = 29 + 17 * cT F + 1 then z else if i = 29 + 17 * cT F + 2 then l else if i = 29 + 17 * cT F + 3 then nI 1 else if 29 + 17 * cT F + 4 ≤ i ∧ i < 29 + 17 * cT F + 17 then nI 0 else if i = 2 then F 2 + nI 1 else F i)
def routerF (F : Fm) : Int32 × Fm :=
  if cR F = 4 then (-4, F)
  else (nI (cR F), fun i => if 165 + 6 * cR F ≤ i ∧ i < 165 + 6 * cR F + 6 then nI 0 else if i = 3 then F 3 + nI 1 else F i)
def fillSF (F : Fm) (k j v w x : Int32) : Int32 × Fm :=
  if ¬ (iN k (cT F) ∧ iN j 3) then (-1, F)
  else if ¬ (iN v 32 ∧ iN w 10 ∧ 1 ≤ x.toInt ∧ x.toInt ≤ 9) then (-2, F)
  else (F (29 + 17 * nn k + 3) + nI 1, fun i => if i = 29 + 17 * nn k + 5 + 4 * nn j then nI 1 else if i = 29 + 17 * nn k + 5 + 4 * nn j + 1 then v else if i = 29 + 17 * nn k + 5 + 4 * nn j + 2 then w else if i = 29 + 17 * nn k + 5 + 4 * nn j + 3 then x else if i = 29 + 17 * nn k + 3 then F i + nI 1 else F i)
def vacF (F : Fm) (k j : Int32) : Int32 × Fm :=
  if ¬ (iN k (cT F) ∧ iN j 3) then (-1, F)
  else if F (29 + 17 * nn k + 5 + 4 * nn j) = nI 0 then (-3, F)
  else (F (29 + 17 * nn k + 3) + nI 1, fun i => if i = 29 + 17 * nn k + 5 + 4 * nn j then nI 0 else if i = 29 + 17 * nn k + 3 then F i + nI 1 else F i)
def regF (F : Fm) (k : Int32) : Int32 × Fm :=
  if ¬ iN k (cT F) then (-1, F)
  else (F 0 + F (29 + 17 * nn k + 2), putF F (29 + 17 * nn k + 4) (F 0 + F (29 + 17 * nn k + 2)))
def unregF (F : Fm) (k : Int32) : Int32 × Fm :=
  if ¬ iN k (cT F) then (-1, F)
  else if ¬ (F 0).toInt < (F (29 + 17 * nn k + 4)).toInt then (-3, F)
  else (F (29 + 17 * nn k + 4) - F 0, putF F (29 + 17 * nn k + 4) (F 0))
def lifeF (F : Fm) (l : Int32) : Int32 × Fm :=
  if ¬ (1 ≤ l.toInt ∧ l.toInt ≤ 100) then (-2, F) else (F 4, putF F 4 l)
def passF (F : Fm) (h : Int32) : Int32 × Fm :=
  if ¬ (1 ≤ h.toInt ∧ h.toInt ≤ 99) then (-2, F)
  else if 9999 < (F 0 + h).toInt then (-3, F)
  else (F 0 + h, putF F 0 (F 0 + h))
def forgetF (F : Fm) (r : Int32) : Int32 × Fm :=
  if ¬ iN r (cR F) then (-1, F) else (F (165 + 6 * nn r), putF F (165 + 6 * nn r) (nI 0))
def letterF (F : Fm) (r name flow : Int32) : Int32 × Fm :=
  if ¬ iN r (cR F) then (-1, F)
  else if ¬ (iN name 256 ∧ iN flow 100) then (-2, F)
  else sendF F (nn r) name flow
/-- the store behind a call that is recorded -/
def recS (s : St) (G F : Fm) (n : Nat) (F' : Fm) : St := setN (setK (putV s 10 0 3 (nI (recN n))) (recG G F n)) F'
def doneS (s : St) (G F : Fm) (n : Nat) (o : Int32 × Fm) : St := if o.1.toInt < 0 then setN (setK s G) F else recS s G F n o.2
section REF10
variable {L : Nat} {xs : Nat → Int32} {f i k r p q c j n B b : Nat} {x y v a z name flow place : Int32} {s : St} {F G F' : Fm} {Q : Option MV → St → Prop}
theorem recS_eq {F' : Fm} : setN (recS s G F n F) F' = recS s G F n F' := setN_setN _ _ _
theorem recS_put : putV (recS s G F n F') 20 0 i x = recS s G F n (putF F' i x) := setN_put _ _ _ _
theorem recS_now : (recS s G F n F').1 20 0 i = F' i := setN_now _ _ _
set_option maxHeartbeats 4000000 in
set_option maxRecDepth 100000 in
theorem r_isBlock (h : Q (some (.inl (bI (blkB a z)))) s) : wpM L xs codT retT (f + 3) m_X10_isBlock [.inl a, .inl z] s Q := by
  intro call hcall X hX; refine hX 1000 0 _ _ _ ?_
  repeat' (first | (intro hc) | (refine And.intro ?_ ?_) | (exact absurd nI_0 ‹cmpF 0 (nI 0) 0›) | (exact absurd ‹cmpT 0 (nI 1) 0› nI1_ne) | (exact absurd nI_0 ‹cmpT 1 (nI 0) 0›) | (exact absurd ‹cmpF 1 (nI 1) 0› nI1_ne) | (show wp _ _ _ _ _ _ _ _ _ _ _ _; conv => whnf) | (simp (disch := omega) only [nI_add, nI_mul, setN_now, setN_put, nI_cl, Nat.add_zero]) | (refine hcall _ _ _ _ ?_; first | (refine r_isName ?_) | fail))
  all_goals (clear hX hcall)
  all_goals (simp only [cmpT, cmpF, bI_eq0, bI_ne0, Classical.not_not] at *)
  all_goals first
    | exact Or.inl rfl
    | exact Or.inr rfl
    | (have hq : z = nI 1 := ‹z = nI 1›; have h0 := ‹z = 0›; rw [hq] at h0; exact absurd h0 (by decide))
    | (have hq : z = nI 2 := ‹z = nI 2›; have h0 := ‹z = 0›; rw [hq] at h0; exact absurd h0 (by decide))
    | (have hq : z = nI 4 := ‹z = nI 4›; have h0 := ‹z = 0›; rw [hq] at h0; exact absurd h0 (by decide))
    | (have hq : z = nI 8 := ‹z = nI 8›; have h0 := ‹z = 0›; rw [hq] at h0; exact absurd h0 (by decide))
    | (have hq : z = nI 16 := ‹z = nI 16›; have h0 := ‹z = 0›; rw [hq] at h0; exact absurd h0 (by decide))
    | (have hq : z = nI 32 := ‹z = nI 32›; have h0 := ‹z = 0›; rw [hq] at h0; exact absurd h0 (by decide))
    | (have hq : z = nI 64 := ‹z = nI 64›; have h0 := ‹z = 0›; rw [hq] at h0; exact absurd h0 (by decide))
    | (have hq : z = nI 128 := ‹z = nI 128›; have h0 := ‹z = 0›; rw [hq] at h0; exact absurd h0 (by decide))
    | (have hq : z = nI 256 := ‹z = nI 256›; have h0 := ‹z = 0›; rw [hq] at h0; exact absurd h0 (by decide))
    | (refine bI_1 h ⟨?_, by assumption, by assumption⟩; repeat (first | assumption | exact Or.inl (by assumption) | apply Or.inr))
    | (refine bI_0 h ?_; rintro ⟨h1, h2, h3⟩; first | contradiction | (rcases h1 with h1 | h1 | h1 | h1 | h1 | h1 | h1 | h1 | h1 <;> contradiction))
theorem anyM_s (h : anyM F v a z n = true) : ∀ m, n ≤ m → anyM F v a z m = true := by
  intro m hm
  induction m with
  | zero => rw [show n = 0 by omega] at h; exact h
  | succ m ih =>
    by_cases e : n = m + 1
    · rw [← e]; exact h
    · show (_ || _) = true
      rw [ih (by omega)]
      rfl
theorem iN_nn (h : iN v n) (hn : n < 1000) : ∃ k : Nat, v = nI k ∧ k < n := by
  obtain ⟨k, e1, e2, e3⟩ := nI_ex h.1
  exact ⟨k, e1, by have := h.2; omega⟩
theorem iN_k (h : k < n) (hn : n < 1000) : iN (nI k) n := ⟨by rw [nI_toI (by omega)]; omega, by rw [nI_toI (by omega)]; omega⟩
theorem doneS_n {o : Int32 × Fm} (h : Q (some (.inl o.1)) (doneS s G F n o)) (e : o = (v, F')) (hv : v.toInt < 0) : Q (some (.inl v)) (setN (setK s G) F) := by
  subst e
  unfold doneS at h
  rw [if_pos hv] at h
  exact h
theorem doneS_p {o : Int32 × Fm} (h : Q (some (.inl o.1)) (doneS s G F n o)) (e : o = (v, F')) (hv : 0 ≤ v.toInt) : Q (some (.inl v)) (recS s G F n F') := by
  subst e
  unfold doneS at h
  rw [if_neg (show ¬ (v, F').1.toInt < 0 by dsimp only; omega)] at h
  exact h
theorem recS_go {P : Fm} {w : Int32} (h : Q (some (.inl v)) (recS s G F n F')) (hv : w = v) (hF : P = F') : Q (some (.inl w)) (setN (setK (putV s 10 0 3 (nI (recN n))) (recG G F n)) P) := by
  subst hv
  subst hF
  exact h
theorem loopD {P : Nat → Prop} (n : Nat) (step : ∀ k, k < n → P (k + 1) → P k) (last : P n) : ∀ k, k ≤ n → P k := fun k hk => loopN n step last k hk
set_option maxHeartbeats 4000000 in
set_option maxRecDepth 100000 in
theorem r_addServer (hw : WF F B) (hn : n ≤ 5) (hs : s.1 10 0 3 = nI n) (h : Q (some (.inl (serverF F v a z).1)) (doneS s G F n (serverF F v a z))) : wpM L xs codT retT (f + 4) m_X10_addServer [.inr (10, 0), .inl v, .inl a, .inl z] (setN (setK s G) F) Q := by
  have s2 := hw.s2
  have s1 := hw.s1
  by_cases hv : iN v (cS F)
  · obtain ⟨p, hp, hpl⟩ := iN_nn hv (by omega)
    subst hp
    have en : nn (nI p) = p := nI_cl (by omega)
    by_cases hb : blkB a z ∧ holdF F p a z ∧ z.toInt < (F (5 + 3 * p + 2)).toInt
    · have e0 : serverF F (nI p) a z = if anyM F (nI p) a z (cS F) = true then (-3, F) else if cS F = 8 then (-4, F) else (nI (cS F), fun i => if i = 5 + 3 * cS F then nI p else if i = 5 + 3 * cS F + 1 then a else if i = 5 + 3 * cS F + 2 then z else if i = 1 then F 1 + nI 1 else F i) := by
        unfold serverF
        rw [if_neg (fun q => q hv), en, if_neg (fun q => q hb)]
      intro call hcall X hX; refine hX 1000 0 _ _ _ ?_
      repeat' (first | (intro hc) | (refine And.intro ?_ ?_) | (exact absurd nI_0 ‹cmpF 0 (nI 0) 0›) | (exact absurd ‹cmpT 0 (nI 1) 0› nI1_ne) | (exact absurd nI_0 ‹cmpT 1 (nI 0) 0›) | (exact absurd ‹cmpF 1 (nI 1) 0› nI1_ne) | (show wp _ _ _ _ _ _ _ _ _ _ _ _; conv => whnf) | (simp (disch := omega) only [nI_add, nI_mul, setN_now, setN_put, nI_cl, Nat.add_zero]) | (refine hcall _ _ _ _ ?_; first | (refine r_isServer hw.s1 (by omega) ?_) | (refine r_isBlock ?_) | (refine r_holds (by omega) ?_) | (refine r_sizeOf (by omega) ?_) | fail))
      all_goals (try ((try clear hX hcall); (try clear h); simp (disch := omega) only [cmpT, cmpF, bI_eq0, bI_ne0, Classical.not_not, nI_toI, setN_now, nI_cl, alen20, Int32.toInt_zero, hw.s1, hw.t1, hw.r1, nI_add, nI_mul, takeL, setL, setN_put] at *; exfalso; first | contradiction | omega | exact (by assumption : ¬ _) hb.1 | exact (by assumption : ¬ _) hb.2.1))
      have loop : ∀ j, j ≤ cS F - 1 → anyM F (nI p) a z (j + 1) = false → X 43 [.inr (10, 0), .inl (nI p), .inl a, .inl z, .inl (nI (j + 1))] [] (setN (setK s G) F) := by
        refine loopD (cS F - 1) (fun j hj ih ha => ?_) (fun ha => ?_)
        · by_cases hm : F (5 + 3 * (j + 1)) = nI p ∧ meetF F (j + 1) a z
          · have ha2 : anyM F (nI p) a z (j + 1 + 1) = true := by
              show (_ || decide _) = true
              rw [decide_eq_true (show 1 ≤ j + 1 ∧ F (5 + 3 * (j + 1)) = nI p ∧ meetF F (j + 1) a z from ⟨by omega, hm⟩), Bool.or_true]
            rw [if_pos (anyM_s ha2 (cS F) (by omega))] at e0
            obtain ⟨hm1, hm2, hm3⟩ := hm
            clear ih
            refine hX 1000 43 _ _ _ ?_
            repeat' (first | (intro hc) | (refine And.intro ?_ ?_) | (exact absurd nI_0 ‹cmpF 0 (nI 0) 0›) | (exact absurd ‹cmpT 0 (nI 1) 0› nI1_ne) | (exact absurd nI_0 ‹cmpT 1 (nI 0) 0›) | (exact absurd ‹cmpF 1 (nI 1) 0› nI1_ne) | (show wp _ _ _ _ _ _ _ _ _ _ _ _; conv => whnf) | (simp (disch := omega) only [nI_add, nI_mul, setN_now, setN_put, nI_cl, Nat.add_zero]) | (refine hcall _ _ _ _ ?_; first | (refine r_firstOf (by omega) ?_) | (refine r_sizeOf (by omega) ?_) | fail))
            all_goals first
              | exact doneS_n h e0 (by decide)
              | ((try clear hX hcall); (try clear h); simp (disch := omega) only [cmpT, cmpF, bI_eq0, bI_ne0, Classical.not_not, nI_toI, setN_now, nI_cl, alen20, Int32.toInt_zero, hw.s1, hw.t1, hw.r1, nI_add, nI_mul, takeL, setL, setN_put] at *; omega)
              | ((try clear hX hcall); (try clear h); simp (disch := omega) only [cmpT, cmpF, bI_eq0, bI_ne0, Classical.not_not, nI_toI, setN_now, nI_cl, alen20, Int32.toInt_zero, hw.s1, hw.t1, hw.r1, nI_add, nI_mul, takeL, setL, setN_put] at *; exfalso; first | contradiction | omega)
          · have ha2 : anyM F (nI p) a z (j + 1 + 1) = false := by
              show (_ || decide _) = false
              rw [ha, decide_eq_false (fun q => hm q.2)]
              rfl
            replace ih := ih ha2
            clear h
            refine hX 1000 43 _ _ _ ?_
            repeat' (first | (intro hc) | (refine And.intro ?_ ?_) | (exact absurd nI_0 ‹cmpF 0 (nI 0) 0›) | (exact absurd ‹cmpT 0 (nI 1) 0› nI1_ne) | (exact absurd nI_0 ‹cmpT 1 (nI 0) 0›) | (exact absurd ‹cmpF 1 (nI 1) 0› nI1_ne) | (show wp _ _ _ _ _ _ _ _ _ _ _ _; conv => whnf) | (simp (disch := omega) only [nI_add, nI_mul, setN_now, setN_put, nI_cl, Nat.add_zero]) | (refine hcall _ _ _ _ ?_; first | (refine r_firstOf (by omega) ?_) | (refine r_sizeOf (by omega) ?_) | fail))
            all_goals (clear e0; (try clear hX hcall); (try clear h); simp (disch := omega) only [cmpT, cmpF, bI_eq0, bI_ne0, Classical.not_not, nI_toI, setN_now, nI_cl, alen20, Int32.toInt_zero, hw.s1, hw.t1, hw.r1, nI_add, nI_mul, takeL, setL, setN_put] at *)
            all_goals first
              | exact ih
              | omega
              | (exfalso; first | contradiction | omega | exact hm ⟨by assumption, by assumption, by assumption⟩)
        · rw [show cS F - 1 + 1 = cS F by omega] at *
          rw [if_neg (by rw [ha]; decide)] at e0
          refine hX 1000 43 _ _ _ ?_
          repeat' (first | (intro hc) | (refine And.intro ?_ ?_) | (exact absurd nI_0 ‹cmpF 0 (nI 0) 0›) | (exact absurd ‹cmpT 0 (nI 1) 0› nI1_ne) | (exact absurd nI_0 ‹cmpT 1 (nI 0) 0›) | (exact absurd ‹cmpF 1 (nI 1) 0› nI1_ne) | (show wp _ _ _ _ _ _ _ _ _ _ _ _; conv => whnf) | (simp (disch := omega) only [nI_add, nI_mul, setN_now, setN_put, nI_cl, Nat.add_zero]) | (refine hcall _ _ _ _ ?_; first | (refine r_firstOf (by omega) ?_) | (refine r_sizeOf (by omega) ?_) | (refine r_records hn hs ?_) | fail))
          all_goals (try ((try clear hX hcall); (try clear h); simp (disch := omega) only [cmpT, cmpF, bI_eq0, bI_ne0, Classical.not_not, nI_toI, setN_now, nI_cl, alen20, Int32.toInt_zero, hw.s1, hw.t1, hw.r1, nI_add, nI_mul, takeL, setL, setN_put] at *; (try simp (disch := omega) only [nI_inj, nI_sub] at *); omega))
          · have hq : F 1 = nI 8 := ‹cmpF 1 (F 1) (nI 8)›
            rw [hw.s1, nI_inj (by omega) (by omega)] at hq
            rw [if_pos hq] at e0
            exact doneS_n h e0 (by decide)
          · have hq : ¬ F 1 = nI 8 := ‹cmpT 1 (F 1) (nI 8)›
            rw [hw.s1, nI_inj (by omega) (by omega)] at hq
            rw [if_neg hq] at e0
            refine recS_go (doneS_p h e0 (by rw [nI_toI (by omega)]; omega)) ?_ ?_
            · simp (disch := omega) only [hw.s1, hw.t1, hw.r1, nI_mul, nI_add, nI_sub, nI_cl, putF_at, putF_ne, Nat.add_sub_cancel]
            · funext i
              simp (disch := omega) only [hw.s1, hw.t1, hw.r1, nI_mul, nI_add, nI_sub, nI_cl, putF_at, putF_ne, Nat.add_sub_cancel]
              simp only [putF]
              (repeat' split) <;> first | rfl | omega | (exfalso; omega) | (congr 1; omega)
      simp only [takeL, setL]
      exact loop 0 (by omega) rfl
    · have e : serverF F (nI p) a z = (-2, F) := by
        unfold serverF
        rw [if_neg (fun q => q hv), en, if_pos hb]
      intro call hcall X hX; refine hX 1000 0 _ _ _ ?_
      repeat' (first | (intro hc) | (refine And.intro ?_ ?_) | (exact absurd nI_0 ‹cmpF 0 (nI 0) 0›) | (exact absurd ‹cmpT 0 (nI 1) 0› nI1_ne) | (exact absurd nI_0 ‹cmpT 1 (nI 0) 0›) | (exact absurd ‹cmpF 1 (nI 1) 0› nI1_ne) | (show wp _ _ _ _ _ _ _ _ _ _ _ _; conv => whnf) | (simp (disch := omega) only [nI_add, nI_mul, setN_now, setN_put, nI_cl, Nat.add_zero]) | (refine hcall _ _ _ _ ?_; first | (refine r_isServer hw.s1 (by omega) ?_) | (refine r_isBlock ?_) | (refine r_holds (by omega) ?_) | (refine r_sizeOf (by omega) ?_) | fail))
      all_goals first
        | exact doneS_n h e (by decide)
        | ((try clear hX hcall); (try clear h); simp (disch := omega) only [cmpT, cmpF, bI_eq0, bI_ne0, Classical.not_not, nI_toI, setN_now, nI_cl, alen20, Int32.toInt_zero, hw.s1, hw.t1, hw.r1, nI_add, nI_mul, takeL, setL, setN_put] at *; exfalso; first | contradiction | omega | (exact hb ⟨by assumption, by assumption, by assumption⟩))
  · have e : serverF F v a z = (-1, F) := by unfold serverF; rw [if_pos hv]
    intro call hcall X hX; refine hX 1000 0 _ _ _ ?_
    repeat' (first | (intro hc) | (refine And.intro ?_ ?_) | (exact absurd nI_0 ‹cmpF 0 (nI 0) 0›) | (exact absurd ‹cmpT 0 (nI 1) 0› nI1_ne) | (exact absurd nI_0 ‹cmpT 1 (nI 0) 0›) | (exact absurd ‹cmpF 1 (nI 1) 0› nI1_ne) | (show wp _ _ _ _ _ _ _ _ _ _ _ _; conv => whnf) | (simp (disch := omega) only [nI_add, nI_mul, setN_now, setN_put, nI_cl, Nat.add_zero]) | (refine hcall _ _ _ _ ?_; first | (refine r_isServer hw.s1 (by omega) ?_) | fail))
    all_goals first
      | exact doneS_n h e (by decide)
      | exact absurd (bI_ne0.mp ‹cmpT 1 (bI _) 0›) hv
end REF10
