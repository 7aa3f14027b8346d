/-! THE REFERENCE: asks, takes, sends -/
def flK (F : Fm) (r k j : Nat) : Fm := fun i => if i = 165 + 6 * r then F i + nI 1 else if i = mA r 0 then nI k else if i = mA r 0 + 1 then F (29 + 17 * k + 3) else if i = mA r 0 + 2 then F 0 + F 4 else if i = mA r 0 + 3 then nI 0 else if mA r 0 + 4 ≤ i ∧ i < mA r 0 + 4 + j then F (29 + 17 * k + 5 + (i - (mA r 0 + 4))) else F i
section REF7
variable {L : Nat} {xs : Nat → Int32} {f i k r p q c j n B b : Nat} {x y v a z name flow place : Int32} {s : St} {F G : Fm} {Q : Option MV → St → Prop}
theorem flK_0 (hr : r < 4) (hk : k < 8) : putF (putF (putF (putF (putF F (165 + 6 * r) (F (165 + 6 * r) + nI 1)) (mA r 0) (nI k)) (mA r 0 + 1) (F (29 + 17 * k + 3))) (mA r 0 + 2) (F 0 + F 4)) (mA r 0 + 3) (nI 0) = flK F r k 0 := by
  have hm := mA_eq r 0
  funext i
  simp only [putF, flK]
  (repeat' split) <;> first | rfl | omega | (exfalso; omega) | (subst_vars; rfl)
theorem flK_s (hr : r < 4) (hk : k < 8) (hj : j < 12) : putF (flK F r k j) (mA r 0 + 4 + j) (flK F r k j (29 + 17 * k + (5 + j))) = flK F r k (j + 1) := by
  have hm := mA_eq r 0
  have e : flK F r k j (29 + 17 * k + (5 + j)) = F (29 + 17 * k + 5 + j) := by
    simp only [flK]
    rw [if_neg (by omega), if_neg (by omega), if_neg (by omega), if_neg (by omega), if_neg (by omega), if_neg (by omega)]
    congr 1
    omega
  rw [e]
  funext i
  simp only [putF, flK]
  (repeat' split) <;> first | rfl | omega | (exfalso; omega) | (congr 1; omega)
theorem flK_e : flK F r k 12 = fillF F r k := by
  funext i
  simp only [flK, fillF]
theorem r_answerOfE {o : Option Nat} (hw : WF F B) (ho : ansF F name = o) (h : Q (some (.inl (optI o (-5)))) (setN s F)) : wpM L xs codT retT (f + 5) m_X10_answerOf [.inr (10, 0), .inl name] (setN s F) Q := r_answerOf hw (by rw [ho]; exact h)
theorem ansF_lt (h : ansF F name = some b) : b < cT F := ansN_lt _ _ h
set_option maxHeartbeats 4000000 in
set_option maxRecDepth 100000 in
theorem r_asks (hw : WF F B) (hr : r < cR F) (h : Q (some (.inl (bI ((asksF F r name).1 = true)))) (setN s (asksF F r name).2)) : wpM L xs codT retT (f + 6) m_X10_asks [.inr (10, 0), .inl (nI r), .inl name] (setN s F) Q := by
  have h4 := hw.r2
  have hr4 : r < 4 := by omega
  have hw1 : WF (putF F (165 + 6 * r + 1) (F (165 + 6 * r + 1) + nI 1)) B := WF_cnt hw hr4 (fun i hi => putF_ne _ _ (by omega))
  have hwA := WF_asked (name := name) hw hr4
  have hrA : r < cR (askedF F r name) := by unfold cR; rw [asked_o (by omega) (by omega)]; exact hr
  cases ho : ansF (askedF F r name) name with
  | none =>
    have e : asksF F r name = (false, askedF F r name) := by unfold asksF; rw [ho]
    rw [e] at h
    intro call hcall X hX; refine hX 1000 0 _ _ _ ?_
    repeat' (first | (intro hc) | (refine And.intro ?_ ?_) | (exact absurd nI_0 ‹cmpF 0 (nI 0) 0›) | (exact absurd ‹cmpT 0 (nI 1) 0› nI1_ne) | (exact absurd nI_0 ‹cmpT 1 (nI 0) 0›) | (exact absurd ‹cmpF 1 (nI 1) 0› nI1_ne) | (show wp _ _ _ _ _ _ _ _ _ _ _ _; conv => whnf) | (rw [asked_put hw hr4]) | (simp (disch := omega) only [nI_add, nI_mul, setN_now, setN_put, nI_cl, Nat.add_zero]) | (refine hcall _ _ _ _ ?_; first | (refine r_routerAt ?_) | (refine r_homeOf hw1 ?_) | (refine r_wayTo hw1 (homeF_ltS hw1) ?_) | (refine r_answerOfE hwA ho ?_) | fail))
    all_goals (try (clear hX hcall; (try clear h); simp (disch := omega) only [cmpT, cmpF, nI_toI, nI_subI, nI_sub, alen20, alen21, nI_add, nI_mul, setN_now, nI_cl, Int32.toInt_zero] at *; omega))
    all_goals first
      | exact absurd rfl ‹cmpT 1 (optI none (-5)) (-5)›
      | decide
      | exact bI_0 h (by simp)
  | some k =>
    have e : asksF F r name = (true, newF (askedF F r name) r k) := by unfold asksF; rw [ho]
    rw [e, newF_eq] at h
    have hk := ansF_lt ho
    have ht := hwA.t2
    obtain ⟨g1, g2, g3, g4⟩ := cut_ok (k := k) hwA hrA
    obtain ⟨p1, p2, p3⟩ := purge_le (k := k) (cM (askedF F r name) r) _ (Nat.le_refl _) hwA hrA
    have pR : r < cR (purgeF r k (cM (askedF F r name) r) (askedF F r name)) := by unfold cR; rw [p3 3 (by omega)]; exact hrA
    have gR : r < cR (cutF (askedF F r name) r k) := by unfold cR; rw [g3 3 (by omega)]; exact hrA
    have hcut : cutF (askedF F r name) r k = if cM (purgeF r k (cM (askedF F r name) r) (askedF F r name)) r = 5 then dropsF (purgeF r k (cM (askedF F r name) r) (askedF F r name)) r 4 else purgeF r k (cM (askedF F r name) r) (askedF F r name) := rfl
    generalize hG : askedF F r name = G at *
    generalize hP : purgeF r k (cM G r) G = P at *
    generalize hC : cutF G r k = C at *
    have wG := hwA.router hrA
    have wP := p1.router pR
    have wC := g1.router gR
    have m0 := mA_eq r 0
    intro call hcall X hX; refine hX 1000 0 _ _ _ ?_
    repeat' (first | (intro hc) | (refine And.intro ?_ ?_) | (exact absurd nI_0 ‹cmpF 0 (nI 0) 0›) | (exact absurd ‹cmpT 0 (nI 1) 0› nI1_ne) | (exact absurd nI_0 ‹cmpT 1 (nI 0) 0›) | (exact absurd ‹cmpF 1 (nI 1) 0› nI1_ne) | (show wp _ _ _ _ _ _ _ _ _ _ _ _; conv => whnf) | (rw [asked_put hw hr4, hG]) | (simp (disch := omega) only [nI_add, nI_mul, setN_now, setN_put, nI_cl, Nat.add_zero]) | (refine hcall _ _ _ _ ?_; first | (refine r_routerAt ?_) | (refine r_homeOf hw1 ?_) | (refine r_wayTo hw1 (homeF_ltS hw1) ?_) | (refine r_answerOfE hwA ho ?_) | (refine r_mapsOf hr4 ?_) | fail))
    all_goals (try (clear hX hcall; (try clear h); simp (disch := omega) only [cmpT, cmpF, nI_toI, nI_subI, nI_sub, alen20, alen21, nI_add, nI_mul, setN_now, nI_cl, Int32.toInt_zero] at *; omega))
    · exact absurd ‹cmpF 1 (optI (some k) (-5)) (-5)› (nI_n5 (by omega))
    · exact absurd ‹cmpF 1 (optI (some k) (-5)) (-5)› (nI_n5 (by omega))
    have wc5 := wC.2.1
    have tail : ∀ y, X 107 [.inr (10, 0), .inl (nI r), .inl name, .inl (nI k), .inl y] [] (setN s C) := by
      intro y
      have er : ∀ i, i < 189 → roomF C r (cM C r) i = C i := fun i hi => by
        have h1 := mA_eq r 1
        simp only [roomF]
        rw [if_neg (by omega)]
      refine hX 1000 107 _ _ _ ?_
      repeat' (first | (intro hc) | (refine And.intro ?_ ?_) | (exact absurd nI_0 ‹cmpF 0 (nI 0) 0›) | (exact absurd ‹cmpT 0 (nI 1) 0› nI1_ne) | (exact absurd nI_0 ‹cmpT 1 (nI 0) 0›) | (exact absurd ‹cmpF 1 (nI 1) 0› nI1_ne) | (show wp _ _ _ _ _ _ _ _ _ _ _ _; conv => whnf) | (rw [wC.1]) | (simp (disch := omega) only [nI_add, nI_mul, setN_now, setN_put, nI_cl, Nat.add_zero]) | (refine hcall _ _ _ _ ?_; first | (refine r_mapsOf hr4 ?_) | (refine r_makesRoom hr4 g2 ?_) | (refine r_routerAt ?_) | (refine r_mapAt ?_) | (refine r_ofSite (by omega) ?_) | fail))
      all_goals (try (clear hX hcall; (try clear h); simp (disch := omega) only [cmpT, cmpF, nI_toI, nI_subI, nI_sub, alen20, alen21, nI_add, nI_mul, setN_now, nI_cl, Int32.toInt_zero] at *; omega))
      simp (disch := omega) only [takeL, setL, putF_ne, pushW]
      rw [flK_0 hr4 (by omega)]
      refine loopN (P := fun j => X 199 [.inr (10, 0), .inl (nI r), .inl name, .inl (nI k), .inl (nI (mA r 0)), .inl (nI j)] [] (setN s (flK (roomF C r (cM C r)) r k j))) 12 (fun j hj ih => ?_) ?_ 0 (by omega)
      · clear h
        refine hX 1000 199 _ _ _ ?_
        repeat' (first | (intro hc) | (refine And.intro ?_ ?_) | (exact absurd nI_0 ‹cmpF 0 (nI 0) 0›) | (exact absurd ‹cmpT 0 (nI 1) 0› nI1_ne) | (exact absurd nI_0 ‹cmpT 1 (nI 0) 0›) | (exact absurd ‹cmpF 1 (nI 1) 0› nI1_ne) | (show wp _ _ _ _ _ _ _ _ _ _ _ _; conv => whnf) | (simp (disch := omega) only [nI_add, nI_mul, setN_now, setN_put, nI_cl, Nat.add_zero]) | (refine hcall _ _ _ _ ?_; first | (refine r_ofSite (by omega) ?_) | fail))
        all_goals (clear hX hcall)
        all_goals (simp (disch := omega) only [cmpT, cmpF, nI_toI, alen20, setN_now, setN_put, nI_cl, takeL, setL, nI_add] at *)
        all_goals first
          | omega
          | (rw [flK_s hr4 (by omega) (by omega)]; exact ih)
      · refine hX 1000 199 _ _ _ ?_
        repeat' (first | (intro hc) | (refine And.intro ?_ ?_) | (exact absurd nI_0 ‹cmpF 0 (nI 0) 0›) | (exact absurd ‹cmpT 0 (nI 1) 0› nI1_ne) | (exact absurd nI_0 ‹cmpT 1 (nI 0) 0›) | (exact absurd ‹cmpF 1 (nI 1) 0› nI1_ne) | (show wp _ _ _ _ _ _ _ _ _ _ _ _; conv => whnf) | (simp (disch := omega) only [nI_add, nI_mul, setN_now, setN_put, nI_cl, Nat.add_zero]) | (refine hcall _ _ _ _ ?_; first | (refine r_ofSite (by omega) ?_) | fail))
        all_goals (try (clear hX hcall; (try clear h); simp (disch := omega) only [cmpT, cmpF, nI_toI, nI_subI, nI_sub, alen20, alen21, nI_add, nI_mul, setN_now, nI_cl, Int32.toInt_zero] at *; omega))
        all_goals first
          | decide
          | (rw [flK_e]; exact bI_1 h rfl)
          | (exfalso; simp (disch := omega) only [cmpT, cmpF, nI_toI] at *; omega)
    have loop : ∀ n F', n ≤ cM F' r → WF F' B → r < cR F' → purgeF r k n F' = P → X 62 [.inr (10, 0), .inl (nI r), .inl name, .inl (nI k), .inl (nI n - nI 1)] [] (setN s F') := by
      clear h
      intro n
      induction n with
      | zero =>
        intro F' _ hw' hr' hF
        have hF : F' = P := hF
        subst hF
        have w6 := wP.2.1
        by_cases h5 : cM F' r = 5
        · rw [if_pos h5] at hcut
          have w5 := wP.1
          rw [h5] at w5
          refine hX 1000 62 _ _ _ ?_
          repeat' (first | (intro hc) | (refine And.intro ?_ ?_) | (exact absurd nI_0 ‹cmpF 0 (nI 0) 0›) | (exact absurd ‹cmpT 0 (nI 1) 0› nI1_ne) | (exact absurd nI_0 ‹cmpT 1 (nI 0) 0›) | (exact absurd ‹cmpF 1 (nI 1) 0› nI1_ne) | (show wp _ _ _ _ _ _ _ _ _ _ _ _; conv => whnf) | (simp (disch := omega) only [nI_add, nI_mul, setN_now, setN_put, nI_cl, Nat.add_zero]) | (refine hcall _ _ _ _ ?_; first | (refine r_mapsOf hr4 ?_) | (refine r_drops hr4 wP.1 wP.2.1 (by omega) ?_) | fail))
          all_goals (try (clear hX hcall; (try clear h); simp (disch := omega) only [cmpT, cmpF, nI_toI, nI_subI, nI_sub, alen20, alen21, nI_add, nI_mul, setN_now, nI_cl, Int32.toInt_zero] at *; omega))
          all_goals first
            | (rw [← hcut]; exact tail _)
            | exact absurd w5 ‹cmpT 1 (F' (165 + 6 * r)) (nI 5)›
        · rw [if_neg h5] at hcut
          have w5 : ¬ F' (165 + 6 * r) = nI 5 := fun q => h5 (by rw [wP.1, nI_inj (by omega) (by omega)] at q; exact q)
          refine hX 1000 62 _ _ _ ?_
          repeat' (first | (intro hc) | (refine And.intro ?_ ?_) | (exact absurd nI_0 ‹cmpF 0 (nI 0) 0›) | (exact absurd ‹cmpT 0 (nI 1) 0› nI1_ne) | (exact absurd nI_0 ‹cmpT 1 (nI 0) 0›) | (exact absurd ‹cmpF 1 (nI 1) 0› nI1_ne) | (show wp _ _ _ _ _ _ _ _ _ _ _ _; conv => whnf) | (simp (disch := omega) only [nI_add, nI_mul, setN_now, setN_put, nI_cl, Nat.add_zero]) | (refine hcall _ _ _ _ ?_; first | (refine r_mapsOf hr4 ?_) | fail))
          all_goals (try (clear hX hcall; (try clear h); simp (disch := omega) only [cmpT, cmpF, nI_toI, nI_subI, nI_sub, alen20, alen21, nI_add, nI_mul, setN_now, nI_cl, Int32.toInt_zero] at *; omega))
          all_goals first
            | (rw [← hcut]; exact tail _)
            | exact absurd ‹cmpF 1 (F' (165 + 6 * r)) (nI 5)› w5
      | succ n ih =>
        intro F' hn hw' hr' hF
        have wF := hw'.router hr'
        have wF5 := wF.2.1
        have mn := mA_eq r n
        have hF : purgeF r k n (if F' (mA r n) = nI k then dropsF F' r n else F') = P := hF
        refine hX 1000 62 _ _ _ ?_
        repeat' (first | (intro hc) | (refine And.intro ?_ ?_) | (exact absurd nI_0 ‹cmpF 0 (nI 0) 0›) | (exact absurd ‹cmpT 0 (nI 1) 0› nI1_ne) | (exact absurd nI_0 ‹cmpT 1 (nI 0) 0›) | (exact absurd ‹cmpF 1 (nI 1) 0› nI1_ne) | (show wp _ _ _ _ _ _ _ _ _ _ _ _; conv => whnf) | (simp (disch := omega) only [nI_sub, Nat.add_sub_cancel]) | (simp (disch := omega) only [nI_add, nI_mul, setN_now, setN_put, nI_cl, Nat.add_zero]) | (refine hcall _ _ _ _ ?_; first | (refine r_ofMap (by omega) ?_) | (refine r_drops hr4 wF.1 wF5 (by omega) ?_) | fail))
        all_goals (try (clear hX hcall; (try clear h); simp (disch := omega) only [cmpT, cmpF, nI_toI, nI_subI, nI_sub, alen20, alen21, nI_add, nI_mul, setN_now, nI_cl, Int32.toInt_zero] at *; omega))
        · have hq : F' (mA r n) = nI k := ‹cmpF 1 (F' (mA r n + 0)) (nI k)›
          rw [if_pos hq] at hF
          have hd := drops_c (p := n) wF (by omega)
          simp (disch := omega) only [takeL, setL, nI_dec, nI_sub, Nat.add_sub_cancel]
          exact ih (dropsF F' r n) (by omega) (WF_drop hw' hr' (by omega)) (by unfold cR; rw [drops_lo (by omega)]; exact hr') hF
        · have hq : ¬ F' (mA r n) = nI k := ‹cmpT 1 (F' (mA r n + 0)) (nI k)›
          rw [if_neg hq] at hF
          simp (disch := omega) only [takeL, setL, nI_dec, nI_sub, Nat.add_sub_cancel]
          exact ih F' (by omega) hw' hr' hF
    have e3 : G (165 + 6 * r) - nI 1 = nI (cM G r) - nI 1 := by rw [wG.1]
    simp only [takeL, setL, e3]
    exact loop (cM G r) G (Nat.le_refl _) hwA hrA hP
theorem takeN_lt : ∀ n b, takeN F r name n = some b → b < n
  | 0, b, h => by cases h
  | n + 1, b, h => by
    unfold takeN at h
    split at h
    · cases h; exact Nat.lt_succ_self _
    · exact Nat.lt_succ_of_lt (takeN_lt n b h)
theorem end_ok : ∀ n F, n ≤ cM F r → WF F B → r < cR F → WF (endF r n F) B ∧ (∀ i, i < 165 → endF r n F i = F i) ∧ cM (endF r n F) r ≤ cM F r := by
  intro n
  induction n with
  | zero => intro F _ hw hr; exact ⟨hw, fun _ _ => rfl, Nat.le_refl _⟩
  | succ n ih =>
    intro F hn hw hr
    have h4 := hw.r2
    unfold endF
    by_cases h : (F (mA r n + 2)).toInt ≤ (F 0).toInt
    · rw [if_pos h]
      have w := WF_drop hw hr (p := n) (by omega)
      obtain ⟨e1, e2⟩ := drops_c (p := n) (hw.router hr) (by omega)
      have e3 : cR (dropsF F r n) = cR F := by unfold cR; rw [drops_lo (by omega)]
      obtain ⟨g1, g2, g3⟩ := ih (dropsF F r n) (by omega) w (by omega)
      exact ⟨g1, fun i hi => by rw [g2 i hi, drops_lo hi], by omega⟩
    · rw [if_neg h]
      exact ih F (by omega) hw hr
def tkS (F : Fm) (r : Nat) (o : Option Nat) : Int32 := match o with
  | none => nI 257
  | some b => F (29 + 17 * nn (F (mA r b)) + 1)
theorem takeN_s (n : Nat) : takeN F r name (n + 1) = if hasF F (nn (F (mA r n))) name ∧ (F (29 + 17 * nn (F (mA r n)) + 1)).toInt < (tkS F r (takeN F r name n)).toInt then some n else takeN F r name n := by
  rw [takeN]
  unfold tkB tkS
  cases takeN F r name n with
  | none => simp only [decide_eq_true_eq]; rfl
  | some b => simp only [decide_eq_true_eq]
set_option maxHeartbeats 4000000 in
set_option maxRecDepth 100000 in
theorem r_takes (hw : WF F B) (hr : r < cR F) (h : Q (some (.inl (optI (takeN (endF r (cM F r) F) r name (cM (endF r (cM F r) F) r)) (-5)))) (setN s (endF r (cM F r) F))) : wpM L xs codT retT (f + 4) m_X10_takes [.inr (10, 0), .inl (nI r), .inl name] (setN s F) Q := by
  have h4 := hw.r2
  have hr4 : r < 4 := by omega
  have wF := hw.router hr
  obtain ⟨p1, p2, p3⟩ := end_ok (cM F r) F (Nat.le_refl _) hw hr
  have pR : r < cR (endF r (cM F r) F) := by unfold cR; rw [p2 3 (by omega)]; exact hr
  generalize hG : endF r (cM F r) F = G at *
  have wG := p1.router pR
  have wG5 := wG.2.1
  have wF5 := wF.2.1
  have gT := p1.t2
  intro call hcall X hX; refine hX 1000 0 _ _ _ ?_
  repeat' (first | (intro hc) | (refine And.intro ?_ ?_) | (exact absurd nI_0 ‹cmpF 0 (nI 0) 0›) | (exact absurd ‹cmpT 0 (nI 1) 0› nI1_ne) | (exact absurd nI_0 ‹cmpT 1 (nI 0) 0›) | (exact absurd ‹cmpF 1 (nI 1) 0› nI1_ne) | (show wp _ _ _ _ _ _ _ _ _ _ _ _; conv => whnf) | (simp (disch := omega) only [nI_add, nI_mul, setN_now, setN_put, nI_cl, Nat.add_zero]) | (refine hcall _ _ _ _ ?_; first | (refine r_mapsOf hr4 ?_) | fail))
  all_goals (try (clear hX hcall; (try clear h); simp (disch := omega) only [cmpT, cmpF, nI_toI, nI_subI, nI_sub, alen20, alen21, nI_add, nI_mul, setN_now, nI_cl, Int32.toInt_zero] at *; omega))
  simp only [takeL, setL, wF.1]
  have loop : ∀ n F', n ≤ cM F' r → WF F' B → r < cR F' → endF r n F' = G → X 8 [.inr (10, 0), .inl (nI r), .inl name, .inl (nI n - nI 1)] [] (setN s F') := by
    intro n
    induction n with
    | zero =>
      intro F' _ hw' hr' hF
      have hF : F' = G := hF
      subst hF
      refine hX 1000 8 _ _ _ ?_
      repeat' (first | (intro hc) | (refine And.intro ?_ ?_) | (exact absurd nI_0 ‹cmpF 0 (nI 0) 0›) | (exact absurd ‹cmpT 0 (nI 1) 0› nI1_ne) | (exact absurd nI_0 ‹cmpT 1 (nI 0) 0›) | (exact absurd ‹cmpF 1 (nI 1) 0› nI1_ne) | (show wp _ _ _ _ _ _ _ _ _ _ _ _; conv => whnf) | (simp (disch := omega) only [nI_add, nI_mul, setN_now, setN_put, nI_cl, Nat.add_zero]) | (refine hcall _ _ _ _ ?_; first | (refine r_mapsOf hr4 ?_) | fail))
      all_goals (try (clear hX hcall; (try clear h); simp (disch := omega) only [cmpT, cmpF, nI_toI, nI_subI, nI_sub, alen20, alen21, nI_add, nI_mul, setN_now, nI_cl, Int32.toInt_zero] at *; omega))
      simp only [takeL, setL]
      refine loopN (P := fun k => X 51 [.inr (10, 0), .inl (nI r), .inl name, .inl (optI (takeN F' r name k) (-5)), .inl (tkS F' r (takeN F' r name k)), .inl (nI k)] [] (setN s F')) (cM F' r) (fun k hk ih => ?_) ?_ 0 (Nat.zero_le _)
      · clear h
        have mk := mA_eq r k
        obtain ⟨w1, w2, -, -⟩ := wG.2.2.1 k hk
        generalize ht : nn (F' (mA r k)) = t at *
        have w1' : F' (mA r k + 0) = nI t := w1
        refine hX 1000 51 _ _ _ ?_
        rw [takeN_s, ht] at ih
        generalize takeN F' r name k = o at *
        repeat' (first | (intro hc) | (refine And.intro ?_ ?_) | (exact absurd nI_0 ‹cmpF 0 (nI 0) 0›) | (exact absurd ‹cmpT 0 (nI 1) 0› nI1_ne) | (exact absurd nI_0 ‹cmpT 1 (nI 0) 0›) | (exact absurd ‹cmpF 1 (nI 1) 0› nI1_ne) | (show wp _ _ _ _ _ _ _ _ _ _ _ _; conv => whnf) | (rw [w1']) | (simp (disch := omega) only [nI_add, nI_mul, setN_now, setN_put, nI_cl, Nat.add_zero]) | (refine hcall _ _ _ _ ?_; first | (refine r_mapsOf hr4 ?_) | (refine r_ofMap (by omega) ?_) | (refine r_has (by omega) ?_) | (refine r_ofSite (by omega) ?_) | fail))
        all_goals (clear hX hcall)
        all_goals (simp (disch := omega) only [cmpT, cmpF, nI_toI, setN_now, nI_cl, alen20, wG.1, bI_eq0, bI_ne0, Classical.not_not, takeL, setL, nI_add] at *)
        all_goals first
          | omega
          | (have hh : hasF F' t name ∧ (F' (29 + 17 * t + 1)).toInt < (tkS F' r o).toInt := ⟨by assumption, by omega⟩; rw [if_pos hh] at ih; simp only [optI, tkS, ht] at ih; exact ih)
          | (rw [if_neg (by rintro ⟨h1, h2⟩; first | contradiction | omega)] at ih; exact ih)
      · refine hX 1000 51 _ _ _ ?_
        repeat' (first | (intro hc) | (refine And.intro ?_ ?_) | (exact absurd nI_0 ‹cmpF 0 (nI 0) 0›) | (exact absurd ‹cmpT 0 (nI 1) 0› nI1_ne) | (exact absurd nI_0 ‹cmpT 1 (nI 0) 0›) | (exact absurd ‹cmpF 1 (nI 1) 0› nI1_ne) | (show wp _ _ _ _ _ _ _ _ _ _ _ _; conv => whnf) | (simp (disch := omega) only [nI_add, nI_mul, setN_now, setN_put, nI_cl, Nat.add_zero]) | (refine hcall _ _ _ _ ?_; first | (refine r_mapsOf hr4 ?_) | fail))
        all_goals (try (clear hX hcall; (try clear h); simp (disch := omega) only [cmpT, cmpF, nI_toI, nI_subI, nI_sub, alen20, alen21, nI_add, nI_mul, setN_now, nI_cl, Int32.toInt_zero] at *; omega))
        all_goals first
          | exact h
          | (exfalso; clear h hX hcall; simp (disch := omega) only [cmpT, cmpF, nI_toI, wG.1] at *; omega)
    | succ n ih =>
      intro F' hn hw' hr' hF
      have wF' := hw'.router hr'
      have wF5' := wF'.2.1
      have mn := mA_eq r n
      have hF : endF r n (if (F' (mA r n + 2)).toInt ≤ (F' 0).toInt then dropsF F' r n else F') = G := hF
      refine hX 1000 8 _ _ _ ?_
      repeat' (first | (intro hc) | (refine And.intro ?_ ?_) | (exact absurd nI_0 ‹cmpF 0 (nI 0) 0›) | (exact absurd ‹cmpT 0 (nI 1) 0› nI1_ne) | (exact absurd nI_0 ‹cmpT 1 (nI 0) 0›) | (exact absurd ‹cmpF 1 (nI 1) 0› nI1_ne) | (show wp _ _ _ _ _ _ _ _ _ _ _ _; conv => whnf) | (simp (disch := omega) only [nI_sub, Nat.add_sub_cancel]) | (simp (disch := omega) only [nI_add, nI_mul, setN_now, setN_put, nI_cl, Nat.add_zero]) | (refine hcall _ _ _ _ ?_; first | (refine r_ofMap (by omega) ?_) | (refine r_drops hr4 wF'.1 wF5' (by omega) ?_) | fail))
      all_goals (try (clear hX hcall; (try clear h); simp (disch := omega) only [cmpT, cmpF, nI_toI, nI_subI, nI_sub, alen20, alen21, nI_add, nI_mul, setN_now, nI_cl, Int32.toInt_zero] at *; omega))
      · have hq : (F' (mA r n + 2)).toInt ≤ (F' 0).toInt := by
          have h9 := ‹cmpF 4 (F' (mA r n + 2)) ((setN s F').fst 20 0 (nI 0).toNatClampNeg)›
          rw [setN_now] at h9
          exact h9
        rw [if_pos hq] at hF
        have hd := drops_c (p := n) wF' (by omega)
        simp (disch := omega) only [takeL, setL, nI_dec]
        exact ih (dropsF F' r n) (by omega) (WF_drop hw' hr' (by omega)) (by unfold cR; rw [drops_lo (by omega)]; exact hr') hF
      · have hq : ¬ (F' (mA r n + 2)).toInt ≤ (F' 0).toInt := by
          have h9 := ‹cmpT 4 (F' (mA r n + 2)) ((setN s F').fst 20 0 (nI 0).toNatClampNeg)›
          rw [setN_now] at h9
          exact Int.not_le.mpr h9
        rw [if_neg hq] at hF
        simp (disch := omega) only [takeL, setL, nI_dec]
        exact ih F' (by omega) hw' hr' hF
  exact loop (cM F r) F (Nat.le_refl _) hw hr hG
end REF7
