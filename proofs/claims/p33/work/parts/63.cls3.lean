/-! THE CLASS: slots, sites, worlds, read -/
section CLS3
variable {L : Nat} {xs : Nat → Int32} {f i k r p q c j n B b w m sd : Nat} {x y v a z l lo v0 v1 name flow place : Int32} {s : St} {F G F' u : Fm} {Q : Option MV → St → Prop}
theorem pl_ne (hs : ∀ j, j < 3 → slotOk F (b + 4 * j)) (hf : 0 ≤ flow.toInt) (hp : 0 ≤ place.toInt) : noI (choF F b flow) = place ↔ choF F b flow = place := by
  rcases choF_cases (b := b) hs hf with h | h
  · rw [h.2, noI_5]
    constructor
    · intro e; rw [← e] at hp; exact absurd hp (by decide)
    · intro e; rw [← e] at hp; exact absurd hp (by decide)
  · obtain ⟨j, hj, h1, h2⟩ := h.2
    rw [h2, noI_0 (slot_pl (hs j hj) h1).1]
set_option maxHeartbeats 4000000 in
set_option maxRecDepth 100000 in
theorem c_propertyOf (cr : cellsRep s sd F b) (hs : ∀ j, j < 3 → slotOk F (b + 4 * j)) (hk : k < 3) (h : Q (some (.inl (if ¬ iN a 3 then -2 else if F (b + 4 * k) = nI 1 then F (b + 4 * k + 1 + nn a) else -5))) s) : wpM L xs codT retT (f + 2) m_X7_propertyOf [.inr (7, sd), .inl (nI k), .inl a] s Q := by
  by_cases hb : iN a 3
  · obtain ⟨j, rfl, hj⟩ := iN_nn hb (by omega)
    rw [if_neg (fun q => q hb), show nn (nI j) = j from nI_cl (by omega)] at h
    by_cases hf : F (b + 4 * k) = nI 1
    · rw [if_pos hf] at h
      have c1 := cell_1 cr hk hf
      have ec : s.1 15 sd (k * 3 + j) = F (b + 4 * k + 1 + j) := by
        have hj3 : j = 0 ∨ j = 1 ∨ j = 2 := by omega
        rcases hj3 with t | t | t <;> subst t
        · exact c1.1
        · exact c1.2.1
        · exact c1.2.2
      intro call hcall X hX; refine hX 1000 0 _ _ _ ?_
      repeat' (first | (intro hc) | (refine And.intro ?_ ?_) | (exact absurd nI_0 ‹cmpF 0 (nI 0) 0›) | (exact absurd ‹cmpT 0 (nI 1) 0› nI1_ne) | (exact absurd nI_0 ‹cmpT 1 (nI 0) 0›) | (exact absurd ‹cmpF 1 (nI 1) 0› nI1_ne) | (show wp _ _ _ _ _ _ _ _ _ _ _ _; conv => whnf) | (simp (disch := omega) only [nI_add, nI_mul, setN_now, setN_put, nI_cl, Nat.add_zero]) | (refine hcall _ _ _ _ ?_; first | (refine c_isEmpty cr hs hk ?_) | fail))
      all_goals first
        | (exfalso; exact bT (n01 hf) (by assumption))
        | (simp (disch := omega) only [nI_mul, nI_add, nI_cl, ec]; exact h)
        | ((try clear hX hcall); (try clear h); (try simp (disch := omega) only [cmpT, cmpF, bI_eq0, bI_ne0, Classical.not_not, nI_toI, nI_cl, nI_inj, nI_add, nI_mul, nI_subI, takeL, setL, Int32.toInt_zero, Nat.add_zero, Nat.zero_mul, Nat.zero_add, alen11, alen12, alen13, alen14, alen15, alen16, alen17, alen18, alen19] at *); omega)
    · rw [if_neg hf] at h
      have hf0 : F (b + 4 * k) = nI 0 := (hs k hk).1.resolve_right hf
      intro call hcall X hX; refine hX 1000 0 _ _ _ ?_
      repeat' (first | (intro hc) | (refine And.intro ?_ ?_) | (exact absurd nI_0 ‹cmpF 0 (nI 0) 0›) | (exact absurd ‹cmpT 0 (nI 1) 0› nI1_ne) | (exact absurd nI_0 ‹cmpT 1 (nI 0) 0›) | (exact absurd ‹cmpF 1 (nI 1) 0› nI1_ne) | (show wp _ _ _ _ _ _ _ _ _ _ _ _; conv => whnf) | (simp (disch := omega) only [nI_add, nI_mul, setN_now, setN_put, nI_cl, Nat.add_zero]) | (refine hcall _ _ _ _ ?_; first | (refine c_isEmpty cr hs hk ?_) | fail))
      all_goals first
        | exact h
        | (exfalso; exact bF hf0 (by assumption))
        | ((try clear hX hcall); (try clear h); (try simp (disch := omega) only [cmpT, cmpF, bI_eq0, bI_ne0, Classical.not_not, nI_toI, nI_cl, nI_inj, nI_add, nI_mul, nI_subI, takeL, setL, Int32.toInt_zero, Nat.add_zero, Nat.zero_mul, Nat.zero_add, alen11, alen12, alen13, alen14, alen15, alen16, alen17, alen18, alen19] at *); omega)
  · rw [if_pos hb] at h
    intro call hcall X hX; refine hX 1000 0 _ _ _ ?_
    repeat' (first | (intro hc) | (refine And.intro ?_ ?_) | (exact absurd nI_0 ‹cmpF 0 (nI 0) 0›) | (exact absurd ‹cmpT 0 (nI 1) 0› nI1_ne) | (exact absurd nI_0 ‹cmpT 1 (nI 0) 0›) | (exact absurd ‹cmpF 1 (nI 1) 0› nI1_ne) | (show wp _ _ _ _ _ _ _ _ _ _ _ _; conv => whnf))
    all_goals first
      | exact h
      | ((try clear hX hcall); (try clear h); (try simp (disch := omega) only [cmpT, cmpF, bI_eq0, bI_ne0, Classical.not_not, nI_toI, nI_cl, nI_inj, nI_add, nI_mul, nI_subI, takeL, setL, Int32.toInt_zero, Nat.add_zero, Nat.zero_mul, Nat.zero_add, alen11, alen12, alen13, alen14, alen15, alen16, alen17, alen18, alen19] at *); omega)
set_option maxHeartbeats 4000000 in
set_option maxRecDepth 100000 in
theorem c_isRegistered (e4 : s.1 6 i 4 = v0) (h : Q (some (.inl (bI (v.toInt < v0.toInt)))) s) : wpM L xs codT retT (f + 1) m_X6_isRegistered [.inr (6, i), .inl v] s Q := by
  subst e4
  intro call hcall X hX; refine hX 1000 0 _ _ _ ?_
  repeat' (first | (intro hc) | (refine And.intro ?_ ?_) | (exact absurd nI_0 ‹cmpF 0 (nI 0) 0›) | (exact absurd ‹cmpT 0 (nI 1) 0› nI1_ne) | (exact absurd nI_0 ‹cmpT 1 (nI 0) 0›) | (exact absurd ‹cmpF 1 (nI 1) 0› nI1_ne) | (show wp _ _ _ _ _ _ _ _ _ _ _ _; conv => whnf))
  all_goals first
    | exact Or.inl rfl
    | exact Or.inr rfl
    | (refine bI_1 h ?_; clear h; (try clear hX hcall); (try clear h); (try simp (disch := omega) only [cmpT, cmpF, bI_eq0, bI_ne0, Classical.not_not, nI_toI, nI_cl, nI_inj, nI_add, nI_mul, nI_subI, takeL, setL, Int32.toInt_zero, Nat.add_zero, Nat.zero_mul, Nat.zero_add, alen11, alen12, alen13, alen14, alen15, alen16, alen17, alen18, alen19] at *); omega)
    | (refine bI_0 h ?_; clear h; (try clear hX hcall); (try clear h); (try simp (disch := omega) only [cmpT, cmpF, bI_eq0, bI_ne0, Classical.not_not, nI_toI, nI_cl, nI_inj, nI_add, nI_mul, nI_subI, takeL, setL, Int32.toInt_zero, Nat.add_zero, Nat.zero_mul, Nat.zero_add, alen11, alen12, alen13, alen14, alen15, alen16, alen17, alen18, alen19] at *); omega)
set_option maxHeartbeats 4000000 in
set_option maxRecDepth 100000 in
theorem c_isUp (e4 : s.1 6 i 4 = v0) (cr : cellsRep s i F b) (hs : ∀ j, j < 3 → slotOk F (b + 4 * j)) (h : Q (some (.inl (bI (v.toInt < v0.toInt ∧ (F b = nI 1 ∨ F (b + 4) = nI 1 ∨ F (b + 8) = nI 1))))) s) : wpM L xs codT retT (f + 2) m_X6_isUp [.inr (6, i), .inl v] s Q := by
  intro call hcall X hX; refine hX 1000 0 _ _ _ ?_
  repeat' (first | (intro hc) | (refine And.intro ?_ ?_) | (exact absurd nI_0 ‹cmpF 0 (nI 0) 0›) | (exact absurd ‹cmpT 0 (nI 1) 0› nI1_ne) | (exact absurd nI_0 ‹cmpT 1 (nI 0) 0›) | (exact absurd ‹cmpF 1 (nI 1) 0› nI1_ne) | (show wp _ _ _ _ _ _ _ _ _ _ _ _; conv => whnf) | (simp (disch := omega) only [nI_add, nI_mul, setN_now, setN_put, nI_cl, Nat.add_zero]) | (refine hcall _ _ _ _ ?_; first | (refine c_isRegistered e4 ?_) | (refine c_areEmpty cr hs ?_) | fail))
  all_goals first
    | exact Or.inl rfl
    | exact Or.inr rfl
    | exact bI_01 _
    | (refine bI_1 h ?_; clear h hX hcall; simp only [cmpT, cmpF, bI_eq0, bI_ne0, Classical.not_not] at *; exact ⟨by assumption, by assumption⟩)
    | (refine bI_0 h ?_; clear h hX hcall; simp only [cmpT, cmpF, bI_eq0, bI_ne0, Classical.not_not] at *; rintro ⟨q1, q2⟩; contradiction)
set_option maxHeartbeats 4000000 in
set_option maxRecDepth 100000 in
theorem c_isServer (e : s.1 8 w 3 = nI n) (h8 : n ≤ 8) (h : Q (some (.inl (bI (iN v n)))) s) : wpM L xs codT retT (f + 1) m_X8_isServer [.inr (8, w), .inl v] s Q := by
  intro call hcall X hX; refine hX 1000 0 _ _ _ ?_
  repeat' (first | (intro hc) | (refine And.intro ?_ ?_) | (exact absurd nI_0 ‹cmpF 0 (nI 0) 0›) | (exact absurd ‹cmpT 0 (nI 1) 0› nI1_ne) | (exact absurd nI_0 ‹cmpT 1 (nI 0) 0›) | (exact absurd ‹cmpF 1 (nI 1) 0› nI1_ne) | (show wp _ _ _ _ _ _ _ _ _ _ _ _; conv => whnf))
  all_goals first
    | exact Or.inl rfl
    | exact Or.inr rfl
    | (refine bI_1 h ?_; clear h; (try clear hX hcall); (try clear h); (try simp (disch := omega) only [cmpT, cmpF, bI_eq0, bI_ne0, Classical.not_not, nI_toI, nI_cl, nI_inj, nI_add, nI_mul, nI_subI, takeL, setL, Int32.toInt_zero, Nat.add_zero, setN_now, alen20, alen11, alen12, alen13, alen14, alen15, alen16, alen17, alen18, alen19, (id e)] at *); omega)
    | (refine bI_0 h ?_; clear h; (try clear hX hcall); (try clear h); (try simp (disch := omega) only [cmpT, cmpF, bI_eq0, bI_ne0, Classical.not_not, nI_toI, nI_cl, nI_inj, nI_add, nI_mul, nI_subI, takeL, setL, Int32.toInt_zero, Nat.add_zero, setN_now, alen20, alen11, alen12, alen13, alen14, alen15, alen16, alen17, alen18, alen19, (id e)] at *); omega)
set_option maxHeartbeats 4000000 in
set_option maxRecDepth 100000 in
theorem c_isSite (e : s.1 8 w 4 = nI n) (h8 : n ≤ 8) (h : Q (some (.inl (bI (iN v n)))) s) : wpM L xs codT retT (f + 1) m_X8_isSite [.inr (8, w), .inl v] s Q := by
  intro call hcall X hX; refine hX 1000 0 _ _ _ ?_
  repeat' (first | (intro hc) | (refine And.intro ?_ ?_) | (exact absurd nI_0 ‹cmpF 0 (nI 0) 0›) | (exact absurd ‹cmpT 0 (nI 1) 0› nI1_ne) | (exact absurd nI_0 ‹cmpT 1 (nI 0) 0›) | (exact absurd ‹cmpF 1 (nI 1) 0› nI1_ne) | (show wp _ _ _ _ _ _ _ _ _ _ _ _; conv => whnf))
  all_goals first
    | exact Or.inl rfl
    | exact Or.inr rfl
    | (refine bI_1 h ?_; clear h; (try clear hX hcall); (try clear h); (try simp (disch := omega) only [cmpT, cmpF, bI_eq0, bI_ne0, Classical.not_not, nI_toI, nI_cl, nI_inj, nI_add, nI_mul, nI_subI, takeL, setL, Int32.toInt_zero, Nat.add_zero, setN_now, alen20, alen11, alen12, alen13, alen14, alen15, alen16, alen17, alen18, alen19, (id e)] at *); omega)
    | (refine bI_0 h ?_; clear h; (try clear hX hcall); (try clear h); (try simp (disch := omega) only [cmpT, cmpF, bI_eq0, bI_ne0, Classical.not_not, nI_toI, nI_cl, nI_inj, nI_add, nI_mul, nI_subI, takeL, setL, Int32.toInt_zero, Nat.add_zero, setN_now, alen20, alen11, alen12, alen13, alen14, alen15, alen16, alen17, alen18, alen19, (id e)] at *); omega)
set_option maxHeartbeats 4000000 in
set_option maxRecDepth 100000 in
theorem c_isRouter (e : s.1 8 w 5 = nI n) (h8 : n ≤ 4) (h : Q (some (.inl (bI (iN v n)))) s) : wpM L xs codT retT (f + 1) m_X8_isRouter [.inr (8, w), .inl v] s Q := by
  intro call hcall X hX; refine hX 1000 0 _ _ _ ?_
  repeat' (first | (intro hc) | (refine And.intro ?_ ?_) | (exact absurd nI_0 ‹cmpF 0 (nI 0) 0›) | (exact absurd ‹cmpT 0 (nI 1) 0› nI1_ne) | (exact absurd nI_0 ‹cmpT 1 (nI 0) 0›) | (exact absurd ‹cmpF 1 (nI 1) 0› nI1_ne) | (show wp _ _ _ _ _ _ _ _ _ _ _ _; conv => whnf))
  all_goals first
    | exact Or.inl rfl
    | exact Or.inr rfl
    | (refine bI_1 h ?_; clear h; (try clear hX hcall); (try clear h); (try simp (disch := omega) only [cmpT, cmpF, bI_eq0, bI_ne0, Classical.not_not, nI_toI, nI_cl, nI_inj, nI_add, nI_mul, nI_subI, takeL, setL, Int32.toInt_zero, Nat.add_zero, setN_now, alen20, alen11, alen12, alen13, alen14, alen15, alen16, alen17, alen18, alen19, (id e)] at *); omega)
    | (refine bI_0 h ?_; clear h; (try clear hX hcall); (try clear h); (try simp (disch := omega) only [cmpT, cmpF, bI_eq0, bI_ne0, Classical.not_not, nI_toI, nI_cl, nI_inj, nI_add, nI_mul, nI_subI, takeL, setL, Int32.toInt_zero, Nat.add_zero, setN_now, alen20, alen11, alen12, alen13, alen14, alen15, alen16, alen17, alen18, alen19, (id e)] at *); omega)
set_option maxHeartbeats 4000000 in
set_option maxRecDepth 100000 in
theorem c_homeOf (hw : WF F B) (hR : RepW s w F) (h : Q (some (.inl (nI (homeF F a z)))) s) : wpM L xs codT retT (f + 2) m_X8_homeOf [.inr (8, w), .inl a, .inl z] s Q := by
  have s2 := hw.s2
  have e1 : s.1 8 w 3 = nI (cS F) := hR.s1.trans hw.s1
  intro call hcall X hX; refine hX 1000 0 _ _ _ ?_
  repeat' (first | (intro hc) | (refine And.intro ?_ ?_) | (exact absurd nI_0 ‹cmpF 0 (nI 0) 0›) | (exact absurd ‹cmpT 0 (nI 1) 0› nI1_ne) | (exact absurd nI_0 ‹cmpT 1 (nI 0) 0›) | (exact absurd ‹cmpF 1 (nI 1) 0› nI1_ne) | (show wp _ _ _ _ _ _ _ _ _ _ _ _; conv => whnf))
  simp only [takeL, setL]
  have loop : ∀ j, j ≤ cS F - 1 → X 5 [.inr (8, w), .inl a, .inl z, .inl (nI (homeN F a z j)), .inl (nI (j + 1))] [] s := by
    refine loopD (cS F - 1) (fun j hj ih => ?_) ?_
    · clear h
      have hle := homeN_le (F := F) (a := a) (z := z) j
      obtain ⟨r0, r1, r2⟩ := hR.server (k := j + 1) (by omega)
      obtain ⟨h0, h1, h2⟩ := hR.server (k := homeN F a z j) (by omega)
      have ih2 : X 5 [.inr (8, w), .inl a, .inl z, .inl (nI (if holdF F (j + 1) a z ∧ (F (5 + 3 * (j + 1) + 2)).toInt < (F (5 + 3 * homeN F a z j + 2)).toInt then j + 1 else homeN F a z j)), .inl (nI (j + 1 + 1))] [] s := ih
      clear ih
      generalize homeN F a z j = m at *
      refine hX 1000 5 _ _ _ ?_
      repeat' (first | (intro hc) | (refine And.intro ?_ ?_) | (exact absurd nI_0 ‹cmpF 0 (nI 0) 0›) | (exact absurd ‹cmpT 0 (nI 1) 0› nI1_ne) | (exact absurd nI_0 ‹cmpT 1 (nI 0) 0›) | (exact absurd ‹cmpF 1 (nI 1) 0› nI1_ne) | (show wp _ _ _ _ _ _ _ _ _ _ _ _; conv => whnf) | (simp (disch := omega) only [nI_cl]) | (simp (disch := omega) only [nI_add, nI_mul, setN_now, setN_put, nI_cl, Nat.add_zero]) | (refine hcall _ _ _ _ ?_; first | (refine c_holds r1 r2 ?_) | fail))
      all_goals first
        | (clear ih2; (try clear hX hcall); (try clear h); (try simp (disch := omega) only [cmpT, cmpF, bI_eq0, bI_ne0, Classical.not_not, nI_toI, nI_cl, nI_inj, nI_add, nI_mul, nI_subI, takeL, setL, Int32.toInt_zero, Nat.add_zero, setN_now, alen20, alen11, alen12, alen13, alen14, alen15, alen16, alen17, alen18, alen19, (id e1)] at *); omega)
        | (have hh : holdF F (j + 1) a z ∧ (F (5 + 3 * (j + 1) + 2)).toInt < (F (5 + 3 * m + 2)).toInt := ⟨bI_ne0.mp (by assumption), by clear ih2; (try clear hX hcall); (try clear h); (try simp (disch := omega) only [cmpT, cmpF, bI_eq0, bI_ne0, Classical.not_not, nI_toI, nI_cl, nI_inj, nI_add, nI_mul, nI_subI, takeL, setL, Int32.toInt_zero, Nat.add_zero, setN_now, alen20, alen11, alen12, alen13, alen14, alen15, alen16, alen17, alen18, alen19, (id r2), (id h2)] at *); omega⟩; rw [if_pos hh] at ih2; simp only [takeL, setL, nI_add]; exact ih2)
        | (have hh : ¬ (holdF F (j + 1) a z ∧ (F (5 + 3 * (j + 1) + 2)).toInt < (F (5 + 3 * m + 2)).toInt) := (by rintro ⟨q1, q2⟩; first | exact bF q1 (by assumption) | (clear ih2; (try clear hX hcall); (try clear h); (try simp (disch := omega) only [cmpT, cmpF, bI_eq0, bI_ne0, Classical.not_not, nI_toI, nI_cl, nI_inj, nI_add, nI_mul, nI_subI, takeL, setL, Int32.toInt_zero, Nat.add_zero, setN_now, alen20, alen11, alen12, alen13, alen14, alen15, alen16, alen17, alen18, alen19, (id r2), (id h2)] at *); omega)); rw [if_neg hh] at ih2; simp only [takeL, setL, nI_add]; exact ih2)
    · refine hX 1000 5 _ _ _ ?_
      repeat' (first | (intro hc) | (refine And.intro ?_ ?_) | (exact absurd nI_0 ‹cmpF 0 (nI 0) 0›) | (exact absurd ‹cmpT 0 (nI 1) 0› nI1_ne) | (exact absurd nI_0 ‹cmpT 1 (nI 0) 0›) | (exact absurd ‹cmpF 1 (nI 1) 0› nI1_ne) | (show wp _ _ _ _ _ _ _ _ _ _ _ _; conv => whnf))
      all_goals first
        | exact h
        | ((try clear hX hcall); (try clear h); (try simp (disch := omega) only [cmpT, cmpF, bI_eq0, bI_ne0, Classical.not_not, nI_toI, nI_cl, nI_inj, nI_add, nI_mul, nI_subI, takeL, setL, Int32.toInt_zero, Nat.add_zero, setN_now, alen20, alen11, alen12, alen13, alen14, alen15, alen16, alen17, alen18, alen19, (id e1)] at *); omega)
  exact loop 0 (by omega)
set_option maxHeartbeats 4000000 in
set_option maxRecDepth 100000 in
theorem c_homeOfSite (hw : WF F B) (hR : RepW s w F) (hk : k < cT F) (h : Q (some (.inl (nI (homeF F (F (29 + 17 * k)) (F (29 + 17 * k + 1)))))) s) : wpM L xs codT retT (f + 3) m_X8_homeOfSite [.inr (8, w), .inl (nI k)] s Q := by
  have t2 := hw.t2
  have e2 : s.1 8 w 4 = nI (cT F) := hR.t1.trans hw.t1
  obtain ⟨r0, r1, -⟩ := hR.site hk
  have hk2 := iN_k hk (by omega)
  rw [← r0, ← r1] at h
  intro call hcall X hX; refine hX 1000 0 _ _ _ ?_
  repeat' (first | (intro hc) | (refine And.intro ?_ ?_) | (exact absurd nI_0 ‹cmpF 0 (nI 0) 0›) | (exact absurd ‹cmpT 0 (nI 1) 0› nI1_ne) | (exact absurd nI_0 ‹cmpT 1 (nI 0) 0›) | (exact absurd ‹cmpF 1 (nI 1) 0› nI1_ne) | (show wp _ _ _ _ _ _ _ _ _ _ _ _; conv => whnf) | (simp (disch := omega) only [nI_cl]) | (simp (disch := omega) only [nI_add, nI_mul, setN_now, setN_put, nI_cl, Nat.add_zero]) | (refine hcall _ _ _ _ ?_; first | (refine c_isSite e2 t2 ?_) | (refine c_homeOf hw hR ?_) | fail))
  all_goals first
    | exact h
    | (exfalso; exact bF hk2 (by assumption))
    | (clear hk2; (try clear hX hcall); (try clear h); (try simp (disch := omega) only [cmpT, cmpF, bI_eq0, bI_ne0, Classical.not_not, nI_toI, nI_cl, nI_inj, nI_add, nI_mul, nI_subI, takeL, setL, Int32.toInt_zero, Nat.add_zero, Nat.zero_mul, Nat.zero_add, alen11, alen12, alen13, alen14, alen15, alen16, alen17, alen18, alen19] at *); omega)
set_option maxHeartbeats 4000000 in
set_option maxRecDepth 100000 in
theorem c_hopsTo (hw : WF F B) (hR : RepW s w F) (hk : k < cS F) (h : Q (some (.inl (nI (wayF F k)))) s) : wpM L xs codT retT (f + 2) m_X8_hopsTo [.inr (8, w), .inl (nI k)] s Q := by
  have s2 := hw.s2
  have e1 : s.1 8 w 3 = nI (cS F) := hR.s1.trans hw.s1
  have hl := wayF_le hw k hk
  intro call hcall X hX; refine hX 1000 0 _ _ _ ?_
  repeat' (first | (intro hc) | (refine And.intro ?_ ?_) | (exact absurd nI_0 ‹cmpF 0 (nI 0) 0›) | (exact absurd ‹cmpT 0 (nI 1) 0› nI1_ne) | (exact absurd nI_0 ‹cmpT 1 (nI 0) 0›) | (exact absurd ‹cmpF 1 (nI 1) 0› nI1_ne) | (show wp _ _ _ _ _ _ _ _ _ _ _ _; conv => whnf))
  simp only [takeL, setL]
  have loop : ∀ j c, j < cS F → c + wayF F j = wayF F k → X 4 [.inr (8, w), .inl (nI k), .inl (nI c), .inl (nI j)] [] s := by
    intro j
    induction j using Nat.strongRecOn with
    | ind j ih =>
      intro c hj cr
      have hlj := wayF_le hw j hj
      have hj2 := iN_k hj (by omega)
      obtain ⟨r0, -, -⟩ := hR.server hj
      by_cases h0 : j = 0
      · subst h0
        rw [wayF_0] at cr
        have ep : F (5 + 3 * 0) = -5 := (hw.server hj).2.1 rfl
        have ep2 : s.1 5 (8 * w + 0) 1 = -5 := r0.trans ep
        have hc1 : c + 1 = wayF F k := by omega
        have last : X 4 [.inr (8, w), .inl (nI k), .inl (nI (c + 1)), .inl (-5)] [] s := by
          have h5 : ¬ iN (-5) (cS F) := fun q => by have := q.1; exact absurd this (by decide)
          rw [hc1]
          refine hX 1000 4 _ _ _ ?_
          repeat' (first | (intro hc) | (refine And.intro ?_ ?_) | (exact absurd nI_0 ‹cmpF 0 (nI 0) 0›) | (exact absurd ‹cmpT 0 (nI 1) 0› nI1_ne) | (exact absurd nI_0 ‹cmpT 1 (nI 0) 0›) | (exact absurd ‹cmpF 1 (nI 1) 0› nI1_ne) | (show wp _ _ _ _ _ _ _ _ _ _ _ _; conv => whnf) | (simp (disch := omega) only [nI_add, nI_mul, setN_now, setN_put, nI_cl, Nat.add_zero]) | (refine hcall _ _ _ _ ?_; first | (refine c_isServer e1 s2.2 ?_) | fail))
          all_goals first
            | exact h
            | (exfalso; exact h5 (bI_ne0.mp (by assumption)))
        clear h ih
        refine hX 1000 4 _ _ _ ?_
        repeat' (first | (intro hc) | (refine And.intro ?_ ?_) | (exact absurd nI_0 ‹cmpF 0 (nI 0) 0›) | (exact absurd ‹cmpT 0 (nI 1) 0› nI1_ne) | (exact absurd nI_0 ‹cmpT 1 (nI 0) 0›) | (exact absurd ‹cmpF 1 (nI 1) 0› nI1_ne) | (show wp _ _ _ _ _ _ _ _ _ _ _ _; conv => whnf) | (simp (disch := omega) only [nI_cl]) | (simp (disch := omega) only [nI_add, nI_mul, setN_now, setN_put, nI_cl, Nat.add_zero]) | (refine hcall _ _ _ _ ?_; first | (refine c_isServer e1 s2.2 ?_) | fail))
        all_goals first
          | (exfalso; exact bF hj2 (by assumption))
          | (simp (disch := omega) only [takeL, setL, nI_add, nI_cl]; (first | rw [ep2] | rw [show s.1 5 (8 * w) 1 = -5 from ep2]); exact last)
          | (clear hX hcall last; simp (disch := omega) only [nI_toI, alen11]; omega)
          | (clear hj2; (try clear hX hcall); (try clear h); (try simp (disch := omega) only [cmpT, cmpF, bI_eq0, bI_ne0, Classical.not_not, nI_toI, nI_cl, nI_inj, nI_add, nI_mul, nI_subI, takeL, setL, Int32.toInt_zero, Nat.add_zero, Nat.zero_mul, Nat.zero_add, alen11, alen12, alen13, alen14, alen15, alen16, alen17, alen18, alen19] at *); omega)
      · obtain ⟨p, h4, h5⟩ := hw.par j (by omega) hj
        have e := wayF_s hw (by omega) hj h5 h4
        have ih := ih p h4 (c + 1) (by omega) (by omega)
        clear h
        refine hX 1000 4 _ _ _ ?_
        repeat' (first | (intro hc) | (refine And.intro ?_ ?_) | (exact absurd nI_0 ‹cmpF 0 (nI 0) 0›) | (exact absurd ‹cmpT 0 (nI 1) 0› nI1_ne) | (exact absurd nI_0 ‹cmpT 1 (nI 0) 0›) | (exact absurd ‹cmpF 1 (nI 1) 0› nI1_ne) | (show wp _ _ _ _ _ _ _ _ _ _ _ _; conv => whnf) | (simp (disch := omega) only [nI_cl]) | (simp (disch := omega) only [nI_add, nI_mul, setN_now, setN_put, nI_cl, Nat.add_zero]) | (refine hcall _ _ _ _ ?_; first | (refine c_isServer e1 s2.2 ?_) | fail))
        all_goals first
          | (exfalso; exact bF hj2 (by assumption))
          | (simp (disch := omega) only [takeL, setL, nI_add, nI_cl]; rw [r0, h5]; exact ih)
          | (clear hj2; (try clear hX hcall); (try clear h); (try simp (disch := omega) only [cmpT, cmpF, bI_eq0, bI_ne0, Classical.not_not, nI_toI, nI_cl, nI_inj, nI_add, nI_mul, nI_subI, takeL, setL, Int32.toInt_zero, Nat.add_zero, Nat.zero_mul, Nat.zero_add, alen11, alen12, alen13, alen14, alen15, alen16, alen17, alen18, alen19] at *); omega)
  exact loop k 0 hk (by omega)
end CLS3
