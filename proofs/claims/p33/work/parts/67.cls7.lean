/-! THE CLASS: looking, as it is called -/
def totA (F : Fm) (n m : Int32) (v : Int32) : Int32 := if v = nI 11 then n else if v = nI 12 then m else if iN v 14 then totW F (nn v) else -2
section CLS7
variable {L : Nat} {xs : Nat → Int32} {f i k r p q c j n B b w m sd : Nat} {x y v a z l lo v0 v1 name flow place which : Int32} {s : St} {F G F' u : Fm} {Q : Option MV → St → Prop} {P : Nat → Bool}
set_option maxHeartbeats 4000000 in
set_option maxRecDepth 100000 in
theorem c_sSlot (h : Q (some (.inl (bI (iN v 3)))) s) : wpM L xs codT retT (f + 1) m_X9_isSlot [.inl v] s Q := by
  intro call hcall X hX; refine hX 1000 0 _ _ _ ?_
  repeat' (first | (intro hc) | (refine And.intro ?_ ?_) | (exact absurd nI_0 ‹cmpF 0 (nI 0) 0›) | (exact absurd ‹cmpT 0 (nI 1) 0› nI1_ne) | (exact absurd nI_0 ‹cmpT 1 (nI 0) 0›) | (exact absurd ‹cmpF 1 (nI 1) 0› nI1_ne) | (show wp _ _ _ _ _ _ _ _ _ _ _ _; conv => whnf))
  all_goals first
    | exact Or.inl rfl
    | exact Or.inr rfl
    | (refine bI_1 h ?_; clear h; (try clear hX hcall); (try clear h); (try simp (disch := omega) only [cmpT, cmpF, bI_eq0, bI_ne0, Classical.not_not, nI_toI, nI_cl, nI_inj, nI_add, nI_mul, nI_subI, takeL, setL, Int32.toInt_zero, Nat.add_zero, Nat.zero_mul, Nat.zero_add, alen11, alen12, alen13, alen14, alen15, alen16, alen17, alen18, alen19] at *); omega)
    | (refine bI_0 h ?_; clear h; (try clear hX hcall); (try clear h); (try simp (disch := omega) only [cmpT, cmpF, bI_eq0, bI_ne0, Classical.not_not, nI_toI, nI_cl, nI_inj, nI_add, nI_mul, nI_subI, takeL, setL, Int32.toInt_zero, Nat.add_zero, Nat.zero_mul, Nat.zero_add, alen11, alen12, alen13, alen14, alen15, alen16, alen17, alen18, alen19] at *); omega)
set_option maxHeartbeats 4000000 in
set_option maxRecDepth 100000 in
theorem c_sName (h : Q (some (.inl (bI (iN v 256)))) s) : wpM L xs codT retT (f + 1) m_X9_isName [.inl v] s Q := by
  intro call hcall X hX; refine hX 1000 0 _ _ _ ?_
  repeat' (first | (intro hc) | (refine And.intro ?_ ?_) | (exact absurd nI_0 ‹cmpF 0 (nI 0) 0›) | (exact absurd ‹cmpT 0 (nI 1) 0› nI1_ne) | (exact absurd nI_0 ‹cmpT 1 (nI 0) 0›) | (exact absurd ‹cmpF 1 (nI 1) 0› nI1_ne) | (show wp _ _ _ _ _ _ _ _ _ _ _ _; conv => whnf))
  all_goals first
    | exact Or.inl rfl
    | exact Or.inr rfl
    | (refine bI_1 h ?_; clear h; (try clear hX hcall); (try clear h); (try simp (disch := omega) only [cmpT, cmpF, bI_eq0, bI_ne0, Classical.not_not, nI_toI, nI_cl, nI_inj, nI_add, nI_mul, nI_subI, takeL, setL, Int32.toInt_zero, Nat.add_zero, Nat.zero_mul, Nat.zero_add, alen11, alen12, alen13, alen14, alen15, alen16, alen17, alen18, alen19] at *); omega)
    | (refine bI_0 h ?_; clear h; (try clear hX hcall); (try clear h); (try simp (disch := omega) only [cmpT, cmpF, bI_eq0, bI_ne0, Classical.not_not, nI_toI, nI_cl, nI_inj, nI_add, nI_mul, nI_subI, takeL, setL, Int32.toInt_zero, Nat.add_zero, Nat.zero_mul, Nat.zero_add, alen11, alen12, alen13, alen14, alen15, alen16, alen17, alen18, alen19] at *); omega)
set_option maxHeartbeats 4000000 in
set_option maxRecDepth 100000 in
theorem c_sFlow (h : Q (some (.inl (bI (iN v 100)))) s) : wpM L xs codT retT (f + 1) m_X9_isFlow [.inl v] s Q := by
  intro call hcall X hX; refine hX 1000 0 _ _ _ ?_
  repeat' (first | (intro hc) | (refine And.intro ?_ ?_) | (exact absurd nI_0 ‹cmpF 0 (nI 0) 0›) | (exact absurd ‹cmpT 0 (nI 1) 0› nI1_ne) | (exact absurd nI_0 ‹cmpT 1 (nI 0) 0›) | (exact absurd ‹cmpF 1 (nI 1) 0› nI1_ne) | (show wp _ _ _ _ _ _ _ _ _ _ _ _; conv => whnf))
  all_goals first
    | exact Or.inl rfl
    | exact Or.inr rfl
    | (refine bI_1 h ?_; clear h; (try clear hX hcall); (try clear h); (try simp (disch := omega) only [cmpT, cmpF, bI_eq0, bI_ne0, Classical.not_not, nI_toI, nI_cl, nI_inj, nI_add, nI_mul, nI_subI, takeL, setL, Int32.toInt_zero, Nat.add_zero, Nat.zero_mul, Nat.zero_add, alen11, alen12, alen13, alen14, alen15, alen16, alen17, alen18, alen19] at *); omega)
    | (refine bI_0 h ?_; clear h; (try clear hX hcall); (try clear h); (try simp (disch := omega) only [cmpT, cmpF, bI_eq0, bI_ne0, Classical.not_not, nI_toI, nI_cl, nI_inj, nI_add, nI_mul, nI_subI, takeL, setL, Int32.toInt_zero, Nat.add_zero, Nat.zero_mul, Nat.zero_add, alen11, alen12, alen13, alen14, alen15, alen16, alen17, alen18, alen19] at *); omega)
set_option maxHeartbeats 4000000 in
set_option maxRecDepth 100000 in
theorem c_sPlace (h : Q (some (.inl (bI (iN v 32)))) s) : wpM L xs codT retT (f + 1) m_X9_isPlaceOfSlot [.inl v] s Q := by
  intro call hcall X hX; refine hX 1000 0 _ _ _ ?_
  repeat' (first | (intro hc) | (refine And.intro ?_ ?_) | (exact absurd nI_0 ‹cmpF 0 (nI 0) 0›) | (exact absurd ‹cmpT 0 (nI 1) 0› nI1_ne) | (exact absurd nI_0 ‹cmpT 1 (nI 0) 0›) | (exact absurd ‹cmpF 1 (nI 1) 0› nI1_ne) | (show wp _ _ _ _ _ _ _ _ _ _ _ _; conv => whnf))
  all_goals first
    | exact Or.inl rfl
    | exact Or.inr rfl
    | (refine bI_1 h ?_; clear h; (try clear hX hcall); (try clear h); (try simp (disch := omega) only [cmpT, cmpF, bI_eq0, bI_ne0, Classical.not_not, nI_toI, nI_cl, nI_inj, nI_add, nI_mul, nI_subI, takeL, setL, Int32.toInt_zero, Nat.add_zero, Nat.zero_mul, Nat.zero_add, alen11, alen12, alen13, alen14, alen15, alen16, alen17, alen18, alen19] at *); omega)
    | (refine bI_0 h ?_; clear h; (try clear hX hcall); (try clear h); (try simp (disch := omega) only [cmpT, cmpF, bI_eq0, bI_ne0, Classical.not_not, nI_toI, nI_cl, nI_inj, nI_add, nI_mul, nI_subI, takeL, setL, Int32.toInt_zero, Nat.add_zero, Nat.zero_mul, Nat.zero_add, alen11, alen12, alen13, alen14, alen15, alen16, alen17, alen18, alen19] at *); omega)
set_option maxHeartbeats 4000000 in
set_option maxRecDepth 100000 in
theorem c_sSave (h : Q (some (.inl (bI (iN v 2)))) s) : wpM L xs codT retT (f + 1) m_X9_isSave [.inl v] s Q := by
  intro call hcall X hX; refine hX 1000 0 _ _ _ ?_
  repeat' (first | (intro hc) | (refine And.intro ?_ ?_) | (exact absurd nI_0 ‹cmpF 0 (nI 0) 0›) | (exact absurd ‹cmpT 0 (nI 1) 0› nI1_ne) | (exact absurd nI_0 ‹cmpT 1 (nI 0) 0›) | (exact absurd ‹cmpF 1 (nI 1) 0› nI1_ne) | (show wp _ _ _ _ _ _ _ _ _ _ _ _; conv => whnf))
  all_goals first
    | exact Or.inl rfl
    | exact Or.inr rfl
    | (refine bI_1 h ?_; clear h; (try clear hX hcall); (try clear h); (try simp (disch := omega) only [cmpT, cmpF, bI_eq0, bI_ne0, Classical.not_not, nI_toI, nI_cl, nI_inj, nI_add, nI_mul, nI_subI, takeL, setL, Int32.toInt_zero, Nat.add_zero, Nat.zero_mul, Nat.zero_add, alen11, alen12, alen13, alen14, alen15, alen16, alen17, alen18, alen19] at *); omega)
    | (refine bI_0 h ?_; clear h; (try clear hX hcall); (try clear h); (try simp (disch := omega) only [cmpT, cmpF, bI_eq0, bI_ne0, Classical.not_not, nI_toI, nI_cl, nI_inj, nI_add, nI_mul, nI_subI, takeL, setL, Int32.toInt_zero, Nat.add_zero, Nat.zero_mul, Nat.zero_add, alen11, alen12, alen13, alen14, alen15, alen16, alen17, alen18, alen19] at *); omega)
set_option maxHeartbeats 4000000 in
set_option maxRecDepth 100000 in
theorem c_isPlace (e : s.1 4 i 1 = nI n) (h5 : n ≤ 5) (h : Q (some (.inl (bI (iN v n)))) s) : wpM L xs codT retT (f + 1) m_X4_isPlace [.inr (4, i), .inl v] s Q := by
  intro call hcall X hX; refine hX 1000 0 _ _ _ ?_
  repeat' (first | (intro hc) | (refine And.intro ?_ ?_) | (exact absurd nI_0 ‹cmpF 0 (nI 0) 0›) | (exact absurd ‹cmpT 0 (nI 1) 0› nI1_ne) | (exact absurd nI_0 ‹cmpT 1 (nI 0) 0›) | (exact absurd ‹cmpF 1 (nI 1) 0› nI1_ne) | (show wp _ _ _ _ _ _ _ _ _ _ _ _; conv => whnf))
  all_goals first
    | exact Or.inl rfl
    | exact Or.inr rfl
    | (refine bI_1 h ?_; clear h; (try clear hX hcall); (try clear h); (try simp (disch := omega) only [cmpT, cmpF, bI_eq0, bI_ne0, Classical.not_not, nI_toI, nI_cl, nI_inj, nI_add, nI_mul, nI_subI, takeL, setL, Int32.toInt_zero, Nat.add_zero, setN_now, alen20, alen11, alen12, alen13, alen14, alen15, alen16, alen17, alen18, alen19, (id e)] at *); omega)
    | (refine bI_0 h ?_; clear h; (try clear hX hcall); (try clear h); (try simp (disch := omega) only [cmpT, cmpF, bI_eq0, bI_ne0, Classical.not_not, nI_toI, nI_cl, nI_inj, nI_add, nI_mul, nI_subI, takeL, setL, Int32.toInt_zero, Nat.add_zero, setN_now, alen20, alen11, alen12, alen13, alen14, alen15, alen16, alen17, alen18, alen19, (id e)] at *); omega)
set_option maxHeartbeats 4000000 in
set_option maxRecDepth 100000 in
theorem c_server (hw : WF F B) (hR : RepW s 0 F) (h : Q (some (.inl (serverA F v a))) s) : wpM L xs codT retT (f + 6) m_X9_server [.inr (9, 0), .inl v, .inl a] s Q := by
  have s2 := hw.s2
  have e1 : s.1 8 0 3 = nI (cS F) := hR.s1.trans hw.s1
  by_cases hv : iN v (cS F)
  · intro call hcall X hX; refine hX 1000 0 _ _ _ ?_
    repeat' (first | (intro hc) | (refine And.intro ?_ ?_) | (exact absurd nI_0 ‹cmpF 0 (nI 0) 0›) | (exact absurd ‹cmpT 0 (nI 1) 0› nI1_ne) | (exact absurd nI_0 ‹cmpT 1 (nI 0) 0›) | (exact absurd ‹cmpF 1 (nI 1) 0› nI1_ne) | (show wp _ _ _ _ _ _ _ _ _ _ _ _; conv => whnf) | (simp (disch := omega) only [nI_add, nI_mul, setN_now, setN_put, nI_cl, Nat.add_zero]) | (refine hcall _ _ _ _ ?_; first | (refine c_isServer e1 s2.2 ?_) | (refine c_serverProp hw hR ?_) | fail))
    all_goals first
      | exact h
      | (exfalso; exact bF hv (by assumption))
  · have e : serverA F v a = -1 := by unfold serverA; rw [if_pos hv]
    rw [e] at h
    intro call hcall X hX; refine hX 1000 0 _ _ _ ?_
    repeat' (first | (intro hc) | (refine And.intro ?_ ?_) | (exact absurd nI_0 ‹cmpF 0 (nI 0) 0›) | (exact absurd ‹cmpT 0 (nI 1) 0› nI1_ne) | (exact absurd nI_0 ‹cmpT 1 (nI 0) 0›) | (exact absurd ‹cmpF 1 (nI 1) 0› nI1_ne) | (show wp _ _ _ _ _ _ _ _ _ _ _ _; conv => whnf) | (simp (disch := omega) only [nI_add, nI_mul, setN_now, setN_put, nI_cl, Nat.add_zero]) | (refine hcall _ _ _ _ ?_; first | (refine c_isServer e1 s2.2 ?_) | fail))
    all_goals first
      | exact h
      | (exfalso; exact bT hv (by assumption))
set_option maxHeartbeats 4000000 in
set_option maxRecDepth 100000 in
theorem c_site (hw : WF F B) (hR : RepW s 0 F) (h : Q (some (.inl (siteA F v a))) s) : wpM L xs codT retT (f + 5) m_X9_site [.inr (9, 0), .inl v, .inl a] s Q := by
  have t2 := hw.t2
  have e2 : s.1 8 0 4 = nI (cT F) := hR.t1.trans hw.t1
  by_cases hv : iN v (cT F)
  · intro call hcall X hX; refine hX 1000 0 _ _ _ ?_
    repeat' (first | (intro hc) | (refine And.intro ?_ ?_) | (exact absurd nI_0 ‹cmpF 0 (nI 0) 0›) | (exact absurd ‹cmpT 0 (nI 1) 0› nI1_ne) | (exact absurd nI_0 ‹cmpT 1 (nI 0) 0›) | (exact absurd ‹cmpF 1 (nI 1) 0› nI1_ne) | (show wp _ _ _ _ _ _ _ _ _ _ _ _; conv => whnf) | (simp (disch := omega) only [nI_add, nI_mul, setN_now, setN_put, nI_cl, Nat.add_zero]) | (refine hcall _ _ _ _ ?_; first | (refine c_isSite e2 t2 ?_) | (refine c_siteProp hw hR (by omega) ?_) | fail))
    all_goals first
      | exact h
      | (exfalso; exact bF hv (by assumption))
  · have e : siteA F v a = -1 := by unfold siteA; rw [if_pos hv]
    rw [e] at h
    intro call hcall X hX; refine hX 1000 0 _ _ _ ?_
    repeat' (first | (intro hc) | (refine And.intro ?_ ?_) | (exact absurd nI_0 ‹cmpF 0 (nI 0) 0›) | (exact absurd ‹cmpT 0 (nI 1) 0› nI1_ne) | (exact absurd nI_0 ‹cmpT 1 (nI 0) 0›) | (exact absurd ‹cmpF 1 (nI 1) 0› nI1_ne) | (show wp _ _ _ _ _ _ _ _ _ _ _ _; conv => whnf) | (simp (disch := omega) only [nI_add, nI_mul, setN_now, setN_put, nI_cl, Nat.add_zero]) | (refine hcall _ _ _ _ ?_; first | (refine c_isSite e2 t2 ?_) | fail))
    all_goals first
      | exact h
      | (exfalso; exact bT hv (by assumption))
set_option maxHeartbeats 4000000 in
set_option maxRecDepth 100000 in
theorem c_slot (hw : WF F B) (hR : RepW s 0 F) (h : Q (some (.inl (slotA F v x a))) s) : wpM L xs codT retT (f + 3) m_X9_slot [.inr (9, 0), .inl v, .inl x, .inl a] s Q := by
  have t2 := hw.t2
  have e2 : s.1 8 0 4 = nI (cT F) := hR.t1.trans hw.t1
  by_cases hv : iN v (cT F)
  · obtain ⟨k, hp, hpl⟩ := iN_nn hv (by omega)
    subst hp
    have en : nn (nI k) = k := nI_cl (by omega)
    obtain ⟨-, -, -, -, -, cr⟩ := hR.site hpl
    by_cases hx : iN x 3
    · obtain ⟨j, hq, hql⟩ := iN_nn hx (by omega)
      subst hq
      have ej : nn (nI j) = j := nI_cl (by omega)
      have e : slotA F (nI k) (nI j) a = if ¬ iN a 3 then -2 else if F (29 + 17 * k + 5 + 4 * j) = nI 1 then F (29 + 17 * k + 5 + 4 * j + 1 + nn a) else -5 := by unfold slotA; rw [if_neg (fun q => q ⟨hv, hx⟩), en, ej]
      rw [e] at h
      intro call hcall X hX; refine hX 1000 0 _ _ _ ?_
      repeat' (first | (intro hc) | (refine And.intro ?_ ?_) | (exact absurd nI_0 ‹cmpF 0 (nI 0) 0›) | (exact absurd ‹cmpT 0 (nI 1) 0› nI1_ne) | (exact absurd nI_0 ‹cmpT 1 (nI 0) 0›) | (exact absurd ‹cmpF 1 (nI 1) 0› nI1_ne) | (show wp _ _ _ _ _ _ _ _ _ _ _ _; conv => whnf) | (simp (disch := omega) only [nI_cl]) | (simp (disch := omega) only [nI_add, nI_mul, setN_now, setN_put, nI_cl, Nat.add_zero]) | (refine hcall _ _ _ _ ?_; first | (refine c_isSite e2 t2 ?_) | (refine c_sSlot ?_) | (refine c_propertyOf cr (hw.flag hpl) hql ?_) | fail))
      all_goals first
        | exact h
        | (exfalso; exact bF hv (by assumption))
        | (exfalso; exact bF hx (by assumption))
        | (clear h hv hx e; (try clear hX hcall); (try clear h); (try simp (disch := omega) only [cmpT, cmpF, bI_eq0, bI_ne0, Classical.not_not, nI_toI, nI_cl, nI_inj, nI_add, nI_mul, nI_subI, takeL, setL, Int32.toInt_zero, Nat.add_zero, Nat.zero_mul, Nat.zero_add, alen11, alen12, alen13, alen14, alen15, alen16, alen17, alen18, alen19] at *); omega)
    · have e : slotA F (nI k) x a = -1 := by unfold slotA; rw [if_pos (fun q => hx q.2)]
      rw [e] at h
      intro call hcall X hX; refine hX 1000 0 _ _ _ ?_
      repeat' (first | (intro hc) | (refine And.intro ?_ ?_) | (exact absurd nI_0 ‹cmpF 0 (nI 0) 0›) | (exact absurd ‹cmpT 0 (nI 1) 0› nI1_ne) | (exact absurd nI_0 ‹cmpT 1 (nI 0) 0›) | (exact absurd ‹cmpF 1 (nI 1) 0› nI1_ne) | (show wp _ _ _ _ _ _ _ _ _ _ _ _; conv => whnf) | (simp (disch := omega) only [nI_add, nI_mul, setN_now, setN_put, nI_cl, Nat.add_zero]) | (refine hcall _ _ _ _ ?_; first | (refine c_isSite e2 t2 ?_) | (refine c_sSlot ?_) | fail))
      all_goals first
        | exact h
        | (exfalso; exact bF hv (by assumption))
        | (exfalso; exact bT hx (by assumption))
  · have e : slotA F v x a = -1 := by unfold slotA; rw [if_pos (fun q => hv q.1)]
    rw [e] at h
    intro call hcall X hX; refine hX 1000 0 _ _ _ ?_
    repeat' (first | (intro hc) | (refine And.intro ?_ ?_) | (exact absurd nI_0 ‹cmpF 0 (nI 0) 0›) | (exact absurd ‹cmpT 0 (nI 1) 0› nI1_ne) | (exact absurd nI_0 ‹cmpT 1 (nI 0) 0›) | (exact absurd ‹cmpF 1 (nI 1) 0› nI1_ne) | (show wp _ _ _ _ _ _ _ _ _ _ _ _; conv => whnf) | (simp (disch := omega) only [nI_add, nI_mul, setN_now, setN_put, nI_cl, Nat.add_zero]) | (refine hcall _ _ _ _ ?_; first | (refine c_isSite e2 t2 ?_) | fail))
    all_goals first
      | exact h
      | (exfalso; exact bT hv (by assumption))
set_option maxHeartbeats 4000000 in
set_option maxRecDepth 100000 in
theorem c_router (hw : WF F B) (hR : RepW s 0 F) (h : Q (some (.inl (routA F v a))) s) : wpM L xs codT retT (f + 2) m_X9_router [.inr (9, 0), .inl v, .inl a] s Q := by
  have r2 := hw.r2
  have e3 : s.1 8 0 5 = nI (cR F) := hR.r1.trans hw.r1
  by_cases hv : iN v (cR F)
  · obtain ⟨k, hp, hpl⟩ := iN_nn hv (by omega)
    subst hp
    have en : nn (nI k) = k := nI_cl (by omega)
    have rr := hR.router hpl
    have e : routA F (nI k) a = if ¬ iN a 6 then -2 else F (165 + 6 * k + nn a) := by unfold routA; rw [if_neg (fun q => q hv), en]
    rw [e] at h
    intro call hcall X hX; refine hX 1000 0 _ _ _ ?_
    repeat' (first | (intro hc) | (refine And.intro ?_ ?_) | (exact absurd nI_0 ‹cmpF 0 (nI 0) 0›) | (exact absurd ‹cmpT 0 (nI 1) 0› nI1_ne) | (exact absurd nI_0 ‹cmpT 1 (nI 0) 0›) | (exact absurd ‹cmpF 1 (nI 1) 0› nI1_ne) | (show wp _ _ _ _ _ _ _ _ _ _ _ _; conv => whnf) | (simp (disch := omega) only [nI_cl]) | (simp (disch := omega) only [nI_add, nI_mul, setN_now, setN_put, nI_cl, Nat.add_zero]) | (refine hcall _ _ _ _ ?_; first | (refine c_isRouter e3 r2 ?_) | (refine c_rProp rr ?_) | fail))
    all_goals first
      | exact h
      | (exfalso; exact bF hv (by assumption))
      | (clear h hv e; (try clear hX hcall); (try clear h); (try simp (disch := omega) only [cmpT, cmpF, bI_eq0, bI_ne0, Classical.not_not, nI_toI, nI_cl, nI_inj, nI_add, nI_mul, nI_subI, takeL, setL, Int32.toInt_zero, Nat.add_zero, Nat.zero_mul, Nat.zero_add, alen11, alen12, alen13, alen14, alen15, alen16, alen17, alen18, alen19] at *); omega)
  · have e : routA F v a = -1 := by unfold routA; rw [if_pos hv]
    rw [e] at h
    intro call hcall X hX; refine hX 1000 0 _ _ _ ?_
    repeat' (first | (intro hc) | (refine And.intro ?_ ?_) | (exact absurd nI_0 ‹cmpF 0 (nI 0) 0›) | (exact absurd ‹cmpT 0 (nI 1) 0› nI1_ne) | (exact absurd nI_0 ‹cmpT 1 (nI 0) 0›) | (exact absurd ‹cmpF 1 (nI 1) 0› nI1_ne) | (show wp _ _ _ _ _ _ _ _ _ _ _ _; conv => whnf) | (simp (disch := omega) only [nI_add, nI_mul, setN_now, setN_put, nI_cl, Nat.add_zero]) | (refine hcall _ _ _ _ ?_; first | (refine c_isRouter e3 r2 ?_) | fail))
    all_goals first
      | exact h
      | (exfalso; exact bT hv (by assumption))
set_option maxHeartbeats 4000000 in
set_option maxRecDepth 100000 in
theorem c_mProp (hm : repMap s k F r p) (hw : WFmap F r p) (e0 : x = F 0) (h : Q (some (.inl (if ¬ iN a 5 then -2 else if a.toInt < 4 then F (mA r p + nn a) else if (F 0).toInt < (F (mA r p + 2)).toInt then nI 1 else nI 0))) s) : wpM L xs codT retT (f + 2) m_X2_property [.inr (2, k), .inl a, .inl x] s Q := by
  obtain ⟨m0, m1, m2, m3, -⟩ := hm
  obtain ⟨-, -, w3, -⟩ := hw
  subst e0
  by_cases hb : iN a 5
  · obtain ⟨j, hq, hql⟩ := iN_nn hb (by omega)
    subst hq
    rw [if_neg (fun q => q hb), show nn (nI j) = j from nI_cl (by omega), nI_toI (by omega)] at h
    have hj : j = 0 ∨ j = 1 ∨ j = 2 ∨ j = 3 ∨ j = 4 := by omega
    rcases hj with hj | hj | hj | hj | hj <;> subst hj <;> (first | rw [if_pos (by omega)] at h | rw [if_neg (by omega)] at h)
    · rw [Nat.add_zero, ← m0] at h
      intro call hcall X hX; refine hX 1000 0 _ _ _ ?_
      repeat' (first | (intro hc) | (refine And.intro ?_ ?_) | (exact absurd nI_0 ‹cmpF 0 (nI 0) 0›) | (exact absurd ‹cmpT 0 (nI 1) 0› nI1_ne) | (exact absurd nI_0 ‹cmpT 1 (nI 0) 0›) | (exact absurd ‹cmpF 1 (nI 1) 0› nI1_ne) | (show wp _ _ _ _ _ _ _ _ _ _ _ _; conv => whnf))
      all_goals first
        | exact h
        | exact absurd (ofN 0).symm (by assumption)
        | (exfalso; clear hX hcall h hb m0 m1 m2 m3 w3; simp (disch := omega) only [ofN, nI_inj] at * <;> omega)
    · rw [← m1] at h
      intro call hcall X hX; refine hX 1000 0 _ _ _ ?_
      repeat' (first | (intro hc) | (refine And.intro ?_ ?_) | (exact absurd nI_0 ‹cmpF 0 (nI 0) 0›) | (exact absurd ‹cmpT 0 (nI 1) 0› nI1_ne) | (exact absurd nI_0 ‹cmpT 1 (nI 0) 0›) | (exact absurd ‹cmpF 1 (nI 1) 0› nI1_ne) | (show wp _ _ _ _ _ _ _ _ _ _ _ _; conv => whnf))
      all_goals first
        | exact h
        | exact absurd (ofN 1).symm (by assumption)
        | (exfalso; clear hX hcall h hb m0 m1 m2 m3 w3; simp (disch := omega) only [ofN, nI_inj] at * <;> omega)
    · rw [← m2] at h
      intro call hcall X hX; refine hX 1000 0 _ _ _ ?_
      repeat' (first | (intro hc) | (refine And.intro ?_ ?_) | (exact absurd nI_0 ‹cmpF 0 (nI 0) 0›) | (exact absurd ‹cmpT 0 (nI 1) 0› nI1_ne) | (exact absurd nI_0 ‹cmpT 1 (nI 0) 0›) | (exact absurd ‹cmpF 1 (nI 1) 0› nI1_ne) | (show wp _ _ _ _ _ _ _ _ _ _ _ _; conv => whnf))
      all_goals first
        | exact h
        | exact absurd (ofN 2).symm (by assumption)
        | (exfalso; clear hX hcall h hb m0 m1 m2 m3 w3; simp (disch := omega) only [ofN, nI_inj] at * <;> omega)
    · rcases w3 with w3 | w3
      · rw [w3] at h
        have m3 : s.1 2 k 5 = 0 := m3.trans (w3.trans nI_0)
        intro call hcall X hX; refine hX 1000 0 _ _ _ ?_
        repeat' (first | (intro hc) | (refine And.intro ?_ ?_) | (exact absurd nI_0 ‹cmpF 0 (nI 0) 0›) | (exact absurd ‹cmpT 0 (nI 1) 0› nI1_ne) | (exact absurd nI_0 ‹cmpT 1 (nI 0) 0›) | (exact absurd ‹cmpF 1 (nI 1) 0› nI1_ne) | (show wp _ _ _ _ _ _ _ _ _ _ _ _; conv => whnf))
        all_goals first
          | exact h
          | exact absurd m3 (by assumption)
          | exact absurd (ofN 3).symm (by assumption)
          | (exfalso; clear hX hcall h hb m0 m1 m2 m3 w3; simp (disch := omega) only [ofN, nI_inj] at * <;> omega)
      · rw [w3] at h
        have m3 : ¬ s.1 2 k 5 = 0 := fun q => nI1_ne ((m3.trans w3).symm.trans q)
        intro call hcall X hX; refine hX 1000 0 _ _ _ ?_
        repeat' (first | (intro hc) | (refine And.intro ?_ ?_) | (exact absurd nI_0 ‹cmpF 0 (nI 0) 0›) | (exact absurd ‹cmpT 0 (nI 1) 0› nI1_ne) | (exact absurd nI_0 ‹cmpT 1 (nI 0) 0›) | (exact absurd ‹cmpF 1 (nI 1) 0› nI1_ne) | (show wp _ _ _ _ _ _ _ _ _ _ _ _; conv => whnf))
        all_goals first
          | exact h
          | (exfalso; exact m3 (by assumption))
          | exact absurd (ofN 3).symm (by assumption)
          | (exfalso; clear hX hcall h hb m0 m1 m2 m3 w3; simp (disch := omega) only [ofN, nI_inj] at * <;> omega)
    · rw [← m2] at h
      have hold : ∀ {f : Nat} {Q : Option MV → St → Prop}, Q (some (.inl (bI ((F 0).toInt < (s.1 2 k 4).toInt)))) s → wpM L xs codT retT (f + 1) m_X2_isHolding [.inr (2, k), .inl (F 0)] s Q := by
        clear h
        intro f Q h
        intro call hcall X hX; refine hX 1000 0 _ _ _ ?_
        repeat' (first | (intro hc) | (refine And.intro ?_ ?_) | (exact absurd nI_0 ‹cmpF 0 (nI 0) 0›) | (exact absurd ‹cmpT 0 (nI 1) 0› nI1_ne) | (exact absurd nI_0 ‹cmpT 1 (nI 0) 0›) | (exact absurd ‹cmpF 1 (nI 1) 0› nI1_ne) | (show wp _ _ _ _ _ _ _ _ _ _ _ _; conv => whnf))
        all_goals first
          | exact Or.inl rfl
          | exact Or.inr rfl
          | (refine bI_1 h ?_; clear h; (try clear hX hcall); (try clear h); (try simp (disch := omega) only [cmpT, cmpF, bI_eq0, bI_ne0, Classical.not_not, nI_toI, nI_cl, nI_inj, nI_add, nI_mul, nI_subI, takeL, setL, Int32.toInt_zero, Nat.add_zero, Nat.zero_mul, Nat.zero_add, alen11, alen12, alen13, alen14, alen15, alen16, alen17, alen18, alen19] at *); omega)
          | (refine bI_0 h ?_; clear h; (try clear hX hcall); (try clear h); (try simp (disch := omega) only [cmpT, cmpF, bI_eq0, bI_ne0, Classical.not_not, nI_toI, nI_cl, nI_inj, nI_add, nI_mul, nI_subI, takeL, setL, Int32.toInt_zero, Nat.add_zero, Nat.zero_mul, Nat.zero_add, alen11, alen12, alen13, alen14, alen15, alen16, alen17, alen18, alen19] at *); omega)
      by_cases ht : (F 0).toInt < (s.1 2 k 4).toInt
      · rw [if_pos ht] at h
        intro call hcall X hX; refine hX 1000 0 _ _ _ ?_
        repeat' (first | (intro hc) | (refine And.intro ?_ ?_) | (exact absurd nI_0 ‹cmpF 0 (nI 0) 0›) | (exact absurd ‹cmpT 0 (nI 1) 0› nI1_ne) | (exact absurd nI_0 ‹cmpT 1 (nI 0) 0›) | (exact absurd ‹cmpF 1 (nI 1) 0› nI1_ne) | (show wp _ _ _ _ _ _ _ _ _ _ _ _; conv => whnf) | (simp (disch := omega) only [nI_add, nI_mul, setN_now, setN_put, nI_cl, Nat.add_zero]) | (refine hcall _ _ _ _ ?_; first | (refine hold ?_) | fail))
        all_goals first
          | exact h
          | (exfalso; exact bF ht (by assumption))
          | exact absurd (ofN 4).symm (by assumption)
          | (exfalso; clear hX hcall h hb m0 m1 m2 m3 w3; simp (disch := omega) only [ofN, nI_inj] at * <;> omega)
      · rw [if_neg ht] at h
        intro call hcall X hX; refine hX 1000 0 _ _ _ ?_
        repeat' (first | (intro hc) | (refine And.intro ?_ ?_) | (exact absurd nI_0 ‹cmpF 0 (nI 0) 0›) | (exact absurd ‹cmpT 0 (nI 1) 0› nI1_ne) | (exact absurd nI_0 ‹cmpT 1 (nI 0) 0›) | (exact absurd ‹cmpF 1 (nI 1) 0› nI1_ne) | (show wp _ _ _ _ _ _ _ _ _ _ _ _; conv => whnf) | (simp (disch := omega) only [nI_add, nI_mul, setN_now, setN_put, nI_cl, Nat.add_zero]) | (refine hcall _ _ _ _ ?_; first | (refine hold ?_) | fail))
        all_goals first
          | exact h
          | (exfalso; exact bT ht (by assumption))
          | exact absurd (ofN 4).symm (by assumption)
          | (exfalso; clear hX hcall h hb m0 m1 m2 m3 w3; simp (disch := omega) only [ofN, nI_inj] at * <;> omega)
  · rw [if_pos hb] at h
    intro call hcall X hX; refine hX 1000 0 _ _ _ ?_
    repeat' (first | (intro hc) | (refine And.intro ?_ ?_) | (exact absurd nI_0 ‹cmpF 0 (nI 0) 0›) | (exact absurd ‹cmpT 0 (nI 1) 0› nI1_ne) | (exact absurd nI_0 ‹cmpT 1 (nI 0) 0›) | (exact absurd ‹cmpF 1 (nI 1) 0› nI1_ne) | (show wp _ _ _ _ _ _ _ _ _ _ _ _; conv => whnf))
    all_goals first
      | exact h
      | exact absurd (iN_of (show a = Int32.ofNat 0 by assumption) (by decide) (by decide)) hb
      | exact absurd (iN_of (show a = Int32.ofNat 1 by assumption) (by decide) (by decide)) hb
      | exact absurd (iN_of (show a = Int32.ofNat 2 by assumption) (by decide) (by decide)) hb
      | exact absurd (iN_of (show a = Int32.ofNat 3 by assumption) (by decide) (by decide)) hb
      | exact absurd (iN_of (show a = Int32.ofNat 4 by assumption) (by decide) (by decide)) hb
set_option maxHeartbeats 4000000 in
set_option maxRecDepth 100000 in
theorem c_map (hw : WF F B) (hR : RepW s 0 F) (h : Q (some (.inl (mapA F v x a))) s) : wpM L xs codT retT (f + 3) m_X9_map [.inr (9, 0), .inl v, .inl x, .inl a] s Q := by
  have r2 := hw.r2
  have e3 : s.1 8 0 5 = nI (cR F) := hR.r1.trans hw.r1
  by_cases hv : iN v (cR F)
  · obtain ⟨k, hp, hpl⟩ := iN_nn hv (by omega)
    subst hp
    have en : nn (nI k) = k := nI_cl (by omega)
    have rr := hR.router hpl
    have wr := hw.router hpl
    have w5 := wr.2.1
    have ec : s.1 4 (4 * 0 + k) 1 = nI (cM F k) := rr.1.trans wr.1
    by_cases hx : iN x (cM F k)
    · obtain ⟨p, hq, hql⟩ := iN_nn hx (by omega)
      subst hq
      have ep : nn (nI p) = p := nI_cl (by omega)
      have e : mapA F (nI k) (nI p) a = if ¬ iN a 5 then -2 else if a.toInt < 4 then F (mA k p + nn a) else if (F 0).toInt < (F (mA k p + 2)).toInt then nI 1 else nI 0 := by unfold mapA; rw [en, ep, if_neg (fun q => q ⟨hv, hx⟩)]
      rw [e] at h
      have mm := rr.2.2.2.2.2.2 p hql
      have wm := wr.2.2.1 p hql
      intro call hcall X hX; refine hX 1000 0 _ _ _ ?_
      repeat' (first | (intro hc) | (refine And.intro ?_ ?_) | (exact absurd nI_0 ‹cmpF 0 (nI 0) 0›) | (exact absurd ‹cmpT 0 (nI 1) 0› nI1_ne) | (exact absurd nI_0 ‹cmpT 1 (nI 0) 0›) | (exact absurd ‹cmpF 1 (nI 1) 0› nI1_ne) | (show wp _ _ _ _ _ _ _ _ _ _ _ _; conv => whnf) | (simp (disch := omega) only [nI_cl]) | (simp (disch := omega) only [nI_add, nI_mul, setN_now, setN_put, nI_cl, Nat.add_zero]) | (refine hcall _ _ _ _ ?_; first | (refine c_isRouter e3 r2 ?_) | (refine c_isPlace ec w5 ?_) | (refine c_mProp mm wm hR.h1 ?_) | fail))
      all_goals first
        | exact h
        | (exfalso; exact bF hv (by assumption))
        | (exfalso; exact bF hx (by assumption))
        | (simp (disch := omega) only [nI_toI, nI_cl, nI_add, nI_mul, alen11, alen12, alen13, alen14, alen15, alen16, alen17, alen18, alen19]; omega)
    · have e : mapA F (nI k) x a = -1 := by unfold mapA; rw [en, if_pos (fun q => hx q.2)]
      rw [e] at h
      intro call hcall X hX; refine hX 1000 0 _ _ _ ?_
      repeat' (first | (intro hc) | (refine And.intro ?_ ?_) | (exact absurd nI_0 ‹cmpF 0 (nI 0) 0›) | (exact absurd ‹cmpT 0 (nI 1) 0› nI1_ne) | (exact absurd nI_0 ‹cmpT 1 (nI 0) 0›) | (exact absurd ‹cmpF 1 (nI 1) 0› nI1_ne) | (show wp _ _ _ _ _ _ _ _ _ _ _ _; conv => whnf) | (simp (disch := omega) only [nI_cl]) | (simp (disch := omega) only [nI_add, nI_mul, setN_now, setN_put, nI_cl, Nat.add_zero]) | (refine hcall _ _ _ _ ?_; first | (refine c_isRouter e3 r2 ?_) | (refine c_isPlace ec w5 ?_) | fail))
      all_goals first
        | exact h
        | (exfalso; exact bF hv (by assumption))
        | (exfalso; exact bT hx (by assumption))
        | (simp (disch := omega) only [nI_toI, nI_cl, nI_add, nI_mul, alen11, alen12, alen13, alen14, alen15, alen16, alen17, alen18, alen19]; omega)
  · have e : mapA F v x a = -1 := by unfold mapA; rw [if_pos (fun q => hv q.1)]
    rw [e] at h
    intro call hcall X hX; refine hX 1000 0 _ _ _ ?_
    repeat' (first | (intro hc) | (refine And.intro ?_ ?_) | (exact absurd nI_0 ‹cmpF 0 (nI 0) 0›) | (exact absurd ‹cmpT 0 (nI 1) 0› nI1_ne) | (exact absurd nI_0 ‹cmpT 1 (nI 0) 0›) | (exact absurd ‹cmpF 1 (nI 1) 0› nI1_ne) | (show wp _ _ _ _ _ _ _ _ _ _ _ _; conv => whnf) | (simp (disch := omega) only [nI_add, nI_mul, setN_now, setN_put, nI_cl, Nat.add_zero]) | (refine hcall _ _ _ _ ?_; first | (refine c_isRouter e3 r2 ?_) | fail))
    all_goals first
      | exact h
      | (exfalso; exact bT hv (by assumption))
set_option maxHeartbeats 4000000 in
set_option maxRecDepth 100000 in
theorem c_answer (hw : WF F B) (hR : RepW s 0 F) (h : Q (some (.inl (answF F name))) s) : wpM L xs codT retT (f + 4) m_X9_answer [.inr (9, 0), .inl name] s Q := by
  have t2 := hw.t2
  by_cases hb : iN name 256
  · have e : answF F name = optI (ansF F name) (-5) := if_pos hb
    rw [e] at h
    cases ho : ansF F name with
    | none =>
      rw [ho] at h
      intro call hcall X hX; refine hX 1000 0 _ _ _ ?_
      repeat' (first | (intro hc) | (refine And.intro ?_ ?_) | (exact absurd nI_0 ‹cmpF 0 (nI 0) 0›) | (exact absurd ‹cmpT 0 (nI 1) 0› nI1_ne) | (exact absurd nI_0 ‹cmpT 1 (nI 0) 0›) | (exact absurd ‹cmpF 1 (nI 1) 0› nI1_ne) | (show wp _ _ _ _ _ _ _ _ _ _ _ _; conv => whnf) | (simp (disch := omega) only [nI_add, nI_mul, setN_now, setN_put, nI_cl, Nat.add_zero]) | (refine hcall _ _ _ _ ?_; first | (refine c_sName ?_) | (refine c_answerForE hw hR hb ho ?_) | fail))
      all_goals first
        | exact h
        | (exfalso; exact bF hb (by assumption))
        | (exfalso; exact (by assumption : cmpT 1 (optI none (-1)) (-1)) rfl)
    | some k =>
      rw [ho] at h
      have hk := ansF_lt ho
      have hn := nI_m1n (b := k) (by omega)
      intro call hcall X hX; refine hX 1000 0 _ _ _ ?_
      repeat' (first | (intro hc) | (refine And.intro ?_ ?_) | (exact absurd nI_0 ‹cmpF 0 (nI 0) 0›) | (exact absurd ‹cmpT 0 (nI 1) 0› nI1_ne) | (exact absurd nI_0 ‹cmpT 1 (nI 0) 0›) | (exact absurd ‹cmpF 1 (nI 1) 0› nI1_ne) | (show wp _ _ _ _ _ _ _ _ _ _ _ _; conv => whnf) | (simp (disch := omega) only [nI_add, nI_mul, setN_now, setN_put, nI_cl, Nat.add_zero]) | (refine hcall _ _ _ _ ?_; first | (refine c_sName ?_) | (refine c_answerForE hw hR hb ho ?_) | fail))
      all_goals first
        | exact h
        | (exfalso; exact bF hb (by assumption))
        | (exfalso; exact hn (by assumption : cmpF 1 (optI (some k) (-1)) (-1)))
  · have e : answF F name = -2 := if_neg hb
    rw [e] at h
    intro call hcall X hX; refine hX 1000 0 _ _ _ ?_
    repeat' (first | (intro hc) | (refine And.intro ?_ ?_) | (exact absurd nI_0 ‹cmpF 0 (nI 0) 0›) | (exact absurd ‹cmpT 0 (nI 1) 0› nI1_ne) | (exact absurd nI_0 ‹cmpT 1 (nI 0) 0›) | (exact absurd ‹cmpF 1 (nI 1) 0› nI1_ne) | (show wp _ _ _ _ _ _ _ _ _ _ _ _; conv => whnf) | (simp (disch := omega) only [nI_add, nI_mul, setN_now, setN_put, nI_cl, Nat.add_zero]) | (refine hcall _ _ _ _ ?_; first | (refine c_sName ?_) | fail))
    all_goals first
      | exact h
      | (exfalso; exact bT hb (by assumption))
set_option maxHeartbeats 4000000 in
set_option maxRecDepth 100000 in
theorem c_endingNext (hw : WF F B) (hR : RepW s 0 F) (h : Q (some (.inl (nextA F v))) s) : wpM L xs codT retT (f + 4) m_X9_endingNext [.inr (9, 0), .inl v] s Q := by
  have t2 := hw.t2
  by_cases hv : v.toInt < 0
  · have e : nextA F v = -2 := if_pos hv
    rw [e] at h
    intro call hcall X hX; refine hX 1000 0 _ _ _ ?_
    repeat' (first | (intro hc) | (refine And.intro ?_ ?_) | (exact absurd nI_0 ‹cmpF 0 (nI 0) 0›) | (exact absurd ‹cmpT 0 (nI 1) 0› nI1_ne) | (exact absurd nI_0 ‹cmpT 1 (nI 0) 0›) | (exact absurd ‹cmpF 1 (nI 1) 0› nI1_ne) | (show wp _ _ _ _ _ _ _ _ _ _ _ _; conv => whnf))
    all_goals first
      | exact h
      | ((try clear hX hcall); (try clear h); (try simp (disch := omega) only [cmpT, cmpF, bI_eq0, bI_ne0, Classical.not_not, nI_toI, nI_cl, nI_inj, nI_add, nI_mul, nI_subI, takeL, setL, Int32.toInt_zero, Nat.add_zero, Nat.zero_mul, Nat.zero_add, alen11, alen12, alen13, alen14, alen15, alen16, alen17, alen18, alen19] at *); omega)
  · have e : nextA F v = optI (firN (nxtP F v) (cT F) 0) (-5) := if_neg hv
    rw [e] at h
    have cE : ∀ {f : Nat} {o : Option Nat} {Q : Option MV → St → Prop}, firN (nxtP F v) (cT F) 0 = o → Q (some (.inl (optI o (-1)))) s → wpM L xs codT retT (f + 3) m_X8_siteEndingAt [.inr (8, 0), .inl v] s Q := fun e h => c_siteEndingAt hw hR (by rw [e]; exact h)
    cases ho : firN (nxtP F v) (cT F) 0 with
    | none =>
      rw [ho] at h
      intro call hcall X hX; refine hX 1000 0 _ _ _ ?_
      repeat' (first | (intro hc) | (refine And.intro ?_ ?_) | (exact absurd nI_0 ‹cmpF 0 (nI 0) 0›) | (exact absurd ‹cmpT 0 (nI 1) 0› nI1_ne) | (exact absurd nI_0 ‹cmpT 1 (nI 0) 0›) | (exact absurd ‹cmpF 1 (nI 1) 0› nI1_ne) | (show wp _ _ _ _ _ _ _ _ _ _ _ _; conv => whnf) | (simp (disch := omega) only [nI_add, nI_mul, setN_now, setN_put, nI_cl, Nat.add_zero]) | (refine hcall _ _ _ _ ?_; first | (refine cE ho ?_) | fail))
      all_goals first
        | exact h
        | (exfalso; exact (by assumption : cmpT 1 (optI none (-1)) (-1)) rfl)
        | (exfalso; clear h e cE; (try clear hX hcall); (try clear h); (try simp (disch := omega) only [cmpT, cmpF, bI_eq0, bI_ne0, Classical.not_not, nI_toI, nI_cl, nI_inj, nI_add, nI_mul, nI_subI, takeL, setL, Int32.toInt_zero, Nat.add_zero, Nat.zero_mul, Nat.zero_add, alen11, alen12, alen13, alen14, alen15, alen16, alen17, alen18, alen19] at *); omega)
    | some k =>
      rw [ho] at h
      have hk := (firN_some _ _ ho).2.1
      have hn := nI_m1n (b := k) (by omega)
      intro call hcall X hX; refine hX 1000 0 _ _ _ ?_
      repeat' (first | (intro hc) | (refine And.intro ?_ ?_) | (exact absurd nI_0 ‹cmpF 0 (nI 0) 0›) | (exact absurd ‹cmpT 0 (nI 1) 0› nI1_ne) | (exact absurd nI_0 ‹cmpT 1 (nI 0) 0›) | (exact absurd ‹cmpF 1 (nI 1) 0› nI1_ne) | (show wp _ _ _ _ _ _ _ _ _ _ _ _; conv => whnf) | (simp (disch := omega) only [nI_add, nI_mul, setN_now, setN_put, nI_cl, Nat.add_zero]) | (refine hcall _ _ _ _ ?_; first | (refine cE ho ?_) | fail))
      all_goals first
        | exact h
        | (exfalso; exact hn (by assumption : cmpF 1 (optI (some k) (-1)) (-1)))
        | (exfalso; clear h e cE; (try clear hX hcall); (try clear h); (try simp (disch := omega) only [cmpT, cmpF, bI_eq0, bI_ne0, Classical.not_not, nI_toI, nI_cl, nI_inj, nI_add, nI_mul, nI_subI, takeL, setL, Int32.toInt_zero, Nat.add_zero, Nat.zero_mul, Nat.zero_add, alen11, alen12, alen13, alen14, alen15, alen16, alen17, alen18, alen19] at *); omega)
set_option maxHeartbeats 4000000 in
set_option maxRecDepth 100000 in
theorem c_total (hw : WF F B) (hR : RepW s 0 F) (h : Q (some (.inl (totA F (s.1 3 0 2) (s.1 0 0 1) v))) s) : wpM L xs codT retT (f + 6) m_X9_total [.inr (9, 0), .inl v] s Q := by
  by_cases h11 : v = nI 11
  · have e : totA F (s.1 3 0 2) (s.1 0 0 1) v = s.1 3 0 2 := if_pos h11
    rw [e] at h
    subst h11
    intro call hcall X hX; refine hX 1000 0 _ _ _ ?_
    repeat' (first | (intro hc) | (refine And.intro ?_ ?_) | (exact absurd nI_0 ‹cmpF 0 (nI 0) 0›) | (exact absurd ‹cmpT 0 (nI 1) 0› nI1_ne) | (exact absurd nI_0 ‹cmpT 1 (nI 0) 0›) | (exact absurd ‹cmpF 1 (nI 1) 0› nI1_ne) | (show wp _ _ _ _ _ _ _ _ _ _ _ _; conv => whnf))
    all_goals first
      | exact h
      | exact absurd (ofN 11).symm (by assumption)
      | (exfalso; clear hX hcall h e; simp (disch := omega) only [ofN, nI_inj] at * <;> omega)
  · by_cases h12 : v = nI 12
    · have e : totA F (s.1 3 0 2) (s.1 0 0 1) v = s.1 0 0 1 := by unfold totA; rw [if_neg h11, if_pos h12]
      rw [e] at h
      subst h12
      intro call hcall X hX; refine hX 1000 0 _ _ _ ?_
      repeat' (first | (intro hc) | (refine And.intro ?_ ?_) | (exact absurd nI_0 ‹cmpF 0 (nI 0) 0›) | (exact absurd ‹cmpT 0 (nI 1) 0› nI1_ne) | (exact absurd nI_0 ‹cmpT 1 (nI 0) 0›) | (exact absurd ‹cmpF 1 (nI 1) 0› nI1_ne) | (show wp _ _ _ _ _ _ _ _ _ _ _ _; conv => whnf))
      all_goals first
        | exact h
        | exact absurd (ofN 12).symm (by assumption)
        | (exfalso; clear hX hcall h e; simp (disch := omega) only [ofN, nI_inj] at * <;> omega)
    · have e : totA F (s.1 3 0 2) (s.1 0 0 1) v = if iN v 14 then totW F (nn v) else -2 := by unfold totA; rw [if_neg h11, if_neg h12]
      rw [e] at h
      have hno : ¬ (v = nI 11 ∨ v = nI 12) := fun q => q.elim h11 h12
      intro call hcall X hX; refine hX 1000 0 _ _ _ ?_
      repeat' (first | (intro hc) | (refine And.intro ?_ ?_) | (exact absurd nI_0 ‹cmpF 0 (nI 0) 0›) | (exact absurd ‹cmpT 0 (nI 1) 0› nI1_ne) | (exact absurd nI_0 ‹cmpT 1 (nI 0) 0›) | (exact absurd ‹cmpF 1 (nI 1) 0› nI1_ne) | (show wp _ _ _ _ _ _ _ _ _ _ _ _; conv => whnf) | (simp (disch := omega) only [nI_add, nI_mul, setN_now, setN_put, nI_cl, Nat.add_zero]) | (refine hcall _ _ _ _ ?_; first | (refine c_totalOf hw hR hno ?_) | fail))
      all_goals first
        | exact h
        | (exfalso; exact h11 ((by assumption : v = Int32.ofNat 11).trans (ofN 11)))
        | (exfalso; exact h12 ((by assumption : v = Int32.ofNat 12).trans (ofN 12)))
end CLS7
