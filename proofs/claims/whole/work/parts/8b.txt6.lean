/-! THE CLASS: run -/
def FrT (s s' : St) : Prop := (∀ c i k, (c = 19 ∨ c = 10 ∨ 20 ≤ c ∨ c = 18) → s'.1 c i k = s.1 c i k) ∧ s'.1 0 0 1 = s.1 0 0 1
section TXT6
variable {L : Nat} {xs : Nat → Int32} {f i k r p q j n B w m lo hi d t : Nat} {x y v z l name flow place : Int32} {s s' s1 : St} {F F0 G F' u : Fm} {T : Nat → Nat} {Q : Option MV → St → Prop}
theorem RepW_B (hw : WF F B) (hp : permOk s) (h10 : w < 10) (hR : RepW s w F) : RepW (setB s u) w F := RepW_cg hw hp h10 ⟨fun c i k e => setB_o (fun q => by subst q; have e : 99 = w := e; omega), fun _ _ _ => rfl⟩ hR
theorem his_B {o : Nat} (hp : permOk s) (h : hisR s G o n B) : hisR (setB s u) G o n B := ⟨h.1, h.2.1, (setB_o (by omega)).trans h.2.2.1, (setB_o (by omega)).trans h.2.2.2.1, fun i hi => by
  have hm : (o + i) % 6 < 6 := Nat.mod_lt _ (by omega)
  exact ⟨RepW_B (h.2.2.2.2 i hi).2.1 hp (by omega) (h.2.2.2.2 i hi).1, (h.2.2.2.2 i hi).2⟩⟩
theorem sav_B (hp : permOk s) (h : savR s G B) : savR (setB s u) G B := fun j hj => by
  rw [setB_o (by omega)]
  exact ⟨(h j hj).1, fun q => ⟨RepW_B ((h j hj).2 q).2.1 hp (by omega) ((h j hj).2 q).1, ((h j hj).2 q).2⟩⟩
theorem CL_B (h : CL s F G n B) : CL (setB s u) F G n B := ⟨permOk_of (fun _ _ => rfl) h.1, ⟨RepW_B h.2.1.2.1 h.1 (by omega) h.2.1.1, h.2.1.2⟩, h.2.2.1.imp (fun o q => his_B h.1 q), sav_B h.1 h.2.2.2⟩
theorem DR_B (h : DR s F0 F G n B) : DR (setB s u) F0 F G n B := by
  obtain ⟨hp, ⟨hR, hW⟩, ⟨o, hh, hdR, hdW⟩, hs⟩ := h
  have hm : (o + n) % 6 < 6 := Nat.mod_lt _ (by omega)
  exact ⟨permOk_of (fun _ _ => rfl) hp, ⟨RepW_B hW.1 hp (by omega) hR, hW⟩, ⟨o, his_B hp hh, RepW_B hdW.1 hp (by omega) hdR, hdW⟩, sav_B hp hs⟩
theorem FrT.trans {t : St} (h1 : FrT s s') (h2 : FrT s' t) : FrT s t := ⟨fun c i k h => (h2.1 c i k h).trans (h1.1 c i k h), h2.2.trans h1.2⟩
theorem FrT_B : FrT s (setB s u) := ⟨fun c i k h => setB_o (by omega), setB_y (by omega)⟩
theorem FrT_of (h : Fr s s') : FrT s s' := ⟨fun c i k q => h c i k (by omega), h 0 0 1 (by omega)⟩
theorem FrT.txt (h : FrT s s') (ht : txtC s T n) : txtC s' T n := ⟨fun i hi => (h.1 19 0 i (by omega)).trans (ht.1 i hi), h.2.trans ht.2.1, ht.2.2⟩
set_option maxHeartbeats 4000000 in
set_option maxRecDepth 100000 in
theorem x_carry {a b c : Nat} (hD : DR s F0 F G n B) (e4 : s.1 0 0 4 = nI t) (e5 : s.1 0 0 5 = nI a) (e67 : t = 115 → s.1 0 0 6 = nI b ∧ s.1 0 0 7 = nI c) (hr : ((t = 115 ∧ a ≤ 3) ∨ (t = 116 ∧ 1 ≤ a ∧ a ≤ 99) ∨ (t = 114 ∧ a ≤ 7) ∨ (t = 117 ∧ a ≤ 7)) ∧ b ≤ 255 ∧ c ≤ 99) (h : ∀ s', Fr s s' → DR s' F0 (doF F t a b c).2 G n B → Q (some (.inl (doF F t a b c).1)) s') : wpM L xs codT retT (f + 6) m_X9_carryOutAct [.inr (9, 0)] s Q := by
  have w := hD.2.1.2
  have hR := hD.2.1.1
  have hp := hD.1
  have ef5 : fv s 0 0 5 = .inl (nI a) := by
    show (Sum.inl (s.1 0 0 5) : MV) = _
    rw [e5]
  obtain ⟨hr, hb, hcc⟩ := hr
  rcases hr with ⟨ht, ha⟩ | ⟨ht, ha1, ha⟩ | ⟨ht, ha⟩ | ⟨ht, ha⟩
  · subst ht
    obtain ⟨e6, e7⟩ := e67 rfl
    have ef6 : fv s 0 0 6 = .inl (nI b) := by
      show (Sum.inl (s.1 0 0 6) : MV) = _
      rw [e6]
    have ef7 : fv s 0 0 7 = .inl (nI c) := by
      show (Sum.inl (s.1 0 0 7) : MV) = _
      rw [e7]
    have ed : doF F 115 a b c = letterF F (nI a) (nI b) (nI c) := if_pos rfl
    rw [ed] at h
    intro call hcall X hX; refine hX 1000 0 _ _ _ ?_
    repeat' (first | (intro hc) | (refine And.intro ?_ ?_) | (exact absurd nI_0 ‹cmpF 0 (nI 0) 0›) | (exact absurd ‹cmpT 0 (nI 1) 0› nI1_ne) | (exact absurd nI_0 ‹cmpT 1 (nI 0) 0›) | (exact absurd ‹cmpF 1 (nI 1) 0› nI1_ne) | (show wp _ _ _ _ _ _ _ _ _ _ _ _; conv => whnf) | (rw [ef5]) | (rw [ef6]) | (rw [ef7]) | (simp (disch := omega) only [nI_add, nI_mul, setN_now, setN_put, nI_cl, Nat.add_zero]) | (refine hcall _ _ _ _ ?_; first | (refine c_sendLetter w.1 (by omega) hp hR (fun s2 u2 R2 => ?_)) | fail))
    all_goals first
      | exact h _ (u2.fr (by omega)) (hD.upd u2 R2 (letter_ok w) (by omega))
      | exact absurd (e4.symm.trans ((by assumption : s.1 0 0 4 = Int32.ofNat 116).trans (ofN 116))) (nI_ne (by omega) (by omega) (by omega))
      | exact absurd (e4.trans (ofN 115).symm) (by assumption)
      | exact absurd (e4.symm.trans ((by assumption : s.1 0 0 4 = Int32.ofNat 114).trans (ofN 114))) (nI_ne (by omega) (by omega) (by omega))
      | exact absurd (e4.symm.trans ((by assumption : s.1 0 0 4 = Int32.ofNat 117).trans (ofN 117))) (nI_ne (by omega) (by omega) (by omega))
  · subst ht
    have ed : doF F 116 a b c = passF F (nI a) := by unfold doF; rw [if_neg (by omega), if_neg (by omega), if_neg (by omega)]
    rw [ed] at h
    intro call hcall X hX; refine hX 1000 0 _ _ _ ?_
    repeat' (first | (intro hc) | (refine And.intro ?_ ?_) | (exact absurd nI_0 ‹cmpF 0 (nI 0) 0›) | (exact absurd ‹cmpT 0 (nI 1) 0› nI1_ne) | (exact absurd nI_0 ‹cmpT 1 (nI 0) 0›) | (exact absurd ‹cmpF 1 (nI 1) 0› nI1_ne) | (show wp _ _ _ _ _ _ _ _ _ _ _ _; conv => whnf) | (rw [ef5]) | (simp (disch := omega) only [nI_add, nI_mul, setN_now, setN_put, nI_cl, Nat.add_zero]) | (refine hcall _ _ _ _ ?_; first | (refine c_letPass w hp (by omega) hR (fun s2 u2 R2 => ?_)) | fail))
    all_goals first
      | exact h _ (u2.fr (by omega)) (hD.upd u2 R2 (pass_ok w) (by omega))
      | exact absurd (e4.trans (ofN 116).symm) (by assumption)
      | exact absurd (e4.symm.trans ((by assumption : s.1 0 0 4 = Int32.ofNat 115).trans (ofN 115))) (nI_ne (by omega) (by omega) (by omega))
      | exact absurd (e4.symm.trans ((by assumption : s.1 0 0 4 = Int32.ofNat 114).trans (ofN 114))) (nI_ne (by omega) (by omega) (by omega))
      | exact absurd (e4.symm.trans ((by assumption : s.1 0 0 4 = Int32.ofNat 117).trans (ofN 117))) (nI_ne (by omega) (by omega) (by omega))
  · subst ht
    have ed : doF F 114 a b c = regF F (nI a) := by unfold doF; rw [if_neg (by omega), if_pos rfl]
    rw [ed] at h
    intro call hcall X hX; refine hX 1000 0 _ _ _ ?_
    repeat' (first | (intro hc) | (refine And.intro ?_ ?_) | (exact absurd nI_0 ‹cmpF 0 (nI 0) 0›) | (exact absurd ‹cmpT 0 (nI 1) 0› nI1_ne) | (exact absurd nI_0 ‹cmpT 1 (nI 0) 0›) | (exact absurd ‹cmpF 1 (nI 1) 0› nI1_ne) | (show wp _ _ _ _ _ _ _ _ _ _ _ _; conv => whnf) | (rw [ef5]) | (simp (disch := omega) only [nI_add, nI_mul, setN_now, setN_put, nI_cl, Nat.add_zero]) | (refine hcall _ _ _ _ ?_; first | (refine c_startReg w hp (by omega) hR (fun s2 u2 R2 => ?_)) | fail))
    all_goals first
      | exact h _ (u2.fr (by omega)) (hD.upd u2 R2 (reg_ok w) (by omega))
      | exact absurd (e4.symm.trans ((by assumption : s.1 0 0 4 = Int32.ofNat 116).trans (ofN 116))) (nI_ne (by omega) (by omega) (by omega))
      | exact absurd (e4.trans (ofN 114).symm) (by assumption)
      | exact absurd (e4.symm.trans ((by assumption : s.1 0 0 4 = Int32.ofNat 115).trans (ofN 115))) (nI_ne (by omega) (by omega) (by omega))
      | exact absurd (e4.symm.trans ((by assumption : s.1 0 0 4 = Int32.ofNat 117).trans (ofN 117))) (nI_ne (by omega) (by omega) (by omega))
  · subst ht
    have ed : doF F 117 a b c = unregF F (nI a) := by unfold doF; rw [if_neg (by omega), if_neg (by omega), if_pos rfl]
    rw [ed] at h
    intro call hcall X hX; refine hX 1000 0 _ _ _ ?_
    repeat' (first | (intro hc) | (refine And.intro ?_ ?_) | (exact absurd nI_0 ‹cmpF 0 (nI 0) 0›) | (exact absurd ‹cmpT 0 (nI 1) 0› nI1_ne) | (exact absurd nI_0 ‹cmpT 1 (nI 0) 0›) | (exact absurd ‹cmpF 1 (nI 1) 0› nI1_ne) | (show wp _ _ _ _ _ _ _ _ _ _ _ _; conv => whnf) | (rw [ef5]) | (simp (disch := omega) only [nI_add, nI_mul, setN_now, setN_put, nI_cl, Nat.add_zero]) | (refine hcall _ _ _ _ ?_; first | (refine c_endReg w hp (by omega) hR (fun s2 u2 R2 => ?_)) | fail))
    all_goals first
      | exact h _ (u2.fr (by omega)) (hD.upd u2 R2 (unreg_ok w) (by omega))
      | exact absurd (e4.symm.trans ((by assumption : s.1 0 0 4 = Int32.ofNat 116).trans (ofN 116))) (nI_ne (by omega) (by omega) (by omega))
      | exact absurd (e4.trans (ofN 117).symm) (by assumption)
      | exact absurd (e4.symm.trans ((by assumption : s.1 0 0 4 = Int32.ofNat 115).trans (ofN 115))) (nI_ne (by omega) (by omega) (by omega))
      | exact absurd (e4.symm.trans ((by assumption : s.1 0 0 4 = Int32.ofNat 114).trans (ofN 114))) (nI_ne (by omega) (by omega) (by omega))
theorem t_rS_l (ht : txtC s T n) (hp : s.1 0 0 2 = nI p) (h3 : s.1 0 0 3 = -1) (hpn : p < n) (e : actR T n p = .inl q) (h : ∀ u', Q (some (.inl (nI 0))) (setB s u')) : wpM L xs codT retT (f + 4) m_X0_readAct [.inr (0, 0)] s Q := by
  rw [← setB_self (s := s)]
  exact t_rA_l ht hp h3 hpn e (fun u' _ => h u')
theorem t_rS_r {t a b c : Nat} (ht : txtC s T n) (hp : s.1 0 0 2 = nI p) (h3 : s.1 0 0 3 = -1) (hpn : p < n) (e : actR T n p = .inr ((t, a, b, c), q)) (h : ∀ u', u' 2 = nI q → u' 3 = -1 → u' 4 = nI t → u' 5 = nI a → (t = 115 → u' 6 = nI b ∧ u' 7 = nI c) → Q (some (.inl (nI 1))) (setB s u')) : wpM L xs codT retT (f + 4) m_X0_readAct [.inr (0, 0)] s Q := by
  rw [← setB_self (s := s)]
  exact t_rA_r ht hp h3 hpn e h
theorem t_rS_e (ht : txtC s T n) (hp : s.1 0 0 2 = nI p) (hp8 : p ≤ 80) (hpn : ¬ p < n) (h : Q (some (.inl (nI 0))) s) : wpM L xs codT retT (f + 4) m_X0_readAct [.inr (0, 0)] s Q := by
  rw [← setB_self (s := s)]
  exact t_act_e ht hp hp8 hpn (by rw [setB_self]; exact h)
theorem t_rwS (h : Q none (setB s (putF (putF (s.1 0 0) 2 (nI 0)) 3 (-1)))) : wpM L xs codT retT (f + 1) m_X0_rewind [.inr (0, 0)] s Q := by
  have g := t_rewind (L := L) (xs := xs) (f := f) (s := s) (u := s.1 0 0) (Q := Q) h
  rw [setB_self] at g
  exact g
set_option maxHeartbeats 4000000 in
set_option maxRecDepth 100000 in
theorem x_run (hC : CL s F G n B) (ht : txtC s T m) (h0 : fltF T m ≠ none → ∀ s', FrT s s' → CL s' F G n B → Q (some (.inl (-3))) s') (h1 : fltF T m = none → ∀ s', FrT s s' → CL s' (runF T m 81 0 F 0).2 (recG G F n) (recN n) B → Q (some (.inl (nI (runF T m 81 0 F 0).1))) s') : wpM L xs codT retT (f + 7) m_X9_run [.inr (9, 0)] s Q := by
  have h8 := ht.2.2.1
  cases hf : fltF T m with
  | some q =>
    have h := h0 (by rw [hf]; exact fun q => nomatch q)
    clear h0 h1
    have hq : q < 1000 := by
      have := flt_b 81 0 (Nat.zero_le _) hf
      omega
    have hq1 := nI_m1n hq
    intro call hcall X hX; refine hX 1000 0 _ _ _ ?_
    repeat' (first | (intro hc) | (refine And.intro ?_ ?_) | (exact absurd nI_0 ‹cmpF 0 (nI 0) 0›) | (exact absurd ‹cmpT 0 (nI 1) 0› nI1_ne) | (exact absurd nI_0 ‹cmpT 1 (nI 0) 0›) | (exact absurd ‹cmpF 1 (nI 1) 0› nI1_ne) | (show wp _ _ _ _ _ _ _ _ _ _ _ _; conv => whnf) | (simp (disch := omega) only [nI_add, nI_mul, setN_now, setN_put, nI_cl, Nat.add_zero]) | (refine hcall _ _ _ _ ?_; first | (refine t_findE ht hf (fun u1 a1 => ?_)) | fail))
    all_goals first
      | exact h _ FrT_B (CL_B hC)
      | (exfalso; exact hq1 (by assumption : cmpT 0 (optI (some q) (-1)) (-1)))
  | none =>
    have h := h1 hf
    clear h0 h1
    intro call hcall X hX
    have loop : ∀ k p F' c s1, FrT s s1 → DR s1 F F' G n B → s1.1 0 0 2 = nI p → s1.1 0 0 3 = -1 → p ≤ m → m < p + k → c ≤ p → (∀ s', FrT s s' → CL s' (runF T m k p F' c).2 (recG G F n) (recN n) B → Q (some (.inl (nI (runF T m k p F' c).1))) s') → X 34 [.inr (9, 0), .inl (nI c)] [] s1 := by
      clear h
      intro k
      induction k with
      | zero => intro p F' c s1 _ _ _ _ h1 h2; omega
      | succ k ih =>
        intro p F' c s1 fr hD e2 e3 hp hk hcp h
        have ht1 := fr.txt ht
        by_cases hpn : p < m
        · cases e : actR T m p with
          | inl q =>
            have er : runF T m (k + 1) p F' c = (c, F') := by unfold runF; rw [if_pos hpn, e]
            rw [er] at h
            clear ih
            refine hX 1000 34 _ _ _ ?_
            repeat' (first | (intro hc) | (refine And.intro ?_ ?_) | (exact absurd nI_0 ‹cmpF 0 (nI 0) 0›) | (exact absurd ‹cmpT 0 (nI 1) 0› nI1_ne) | (exact absurd nI_0 ‹cmpT 1 (nI 0) 0›) | (exact absurd ‹cmpF 1 (nI 1) 0› nI1_ne) | (show wp _ _ _ _ _ _ _ _ _ _ _ _; conv => whnf) | (simp (disch := omega) only [nI_add, nI_mul, setN_now, setN_put, nI_cl, Nat.add_zero]) | (refine hcall _ _ _ _ ?_; first | (refine t_rS_l ht1 e2 e3 hpn e (fun u1 => ?_)) | (refine c_recorded (DR_B hD) (fun hv => ?_) (fun hv s3 f3 c3 => ?_)) | fail))
            all_goals first
              | exact h _ ((fr.trans FrT_B).trans (FrT_of f3)) c3
              | (exfalso; rw [nI_toI (by omega)] at hv; omega)
              | (exfalso; exact (by assumption : ¬ nI 0 = 0) nI_0)
              | (exfalso; clear h hX hcall ht ht1 hD fr; simp (disch := omega) only [cmpT, cmpF, nI_toI] at * <;> omega)
          | inr w5 =>
            obtain ⟨⟨t, a, b, d⟩, q⟩ := w5
            have bb := actR_b e
            have hr : ((t = 115 ∧ a ≤ 3) ∨ (t = 116 ∧ 1 ≤ a ∧ a ≤ 99) ∨ (t = 114 ∧ a ≤ 7) ∨ (t = 117 ∧ a ≤ 7)) ∧ b ≤ 255 ∧ d ≤ 99 := ⟨bb.1, bb.2.1, bb.2.2.1⟩
            by_cases hd : 0 ≤ (doF F' t a b d).1.toInt
            · have er : runF T m (k + 1) p F' c = runF T m k q (doF F' t a b d).2 (c + 1) := by
                show (if p < m then _ else _) = _
                rw [if_pos hpn, e]
                show (if 0 ≤ (doF F' t a b d).1.toInt then _ else _) = _
                rw [if_pos hd]
              rw [er] at h
              have go : ∀ u1 s2, u1 2 = nI q → u1 3 = -1 → Fr (setB s1 u1) s2 → DR s2 F (doF F' t a b d).2 G n B → X 34 [.inr (9, 0), .inl (nI (c + 1))] [] s2 := fun u1 s2 a1 a2 f2 D2 => ih q _ (c + 1) s2 ((fr.trans FrT_B).trans (FrT_of f2)) D2 ((f2 0 0 2 (by omega)).trans ((setB_x (by omega)).trans a1)) ((f2 0 0 3 (by omega)).trans ((setB_x (by omega)).trans a2)) bb.2.2.2.2 (by omega) (by omega) h
              clear ih h
              refine hX 1000 34 _ _ _ ?_
              repeat' (first | (intro hc) | (refine And.intro ?_ ?_) | (exact absurd nI_0 ‹cmpF 0 (nI 0) 0›) | (exact absurd ‹cmpT 0 (nI 1) 0› nI1_ne) | (exact absurd nI_0 ‹cmpT 1 (nI 0) 0›) | (exact absurd ‹cmpF 1 (nI 1) 0› nI1_ne) | (show wp _ _ _ _ _ _ _ _ _ _ _ _; conv => whnf) | (simp (disch := omega) only [nI_add, nI_mul, setN_now, setN_put, nI_cl, Nat.add_zero]) | (refine hcall _ _ _ _ ?_; first | (refine t_rS_r ht1 e2 e3 hpn e (fun u1 a1 a2 a4 a5 a6 => ?_)) | (refine x_carry (DR_B hD) ((setB_x (by omega)).trans a4) ((setB_x (by omega)).trans a5) (fun q0 => ⟨(setB_x (by omega)).trans (a6 q0).1, (setB_x (by omega)).trans (a6 q0).2⟩) hr (fun s2 f2 D2 => ?_)) | fail))
              all_goals first
                | (simp only [takeL, setL, nI_add]; exact go _ _ a1 a2 f2 D2)
                | (exfalso; exact nI1_ne (by assumption))
                | (exfalso; have q1 : (doF F' t a b d).1.toInt < (0 : Int32).toInt := (by assumption : cmpT 2 (doF F' t a b d).1 0); have q2 : (0 : Int32).toInt = 0 := rfl; omega)
                | (exfalso; clear go hX hcall ht ht1 hD fr; simp (disch := omega) only [cmpT, cmpF, nI_toI] at * <;> omega)
            · have er : runF T m (k + 1) p F' c = (c, F') := by
                show (if p < m then _ else _) = _
                rw [if_pos hpn, e]
                show (if 0 ≤ (doF F' t a b d).1.toInt then _ else _) = _
                rw [if_neg hd]
              rw [er] at h
              have en := do_neg (t := t) (a := a) (b := b) (c := d) hD.2.1.2 (by omega)
              have cv : ∀ s2, DR s2 F (doF F' t a b d).2 G n B → DR s2 F F' G n B := fun s2 D => by rw [en] at D; exact D
              clear ih
              refine hX 1000 34 _ _ _ ?_
              repeat' (first | (intro hc) | (refine And.intro ?_ ?_) | (exact absurd nI_0 ‹cmpF 0 (nI 0) 0›) | (exact absurd ‹cmpT 0 (nI 1) 0› nI1_ne) | (exact absurd nI_0 ‹cmpT 1 (nI 0) 0›) | (exact absurd ‹cmpF 1 (nI 1) 0› nI1_ne) | (show wp _ _ _ _ _ _ _ _ _ _ _ _; conv => whnf) | (simp (disch := omega) only [nI_add, nI_mul, setN_now, setN_put, nI_cl, Nat.add_zero]) | (refine hcall _ _ _ _ ?_; first | (refine t_rS_r ht1 e2 e3 hpn e (fun u1 a1 a2 a4 a5 a6 => ?_)) | (refine x_carry (DR_B hD) ((setB_x (by omega)).trans a4) ((setB_x (by omega)).trans a5) (fun q0 => ⟨(setB_x (by omega)).trans (a6 q0).1, (setB_x (by omega)).trans (a6 q0).2⟩) hr (fun s2 f2 D2 => ?_)) | (refine c_recorded (cv _ D2) (fun hv => ?_) (fun hv s3 f3 c3 => ?_)) | fail))
              all_goals first
                | exact h _ ((fr.trans FrT_B).trans ((FrT_of f2).trans (FrT_of f3))) c3
                | (exfalso; rw [nI_toI (by omega)] at hv; omega)
                | (exfalso; exact nI1_ne (by assumption))
                | (exfalso; have q1 : (0 : Int32).toInt ≤ (doF F' t a b d).1.toInt := (by assumption : cmpF 2 (doF F' t a b d).1 0); have q2 : (0 : Int32).toInt = 0 := rfl; omega)
                | (exfalso; clear h hX hcall ht ht1 hD fr; simp (disch := omega) only [cmpT, cmpF, nI_toI] at * <;> omega)
        · have er : runF T m (k + 1) p F' c = (c, F') := by unfold runF; rw [if_neg hpn]
          rw [er] at h
          clear ih
          refine hX 1000 34 _ _ _ ?_
          repeat' (first | (intro hc) | (refine And.intro ?_ ?_) | (exact absurd nI_0 ‹cmpF 0 (nI 0) 0›) | (exact absurd ‹cmpT 0 (nI 1) 0› nI1_ne) | (exact absurd nI_0 ‹cmpT 1 (nI 0) 0›) | (exact absurd ‹cmpF 1 (nI 1) 0› nI1_ne) | (show wp _ _ _ _ _ _ _ _ _ _ _ _; conv => whnf) | (simp (disch := omega) only [nI_add, nI_mul, setN_now, setN_put, nI_cl, Nat.add_zero]) | (refine hcall _ _ _ _ ?_; first | (refine t_rS_e ht1 e2 (by omega) hpn ?_) | (refine c_recorded hD (fun hv => ?_) (fun hv s3 f3 c3 => ?_)) | fail))
          all_goals first
            | exact h _ (fr.trans (FrT_of f3)) c3
            | (exfalso; rw [nI_toI (by omega)] at hv; omega)
            | (exfalso; exact (by assumption : ¬ nI 0 = 0) nI_0)
            | (exfalso; clear h hX hcall ht ht1 hD fr; simp (disch := omega) only [cmpT, cmpF, nI_toI] at * <;> omega)
    have go : ∀ s1 u1, Fr (setB s u1) s1 → DR s1 F F G n B → X 34 [.inr (9, 0), .inl (nI 0)] [] (setB s1 (putF (putF (s1.1 0 0) 2 (nI 0)) 3 (-1))) := fun s1 u1 f1 D1 => loop 81 0 F 0 _ ((FrT_B.trans (FrT_of f1)).trans FrT_B) (DR_B D1) (by rw [setB_x (by omega), putF_ne _ _ (by omega), putF_at]) (by rw [setB_x (by omega), putF_at]) (by omega) (by omega) (by omega) h
    clear loop h
    refine hX 1000 0 _ _ _ ?_
    repeat' (first | (intro hc) | (refine And.intro ?_ ?_) | (exact absurd nI_0 ‹cmpF 0 (nI 0) 0›) | (exact absurd ‹cmpT 0 (nI 1) 0› nI1_ne) | (exact absurd nI_0 ‹cmpT 1 (nI 0) 0›) | (exact absurd ‹cmpF 1 (nI 1) 0› nI1_ne) | (show wp _ _ _ _ _ _ _ _ _ _ _ _; conv => whnf) | (simp (disch := omega) only [nI_add, nI_mul, setN_now, setN_put, nI_cl, Nat.add_zero]) | (refine hcall _ _ _ _ ?_; first | (refine t_findE ht hf (fun u1 a1 => ?_)) | (refine c_draft (CL_B hC) (fun s2 f2 d2 => ?_)) | (refine t_rwS ?_) | fail))
    all_goals first
      | exact go _ _ f2 d2
      | (simp only [takeL, setL, pushW]; exact go _ _ f2 d2)
      | (exfalso; exact (by assumption : cmpF 0 (optI none (-1)) (-1)) rfl)
end TXT6
