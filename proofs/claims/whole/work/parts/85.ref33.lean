/-! THE REFERENCE: run -/
section REF33
variable {L : Nat} {xs : Nat → Int32} {f i k r p q j n B w m lo hi d t : Nat} {x y v z l name flow place : Int32} {s : St} {F G F' u : Fm} {T : Nat → Nat} {Q : Option MV → St → Prop}
theorem setA_NK : setA (setN (setK s G) F) u = setN (setK (setA s u) G) F := by
  unfold setA setN setK
  apply Prod.ext
  · funext a b d
    show (if a = 10 ∧ b = 0 ∧ 6 ≤ d then u d else if a = 20 ∧ b = 0 then F d else if a = 21 ∧ b = 0 then G d else s.1 a b d) = (if a = 20 ∧ b = 0 then F d else if a = 21 ∧ b = 0 then G d else if a = 10 ∧ b = 0 ∧ 6 ≤ d then u d else s.1 a b d)
    by_cases h1 : a = 10
    · subst h1; simp
    · simp [h1]
  · rfl
theorem setA_put3 {k : Nat} (h : k < 6) : putV (setA s u) 10 0 k x = setA (putV s 10 0 k x) u := by
  unfold setA putV
  apply Prod.ext
  · funext a b d
    show (if a = 10 ∧ b = 0 ∧ d = k then x else if a = 10 ∧ b = 0 ∧ 6 ≤ d then u d else s.1 a b d) = (if a = 10 ∧ b = 0 ∧ 6 ≤ d then u d else if a = 10 ∧ b = 0 ∧ d = k then x else s.1 a b d)
    by_cases h1 : a = 10 ∧ b = 0 ∧ d = k
    · rw [if_pos h1, if_neg (by omega), if_pos h1]
    · rw [if_neg h1]
      by_cases h2 : a = 10 ∧ b = 0 ∧ 6 ≤ d
      · rw [if_pos h2, if_pos h2]
      · rw [if_neg h2, if_neg h2, if_neg h1]
  · rfl
theorem txt_NK (ht : txtR s T n) : txtR (setN (setK s G) F) T n := ⟨fun i hi => by rw [setN_o (by decide), setK_o (by decide)]; exact ht.1 i hi, by rw [setN_o (by decide), setK_o (by decide)]; exact ht.2.1, ht.2.2⟩
theorem txt_3 (ht : txtR s T n) : txtR (putV s 10 0 3 x) T n := ⟨fun i hi => by rw [putV_ne (by omega)]; exact ht.1 i hi, by rw [putV_ne (by omega)]; exact ht.2.1, ht.2.2⟩
theorem r_faultNK {o : Option Nat} (ht : txtR s T n) (e : fltF T n = o) (h : ∀ u', Q (some (.inl (optI o (-5)))) (setN (setK (setA s u') G) F)) : wpM L xs codT retT (f + 6) m_X10_faultOf [.inr (10, 0)] (setN (setK (setA s u) G) F) Q := by
  rw [← setA_NK]
  exact r_faultOf (txt_NK ht) (fun u' => by rw [e, setA_NK]; exact h u')
theorem r_actNK_l (ht : txtR s T n) (hp : u 6 = nI p) (hp8 : p ≤ n) (e : actR T n p = .inl q) (h : ∀ u', u' 6 = nI q → Q (some (.inl (nI 0))) (setN (setK (setA s u') G) F)) : wpM L xs codT retT (f + 5) m_X10_passesAct [.inr (10, 0)] (setN (setK (setA s u) G) F) Q := by
  rw [← setA_NK]
  exact r_pA_l (txt_NK ht) hp hp8 e (fun u' h6 => by rw [setA_NK]; exact h u' h6)
theorem r_actNK_r {t a b c : Nat} (ht : txtR s T n) (hp : u 6 = nI p) (hp8 : p ≤ n) (e : actR T n p = .inr ((t, a, b, c), q)) (h : ∀ u', u' 6 = nI q → u' 8 = nI t → u' 9 = nI a → (t = 115 → u' 10 = nI b ∧ u' 11 = nI c) → Q (some (.inl (nI 1))) (setN (setK (setA s u') G) F)) : wpM L xs codT retT (f + 5) m_X10_passesAct [.inr (10, 0)] (setN (setK (setA s u) G) F) Q := by
  rw [← setA_NK]
  exact r_pA_r (txt_NK ht) hp hp8 e (fun u' h6 h8 h9 h10 => by rw [setA_NK]; exact h u' h6 h8 h9 h10)
theorem setAK_x (h : 6 ≤ k) : (setK (setA s u) G).1 10 0 k = u k := (setK_o (by decide)).trans (setA_x h)
theorem numR_l (h : numR T n p lo hi = .inl q) : q = p := by
  unfold numR at h
  split at h
  · split at h
    · cases h
    · cases h; rfl
  · cases h; rfl
theorem letR_l (hp : p ≤ n) (h : letR T n p = .inl q) : q ≤ n := by
  unfold letR at h
  split at h
  · rename_i e1
    cases h
    have := numR_l e1
    omega
  · rename_i e1
    have b1 := numR_b e1
    split at h
    · rename_i c1
      have d1 := (sgnB_1 c1).1
      split at h
      · rename_i e3
        cases h
        have := numR_l e3
        omega
      · rename_i e3
        have b2 := numR_b e3
        split at h
        · rename_i c2
          have d2 := (sgnB_1 c2).1
          split at h
          · rename_i e5
            cases h
            have := numR_l e5
            omega
          · cases h
        · cases h; omega
    · cases h; omega
theorem oneR_l {t0 : Nat} (hp : p < n) (h : oneR T n p t0 lo hi = .inl q) : q ≤ n := by
  unfold oneR at h
  split at h
  · rename_i e1
    cases h
    have := numR_l e1
    omega
  · rename_i e1
    have b1 := numR_b e1
    split at h
    · cases h
    · cases h; omega
theorem actR_l (hp : p ≤ n) (h : actR T n p = .inl q) : q ≤ n := by
  unfold actR at h
  split at h
  · rename_i c1
    have d1 := (sgnB_1 c1).1
    split at h
    · rename_i e1
      cases h
      exact letR_l (by omega) e1
    · rename_i e1
      have b1 := letR_b e1
      split at h
      · cases h
      · cases h; omega
  · split at h
    · rename_i c1
      exact oneR_l (sgnB_1 c1).1 h
    · split at h
      · rename_i c1
        exact oneR_l (sgnB_1 c1).1 h
      · split at h
        · rename_i c1
          exact oneR_l (sgnB_1 c1).1 h
        · cases h; exact hp
theorem flt_b : ∀ k p, p ≤ n → fltN T n k p = some q → q ≤ n := by
  intro k
  induction k with
  | zero => intro p _ h; cases h
  | succ k ih =>
    intro p hp h
    unfold fltN at h
    split at h
    · split at h
      · rename_i e1
        cases h
        exact actR_l hp e1
      · rename_i w p1 e1
        obtain ⟨t, a, b, c⟩ := w
        exact ih _ (actR_b e1).2.2.2.2 h
    · cases h
set_option maxHeartbeats 4000000 in
set_option maxRecDepth 100000 in
theorem r_run (hw : WFh F B) (hm : m ≤ 5) (hs : s.1 10 0 3 = nI m) (ht : txtR s T n) (h0 : fltF T n ≠ none → ∀ u', Q (some (.inl (-3))) (setN (setK (setA s u') G) F)) (h1 : fltF T n = none → ∀ u', Q (some (.inl (nI (runF T n 81 0 F 0).1))) (setN (setK (setA (putV s 10 0 3 (nI (recN m))) u') (recG G F m)) (runF T n 81 0 F 0).2)) : wpM L xs codT retT (f + 9) m_X10_run [.inr (10, 0)] (setN (setK (setA s u) G) F) Q := by
  obtain ⟨hT, hn, h8, hB⟩ := id ht
  cases hf : fltF T n with
  | some q =>
    have h := h0 (by rw [hf]; exact fun q => nomatch q)
    clear h0 h1
    have hbd : q < 1000 := by
      have := flt_b 81 0 (Nat.zero_le _) hf
      omega
    intro call hcall X hX; refine hX 1000 0 _ _ _ ?_
    repeat' (first | (intro hc) | (refine And.intro ?_ ?_) | (exact absurd nI_0 ‹cmpF 0 (nI 0) 0›) | (exact absurd ‹cmpT 0 (nI 1) 0› nI1_ne) | (exact absurd nI_0 ‹cmpT 1 (nI 0) 0›) | (exact absurd ‹cmpF 1 (nI 1) 0› nI1_ne) | (show wp _ _ _ _ _ _ _ _ _ _ _ _; conv => whnf) | (simp (disch := omega) only [nI_add, nI_mul, setN_now, setN_put, nI_cl, Nat.add_zero]) | (refine hcall _ _ _ _ ?_; first | (refine r_faultNK ht hf (fun u1 => ?_)) | fail))
    all_goals first
      | exact h u1
      | (exfalso; exact nI_n5 hbd (by assumption : cmpT 0 (optI (some q) (-5)) (-5)))
  | none =>
    have h := h1 hf
    clear h0 h1
    have ht2 : txtR (putV s 10 0 3 (nI (recN m))) T n := txt_3 ht
    have hs2 : ∀ u', (setA s u').1 10 0 3 = nI m := fun u' => (setA_y (by omega)).trans hs
    have hl2 : ∀ u', (setA (putV s 10 0 3 (nI (recN m))) u').1 10 0 5 = nI n := fun u' => (setA_y (by omega)).trans ht2.2.1
    generalize hz : putV s 10 0 3 (nI (recN m)) = s1 at *
    generalize hg : recG G F m = G1 at *
    have e5 : ∀ u1 G', (putV (setN (setK (putV (setA s u1) 10 0 3 (nI (recN m))) G') F) 10 0 6 (nI 0)).1 10 0 5 = nI n := fun u1 G' => by rw [putV_ne (by omega), setNK_fv, putV_ne (by omega), setA_y (by omega), hn]
    intro call hcall X hX
    have stop : ∀ c S, Q (some (.inl (nI c))) S → X 36 [.inr (10, 0), .inl (nI c), .inl (nI 0)] [] S := by
      clear h
      intro c S h
      refine hX 1000 36 _ _ _ ?_
      repeat' (first | (intro hc) | (refine And.intro ?_ ?_) | (exact absurd nI_0 ‹cmpF 0 (nI 0) 0›) | (exact absurd ‹cmpT 0 (nI 1) 0› nI1_ne) | (exact absurd nI_0 ‹cmpT 1 (nI 0) 0›) | (exact absurd ‹cmpF 1 (nI 1) 0› nI1_ne) | (show wp _ _ _ _ _ _ _ _ _ _ _ _; conv => whnf))
      all_goals first
        | exact h
        | (exfalso; exact (by assumption : cmpF 0 (nI 0) 0) nI_0)
    have loop : ∀ k p F' c u', WFh F' B → u' 6 = nI p → p < n → n < p + k → c ≤ p → (∀ u'', Q (some (.inl (nI (runF T n k p F' c).1))) (setN (setK (setA s1 u'') G1) (runF T n k p F' c).2)) → X 36 [.inr (10, 0), .inl (nI c), .inl (nI 1)] [] (setN (setK (setA s1 u') G1) F') := by
      clear h
      intro k
      induction k with
      | zero => intro p F' c u' _ _ h1 h2; omega
      | succ k ih =>
        intro p F' c u' w h6 hp hk hc0 h
        cases e : actR T n p with
        | inl q =>
          have er : runF T n (k + 1) p F' c = (c, F') := by unfold runF; rw [if_pos hp, e]
          rw [er] at h
          clear ih
          refine hX 1000 36 _ _ _ ?_
          repeat' (first | (intro hc) | (refine And.intro ?_ ?_) | (exact absurd nI_0 ‹cmpF 0 (nI 0) 0›) | (exact absurd ‹cmpT 0 (nI 1) 0› nI1_ne) | (exact absurd nI_0 ‹cmpT 1 (nI 0) 0›) | (exact absurd ‹cmpF 1 (nI 1) 0› nI1_ne) | (show wp _ _ _ _ _ _ _ _ _ _ _ _; conv => whnf) | (simp (disch := omega) only [nI_add, nI_mul, setN_now, setN_put, nI_cl, Nat.add_zero]) | (refine hcall _ _ _ _ ?_; first | (refine r_actNK_l ht2 h6 (by omega) e (fun u1 a1 => ?_)) | fail))
          all_goals first
            | (simp only [takeL, setL, nI_add, Nat.add_zero]; exact stop _ _ (h u1))
            | (exfalso; exact nI1_ne (by assumption))
        | inr w5 =>
          obtain ⟨⟨t, a, b, d⟩, q⟩ := w5
          have bb := actR_b e
          have hr : ((t = 115 ∧ a ≤ 3) ∨ (t = 116 ∧ 1 ≤ a ∧ a ≤ 99) ∨ (t = 114 ∧ a ≤ 7) ∨ (t = 117 ∧ a ≤ 7)) ∧ b ≤ 255 ∧ d ≤ 99 := ⟨bb.1, bb.2.1, bb.2.2.1⟩
          by_cases hd : 0 ≤ (doF F' t a b d).1.toInt
          · have er : runF T n (k + 1) p F' c = runF T n k q (doF F' t a b d).2 (c + 1) := by
              show (if p < n then _ else _) = _
              rw [if_pos hp, e]
              show (if 0 ≤ (doF F' t a b d).1.toInt then _ else _) = _
              rw [if_pos hd]
            rw [er] at h
            have w2 := do_ok (t := t) (a := a) (b := b) (c := d) w
            refine hX 1000 36 _ _ _ ?_
            by_cases hq : q < n
            · have ih := fun u1 h1 => ih q (doF F' t a b d).2 (c + 1) u1 w2 h1 hq (by omega) (by omega) h
              repeat' (first | (intro hc) | (refine And.intro ?_ ?_) | (exact absurd nI_0 ‹cmpF 0 (nI 0) 0›) | (exact absurd ‹cmpT 0 (nI 1) 0› nI1_ne) | (exact absurd nI_0 ‹cmpT 1 (nI 0) 0›) | (exact absurd ‹cmpF 1 (nI 1) 0› nI1_ne) | (show wp _ _ _ _ _ _ _ _ _ _ _ _; conv => whnf) | (simp (disch := omega) only [setNK_fv, setA_x, hl2]) | (rw [a1]) | (simp (disch := omega) only [nI_add, nI_mul, setN_now, setN_put, nI_cl, Nat.add_zero]) | (refine hcall _ _ _ _ ?_; first | (refine r_actNK_r ht2 h6 (by omega) e (fun u1 a1 a2 a3 a4 => ?_)) | (refine r_does w ((setAK_x (by omega)).trans a2) ((setAK_x (by omega)).trans a3) (fun q0 => ⟨(setAK_x (by omega)).trans (a4 q0).1, (setAK_x (by omega)).trans (a4 q0).2⟩) hr (fun hno => absurd hd hno) (fun _ => ?_)) | fail))
              all_goals first
                | (simp only [takeL, setL, nI_add]; exact ih u1 a1)
                | (exfalso; exact nI1_ne (by assumption))
                | (exfalso; clear ih stop h hX hcall hs2 hB hT ht ht2; simp (disch := omega) only [cmpT, cmpF, setNK_fv, setA_x, hl2, (id a1), nI_toI] at *; omega)
            · have er2 : runF T n k q (doF F' t a b d).2 (c + 1) = (c + 1, (doF F' t a b d).2) := by
                cases k with
                | zero => rfl
                | succ k => unfold runF; rw [if_neg hq]
              rw [er2] at h
              clear ih
              repeat' (first | (intro hc) | (refine And.intro ?_ ?_) | (exact absurd nI_0 ‹cmpF 0 (nI 0) 0›) | (exact absurd ‹cmpT 0 (nI 1) 0› nI1_ne) | (exact absurd nI_0 ‹cmpT 1 (nI 0) 0›) | (exact absurd ‹cmpF 1 (nI 1) 0› nI1_ne) | (show wp _ _ _ _ _ _ _ _ _ _ _ _; conv => whnf) | (simp (disch := omega) only [setNK_fv, setA_x, hl2]) | (rw [a1]) | (simp (disch := omega) only [nI_add, nI_mul, setN_now, setN_put, nI_cl, Nat.add_zero]) | (refine hcall _ _ _ _ ?_; first | (refine r_actNK_r ht2 h6 (by omega) e (fun u1 a1 a2 a3 a4 => ?_)) | (refine r_does w ((setAK_x (by omega)).trans a2) ((setAK_x (by omega)).trans a3) (fun q0 => ⟨(setAK_x (by omega)).trans (a4 q0).1, (setAK_x (by omega)).trans (a4 q0).2⟩) hr (fun hno => absurd hd hno) (fun _ => ?_)) | fail))
              all_goals first
                | (simp only [takeL, setL, nI_add]; exact stop _ _ (h u1))
                | (exfalso; exact nI1_ne (by assumption))
                | (exfalso; clear stop h hX hcall hs2 hB hT ht ht2; simp (disch := omega) only [cmpT, cmpF, setNK_fv, setA_x, hl2, (id a1), nI_toI] at *; omega)
          · have er : runF T n (k + 1) p F' c = (c, F') := by
              show (if p < n then _ else _) = _
              rw [if_pos hp, e]
              show (if 0 ≤ (doF F' t a b d).1.toInt then _ else _) = _
              rw [if_neg hd]
            rw [er] at h
            clear ih
            refine hX 1000 36 _ _ _ ?_
            repeat' (first | (intro hc) | (refine And.intro ?_ ?_) | (exact absurd nI_0 ‹cmpF 0 (nI 0) 0›) | (exact absurd ‹cmpT 0 (nI 1) 0› nI1_ne) | (exact absurd nI_0 ‹cmpT 1 (nI 0) 0›) | (exact absurd ‹cmpF 1 (nI 1) 0› nI1_ne) | (show wp _ _ _ _ _ _ _ _ _ _ _ _; conv => whnf) | (simp (disch := omega) only [nI_add, nI_mul, setN_now, setN_put, nI_cl, Nat.add_zero]) | (refine hcall _ _ _ _ ?_; first | (refine r_actNK_r ht2 h6 (by omega) e (fun u1 a1 a2 a3 a4 => ?_)) | (refine r_does w ((setAK_x (by omega)).trans a2) ((setAK_x (by omega)).trans a3) (fun q0 => ⟨(setAK_x (by omega)).trans (a4 q0).1, (setAK_x (by omega)).trans (a4 q0).2⟩) hr (fun _ => ?_) (fun hyes => absurd hyes hd)) | fail))
            all_goals first
              | (simp only [takeL, setL, nI_add, Nat.add_zero]; exact stop _ _ (h u1))
              | (exfalso; exact nI1_ne (by assumption))
    refine hX 1000 0 _ _ _ ?_
    by_cases hn0 : 0 < n
    · have go := fun u1 h6 => loop 81 0 F 0 u1 hw h6 hn0 (by omega) (by omega) h
      clear loop stop h
      repeat' (first | (intro hc) | (refine And.intro ?_ ?_) | (exact absurd nI_0 ‹cmpF 0 (nI 0) 0›) | (exact absurd ‹cmpT 0 (nI 1) 0› nI1_ne) | (exact absurd nI_0 ‹cmpT 1 (nI 0) 0›) | (exact absurd ‹cmpF 1 (nI 1) 0› nI1_ne) | (show wp _ _ _ _ _ _ _ _ _ _ _ _; conv => whnf) | (rw [setA_put3 (by omega)]) | (rw [hz]) | (rw [hg]) | (rw [setNK_fput]) | (rw [setA_put (by omega)]) | (simp (disch := omega) only [setNK_fv, hl2]) | (simp (disch := omega) only [nI_add, nI_mul, setN_now, setN_put, nI_cl, Nat.add_zero]) | (refine hcall _ _ _ _ ?_; first | (refine r_faultNK ht hf (fun u1 => ?_)) | (refine r_records hm (hs2 u1) ?_) | fail))
      all_goals first
        | exact go _ (putF_at _ _ _)
        | (simp only [takeL, setL]; exact go _ (putF_at _ _ _))
        | (exfalso; exact (by assumption : cmpF 0 (optI none (-5)) (-5)) rfl)
        | (exfalso; clear go hX hcall hs2 hB hT ht ht2; simp (disch := omega) only [cmpT, cmpF, setNK_fv, hl2, e5, nI_toI, Int32.toInt_zero] at *; omega)
    · have er : runF T n 81 0 F 0 = (0, F) := by unfold runF; rw [if_neg hn0]
      rw [er] at h
      clear loop
      repeat' (first | (intro hc) | (refine And.intro ?_ ?_) | (exact absurd nI_0 ‹cmpF 0 (nI 0) 0›) | (exact absurd ‹cmpT 0 (nI 1) 0› nI1_ne) | (exact absurd nI_0 ‹cmpT 1 (nI 0) 0›) | (exact absurd ‹cmpF 1 (nI 1) 0› nI1_ne) | (show wp _ _ _ _ _ _ _ _ _ _ _ _; conv => whnf) | (rw [setA_put3 (by omega)]) | (rw [hz]) | (rw [hg]) | (rw [setNK_fput]) | (rw [setA_put (by omega)]) | (simp (disch := omega) only [setNK_fv, hl2]) | (simp (disch := omega) only [nI_add, nI_mul, setN_now, setN_put, nI_cl, Nat.add_zero]) | (refine hcall _ _ _ _ ?_; first | (refine r_faultNK ht hf (fun u1 => ?_)) | (refine r_records hm (hs2 u1) ?_) | fail))
      all_goals first
        | exact stop _ _ (h _)
        | (simp only [takeL, setL]; exact stop _ _ (h _))
        | (exfalso; exact (by assumption : cmpF 0 (optI none (-5)) (-5)) rfl)
        | (exfalso; clear stop h hX hcall hs2 hB hT ht ht2; simp (disch := omega) only [cmpT, cmpF, setNK_fv, hl2, e5, nI_toI, Int32.toInt_zero] at *; omega)
end REF33
