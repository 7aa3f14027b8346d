/-! THE LAW'S METHODS: name, any, turn -/
def nameA (F : Fm) (x : Int32) : Int32 := if F 2 = 0 then upV x (nI 256) else siteA F (upV (shV x 16) (F 2)) (nI 0) + upV x (siteA F (upV (shV x 16) (F 2)) (nI 1))
def restO (b0 : Nat → Int32) (G F : Fm) (v : Int32) : Int32 × Fm := if ¬ iN v 2 then (-1, F) else if b0 (nn v) = 0 then (-3, F) else (rowG G (5 + nn v) 0, rowG G (5 + nn v))
def anyF (b0 : Nat → Int32) (G F : Fm) (j : Nat) (a b : Int32) : Int32 × Fm := match j with
  | 0 => serverF F a b a
  | 1 => siteF F a b a
  | 2 => fillSF F a b a b a
  | 3 => vacF F a b
  | 4 => letterF F a b a
  | 5 => passF F a
  | 6 => restO b0 G F a
  | _ => lifeF F a
def turnF (b0 : Nat → Int32) (G F : Fm) (w : Nat) (a b : Int32) : Int32 × Fm := match w with
  | 0 => serverF F (upV a (nI 4)) (upV b (nI 256 / sizV (shV a 8)) * sizV (shV a 8)) (sizV (shV a 8))
  | 1 => siteF F (upV b (nI 256 / sizV (shV a 8)) * sizV (shV a 8)) (sizV (shV a 8)) (nI 1 + upV (shV b 9) (nI 48))
  | 2 => routerF F
  | 3 => fillSF F (upV a (nI 5)) (upV b (nI 3)) (upV (shV b 2) (nI 8)) (upV (shV b 5) (nI 3)) (nI 1 + upV (shV b 7) (nI 9))
  | 4 => fillSF F (upV a (nI 5)) (upV b (nI 3)) (upV (shV b 2) (nI 8)) (upV (shV b 5) (nI 3)) (nI 1 + upV (shV b 7) (nI 9))
  | 5 => vacF F (upV a (nI 5)) (upV b (nI 3))
  | 6 => regF F (upV a (nI 5))
  | 7 => regF F (upV a (nI 5))
  | 8 => if b &&& nI 1 = 0 then unregF F (upV a (nI 5)) else lifeF F (nI 1 + upV (shV b 1) (nI 20))
  | 9 => if b &&& nI 7 = 0 then forgetF F (upV a (nI 3)) else passF F (nI 1 + upV b (nI 6))
  | 10 => letterF F (upV a (nI 3)) (upV b (nI 256)) (upV (shV b 8) (nI 100))
  | 11 => letterF F (upV a (nI 3)) (upV b (nI 256)) (upV (shV b 8) (nI 100))
  | 12 => letterF F (upV a (nI 3)) (upV b (nI 256)) (upV (shV b 8) (nI 100))
  | 13 => letterF F (upV a (nI 3)) (upV b (nI 256)) (upV (shV b 8) (nI 100))
  | 14 => letterF F (upV a (nI 3)) (nameA F b) (upV (shV b 8) (nI 100))
  | _ => anyF b0 G F (nn (b &&& nI 7)) a b
theorem tot_n {F : Fm} {n m : Int32} : ∀ k, k < 11 → totA F n m (nI k) = totW F k := by
  intro k hk
  unfold totA
  rw [if_neg (fun q => by rw [nI_inj (by omega) (by omega)] at q; omega), if_neg (fun q => by rw [nI_inj (by omega) (by omega)] at q; omega), if_pos (iN_k (by omega) (by omega))]
  rw [show nn (nI k) = k from nI_cl (by omega)]
theorem tot_11 {F : Fm} {n m : Int32} : totA F n m (nI 11) = n := if_pos rfl
theorem tot_2 {F : Fm} {n m : Int32} : totA F n m (nI 2) = F 2 := tot_n 2 (by decide)
theorem nI_lit {k v : Nat} (h1 : Nat.beq k v = false) (h2 : (Nat.ble k 999 && Nat.ble v 999) = true) : ¬ nI k = Int32.ofNat v := by
  intro e
  rw [Bool.and_eq_true] at h2
  have e : nI k = nI v := e
  rw [nI_inj (by have := Nat.le_of_ble_eq_true h2.1; omega) (by have := Nat.le_of_ble_eq_true h2.2; omega)] at e
  subst e
  rw [Nat.beq_refl] at h1
  cases h1
theorem and_miss {k v : Nat} {P Q : Prop} (h1 : Nat.beq k v = false) (h2 : (Nat.ble k 999 && Nat.ble v 999) = true) (q : Q) : (nI k = Int32.ofNat v → P) ∧ (¬ nI k = Int32.ofNat v → Q) := ⟨fun e => absurd e (nI_lit h1 h2), fun _ => q⟩
theorem and_hit {k : Nat} {P Q : Prop} (p : P) : (nI k = Int32.ofNat k → P) ∧ (¬ nI k = Int32.ofNat k → Q) := ⟨fun _ => p, fun h => absurd rfl h⟩
theorem sw_miss {k v t d : Nat} {K : Nat → Prop} {cs : List (Nat × Nat)} (h1 : Nat.beq k v = false) (h2 : (Nat.ble k 999 && Nat.ble v 999) = true) (q : swW (nI k) K d cs) : swW (nI k) K d ((v, t) :: cs) := and_miss h1 h2 q
theorem sw_hit {k t d : Nat} {K : Nat → Prop} {cs : List (Nat × Nat)} (q : K t) : swW (nI k) K d ((k, t) :: cs) := and_hit q
theorem sw_end {k d : Nat} {K : Nat → Prop} (q : K d) : swW (nI k) K d [] := q
section LW2
variable {L : Nat} {xs : Nat → Int32} {f i n B k : Nat} {x y v a b m : Int32} {s s' : St} {F G : Fm} {Q : Option MV → St → Prop}
theorem site_01 (hw : WF F B) (h : ¬ F 2 = 0) : ∃ k a z : Nat, upV (shV x 16) (F 2) = nI k ∧ k < cT F ∧ siteA F (upV (shV x 16) (F 2)) (nI 0) = F (29 + 17 * k) ∧ siteA F (upV (shV x 16) (F 2)) (nI 1) = F (29 + 17 * k + 1) ∧ F (29 + 17 * k) = nI a ∧ F (29 + 17 * k + 1) = nI z ∧ 1 ≤ z ∧ a + z ≤ 256 := by
  have ht := hw.t2
  have e2 := hw.t1
  have h1 : 1 ≤ cT F := by
    rcases Nat.eq_zero_or_pos (cT F) with q | q
    · rw [e2, q] at h; exact absurd rfl h
    · exact q
  have hu : iN (upV (shV x 16) (F 2)) (cT F) := by
    rw [e2]
    exact up_iN h1 (by omega)
  obtain ⟨k, hk, hkT⟩ := iN_nn hu (by omega)
  obtain ⟨p, z, h3, h4, h5, h6⟩ := (hw.site hkT).1
  refine ⟨k, p, z, hk, hkT, ?_, ?_, h3, h4, h5, h6⟩
  · unfold siteA
    rw [if_neg (fun q => q hu), if_neg (fun q => q (iN_k (by omega) (by omega))), if_pos (by decide), hk, show nn (nI k) = k from nI_cl (by omega), show nn (nI 0) = 0 from rfl]
    rfl
  · unfold siteA
    rw [if_neg (fun q => q hu), if_neg (fun q => q (iN_k (by omega) (by omega))), if_pos (by decide), hk, show nn (nI k) = k from nI_cl (by omega), show nn (nI 1) = 1 from by decide]
theorem name_sz (hw : WF F B) (h : ¬ F 2 = 0) : ¬ siteA F (upV (shV x 16) (F 2)) (nI 1) = 0 := by
  obtain ⟨k, p, z, -, -, -, h1, -, h2, h3, h4⟩ := site_01 (x := x) hw h
  rw [h1, h2]
  exact ne0_of (by rw [nI_toI (by omega)]; omega)
theorem name_iN (hw : WF F B) : iN (nameA F x) 256 := by
  unfold nameA
  by_cases h : F 2 = 0
  · rw [if_pos h]
    exact up_iN (by decide) (by decide)
  · rw [if_neg h]
    obtain ⟨k, p, z, -, -, h0, h1, h5, h2, h3, h4⟩ := site_01 (x := x) hw h
    rw [h0, h1, h5, h2]
    obtain ⟨j, hj, hjz⟩ := iN_nn (up_iN (x := x) h3 (by omega)) (by omega)
    rw [hj, nI_add]
    exact iN_k (by omega) (by omega)
set_option maxHeartbeats 4000000 in
set_option maxRecDepth 100000 in
theorem l_name (hw : WF F B) (hR : RepW s 0 F) (h : Q (some (.inl (nameA F x))) s) : wpM L xs codT retT (f + 7) m_L_name [.inr (9, 0), .inl x] s Q := by
  have hz := name_sz (x := x) hw
  unfold nameA at h
  intro call hcall X hX; refine hX 1000 0 _ _ _ ?_
  repeat' (first | (intro hc) | (refine And.intro ?_ ?_) | (exact absurd nI_0 ‹cmpF 0 (nI 0) 0›) | (exact absurd ‹cmpT 0 (nI 1) 0› nI1_ne) | (exact absurd nI_0 ‹cmpT 1 (nI 0) 0›) | (exact absurd ‹cmpF 1 (nI 1) 0› nI1_ne) | (show wp _ _ _ _ _ _ _ _ _ _ _ _; conv => whnf) | (rw [tot_2]) | (simp (disch := omega) only [nI_add, nI_mul, setN_now, setN_put, nI_cl, Nat.add_zero]) | (refine hcall _ _ _ _ ?_; first | (refine c_total hw hR ?_) | (refine c_site hw hR ?_) | (refine l_up (by first | exact (by decide) | exact ‹cmpT 1 (F 2) 0› | exact hz ‹cmpT 1 (F 2) 0›) ?_) | fail))
  all_goals first
    | (rw [if_pos (show F 2 = 0 from ‹cmpF 1 (F 2) 0›)] at h; exact h)
    | (rw [if_neg (show ¬ F 2 = 0 from ‹cmpT 1 (F 2) 0›)] at h; exact h)
    | exact absurd ‹cmpF 1 (F 2) 0› ‹cmpT 1 (F 2) 0›
    | skip
theorem rest_nx (hC : CL s F G n B) (o : Int32 × Fm) (ho : o = restO (s.1 18 0) G F v) (h : ∀ s', Fr s s' → CL s' (nxF F o) (nxG G F n o) (nxN n o) (B + 1) → Q (some (.inl o.1)) s') : wpM L xs codT retT (f + 6) m_X9_restore [.inr (9, 0), .inl v] s Q := by
  refine x_restore hC (fun hv => ?_) (fun j hj hv h0 => ?_) (fun j hj hv h0 s' hf hC' => ?_)
  · have e : o = (-1, F) := by rw [ho]; unfold restO; rw [if_pos hv]
    have ng : (-1 : Int32).toInt < 0 := by decide
    have := h s Fr.refl (by rw [e]; unfold nxF nxG nxN; rw [if_pos ng, if_pos ng, if_pos ng]; exact CL_mono hC (by omega))
    rw [e] at this
    exact this
  · subst hv
    have e : o = (-3, F) := by
      rw [ho]; unfold restO
      rw [if_neg (fun q => q (iN_k hj (by omega))), if_pos (by rw [show nn (nI j) = j from nI_cl (by omega)]; exact h0)]
    have ng : (-3 : Int32).toInt < 0 := by decide
    have := h s Fr.refl (by rw [e]; unfold nxF nxG nxN; rw [if_pos ng, if_pos ng, if_pos ng]; exact CL_mono hC (by omega))
    rw [e] at this
    exact this
  · subst hv
    have e : o = (rowG G (5 + j) 0, rowG G (5 + j)) := by
      rw [ho]; unfold restO
      rw [if_neg (fun q => q (iN_k hj (by omega))), if_neg (by rw [show nn (nI j) = j from nI_cl (by omega)]; exact h0), show nn (nI j) = j from nI_cl (by omega)]
    have hh : ¬ (rowG G (5 + j) 0).toInt < 0 := by
      have := (hC.2.2.2 j hj).2 h0
      have := this.2.1.h.1
      omega
    have := h s' hf (by rw [e]; unfold nxF nxG nxN; rw [if_neg hh, if_neg hh, if_neg hh]; exact CL_mono hC' (by omega))
    rw [e] at this
    exact this
set_option maxHeartbeats 4000000 in
set_option maxRecDepth 100000 in
theorem l_any0 (hC : CL s F G n B) (hB : 1 ≤ B) (hB2 : B < 1000000) (hb : b &&& nI 7 = nI 0) (h : ∀ s', Fr s s' → CL s' (nxF F (anyF (s.1 18 0) G F 0 a b)) (nxG G F n (anyF (s.1 18 0) G F 0 a b)) (nxN n (anyF (s.1 18 0) G F 0 a b)) (B + 1) → Q (some (.inl (anyF (s.1 18 0) G F 0 a b).1)) s') : wpM L xs codT retT (f + 7) m_L_any [.inr (9, 0), .inl a, .inl b] s Q := by
  intro call hcall X hX; refine hX 1000 0 _ _ _ ?_
  repeat' (first | (rw [hb]) | (with_reducible refine and_hit ?_) | (with_reducible refine and_miss (by decide) (by decide) ?_) | (with_reducible refine sw_hit ?_) | (with_reducible refine sw_miss (by decide) (by decide) ?_) | (with_reducible refine sw_end ?_) | (intro hc) | (show wp _ _ _ _ _ _ _ _ _ _ _ _; conv => whnf) | (refine And.intro ?_ ?_) | (exact absurd nI_0 ‹cmpF 0 (nI 0) 0›) | (exact absurd ‹cmpT 0 (nI 1) 0› nI1_ne) | (exact absurd nI_0 ‹cmpT 1 (nI 0) 0›) | (exact absurd ‹cmpF 1 (nI 1) 0› nI1_ne) | (simp (disch := omega) only [nI_add, nI_mul, setN_now, setN_put, nI_cl, Nat.add_zero]) | (refine hcall _ _ _ _ ?_; first | (refine x_addServer hC hB hB2 ?_) | fail))
  all_goals first
    | exact h _ (by assumption) (by assumption)
    | exact absurd (hb.symm.trans ‹b &&& nI 7 = Int32.ofNat _›) (by decide)
    | exact absurd hb (by assumption)
set_option maxHeartbeats 4000000 in
set_option maxRecDepth 100000 in
theorem l_any1 (hC : CL s F G n B) (hB : 1 ≤ B) (hB2 : B < 1000000) (hb : b &&& nI 7 = nI 1) (h : ∀ s', Fr s s' → CL s' (nxF F (anyF (s.1 18 0) G F 1 a b)) (nxG G F n (anyF (s.1 18 0) G F 1 a b)) (nxN n (anyF (s.1 18 0) G F 1 a b)) (B + 1) → Q (some (.inl (anyF (s.1 18 0) G F 1 a b).1)) s') : wpM L xs codT retT (f + 7) m_L_any [.inr (9, 0), .inl a, .inl b] s Q := by
  intro call hcall X hX; refine hX 1000 0 _ _ _ ?_
  repeat' (first | (rw [hb]) | (with_reducible refine and_hit ?_) | (with_reducible refine and_miss (by decide) (by decide) ?_) | (with_reducible refine sw_hit ?_) | (with_reducible refine sw_miss (by decide) (by decide) ?_) | (with_reducible refine sw_end ?_) | (intro hc) | (show wp _ _ _ _ _ _ _ _ _ _ _ _; conv => whnf) | (refine And.intro ?_ ?_) | (exact absurd nI_0 ‹cmpF 0 (nI 0) 0›) | (exact absurd ‹cmpT 0 (nI 1) 0› nI1_ne) | (exact absurd nI_0 ‹cmpT 1 (nI 0) 0›) | (exact absurd ‹cmpF 1 (nI 1) 0› nI1_ne) | (simp (disch := omega) only [nI_add, nI_mul, setN_now, setN_put, nI_cl, Nat.add_zero]) | (refine hcall _ _ _ _ ?_; first | (refine x_addSite hC hB hB2 ?_) | fail))
  all_goals first
    | exact h _ (by assumption) (by assumption)
    | exact absurd (hb.symm.trans ‹b &&& nI 7 = Int32.ofNat _›) (by decide)
    | exact absurd hb (by assumption)
set_option maxHeartbeats 4000000 in
set_option maxRecDepth 100000 in
theorem l_any2 (hC : CL s F G n B) (hB : 1 ≤ B) (hB2 : B < 1000000) (hb : b &&& nI 7 = nI 2) (h : ∀ s', Fr s s' → CL s' (nxF F (anyF (s.1 18 0) G F 2 a b)) (nxG G F n (anyF (s.1 18 0) G F 2 a b)) (nxN n (anyF (s.1 18 0) G F 2 a b)) (B + 1) → Q (some (.inl (anyF (s.1 18 0) G F 2 a b).1)) s') : wpM L xs codT retT (f + 7) m_L_any [.inr (9, 0), .inl a, .inl b] s Q := by
  intro call hcall X hX; refine hX 1000 0 _ _ _ ?_
  repeat' (first | (rw [hb]) | (with_reducible refine and_hit ?_) | (with_reducible refine and_miss (by decide) (by decide) ?_) | (with_reducible refine sw_hit ?_) | (with_reducible refine sw_miss (by decide) (by decide) ?_) | (with_reducible refine sw_end ?_) | (intro hc) | (show wp _ _ _ _ _ _ _ _ _ _ _ _; conv => whnf) | (refine And.intro ?_ ?_) | (exact absurd nI_0 ‹cmpF 0 (nI 0) 0›) | (exact absurd ‹cmpT 0 (nI 1) 0› nI1_ne) | (exact absurd nI_0 ‹cmpT 1 (nI 0) 0›) | (exact absurd ‹cmpF 1 (nI 1) 0› nI1_ne) | (simp (disch := omega) only [nI_add, nI_mul, setN_now, setN_put, nI_cl, Nat.add_zero]) | (refine hcall _ _ _ _ ?_; first | (refine x_setSlot hC hB hB2 ?_) | fail))
  all_goals first
    | exact h _ (by assumption) (by assumption)
    | exact absurd (hb.symm.trans ‹b &&& nI 7 = Int32.ofNat _›) (by decide)
    | exact absurd hb (by assumption)
set_option maxHeartbeats 4000000 in
set_option maxRecDepth 100000 in
theorem l_any3 (hC : CL s F G n B) (hB : 1 ≤ B) (hB2 : B < 1000000) (hb : b &&& nI 7 = nI 3) (h : ∀ s', Fr s s' → CL s' (nxF F (anyF (s.1 18 0) G F 3 a b)) (nxG G F n (anyF (s.1 18 0) G F 3 a b)) (nxN n (anyF (s.1 18 0) G F 3 a b)) (B + 1) → Q (some (.inl (anyF (s.1 18 0) G F 3 a b).1)) s') : wpM L xs codT retT (f + 7) m_L_any [.inr (9, 0), .inl a, .inl b] s Q := by
  intro call hcall X hX; refine hX 1000 0 _ _ _ ?_
  repeat' (first | (rw [hb]) | (with_reducible refine and_hit ?_) | (with_reducible refine and_miss (by decide) (by decide) ?_) | (with_reducible refine sw_hit ?_) | (with_reducible refine sw_miss (by decide) (by decide) ?_) | (with_reducible refine sw_end ?_) | (intro hc) | (show wp _ _ _ _ _ _ _ _ _ _ _ _; conv => whnf) | (refine And.intro ?_ ?_) | (exact absurd nI_0 ‹cmpF 0 (nI 0) 0›) | (exact absurd ‹cmpT 0 (nI 1) 0› nI1_ne) | (exact absurd nI_0 ‹cmpT 1 (nI 0) 0›) | (exact absurd ‹cmpF 1 (nI 1) 0› nI1_ne) | (simp (disch := omega) only [nI_add, nI_mul, setN_now, setN_put, nI_cl, Nat.add_zero]) | (refine hcall _ _ _ _ ?_; first | (refine x_emptySlot hC hB hB2 ?_) | fail))
  all_goals first
    | exact h _ (by assumption) (by assumption)
    | exact absurd (hb.symm.trans ‹b &&& nI 7 = Int32.ofNat _›) (by decide)
    | exact absurd hb (by assumption)
set_option maxHeartbeats 4000000 in
set_option maxRecDepth 100000 in
theorem l_any4 (hC : CL s F G n B) (hB : 1 ≤ B) (hB2 : B < 1000000) (hb : b &&& nI 7 = nI 4) (h : ∀ s', Fr s s' → CL s' (nxF F (anyF (s.1 18 0) G F 4 a b)) (nxG G F n (anyF (s.1 18 0) G F 4 a b)) (nxN n (anyF (s.1 18 0) G F 4 a b)) (B + 1) → Q (some (.inl (anyF (s.1 18 0) G F 4 a b).1)) s') : wpM L xs codT retT (f + 7) m_L_any [.inr (9, 0), .inl a, .inl b] s Q := by
  intro call hcall X hX; refine hX 1000 0 _ _ _ ?_
  repeat' (first | (rw [hb]) | (with_reducible refine and_hit ?_) | (with_reducible refine and_miss (by decide) (by decide) ?_) | (with_reducible refine sw_hit ?_) | (with_reducible refine sw_miss (by decide) (by decide) ?_) | (with_reducible refine sw_end ?_) | (intro hc) | (show wp _ _ _ _ _ _ _ _ _ _ _ _; conv => whnf) | (refine And.intro ?_ ?_) | (exact absurd nI_0 ‹cmpF 0 (nI 0) 0›) | (exact absurd ‹cmpT 0 (nI 1) 0› nI1_ne) | (exact absurd nI_0 ‹cmpT 1 (nI 0) 0›) | (exact absurd ‹cmpF 1 (nI 1) 0› nI1_ne) | (simp (disch := omega) only [nI_add, nI_mul, setN_now, setN_put, nI_cl, Nat.add_zero]) | (refine hcall _ _ _ _ ?_; first | (refine x_send hC hB hB2 ?_) | fail))
  all_goals first
    | exact h _ (by assumption) (by assumption)
    | exact absurd (hb.symm.trans ‹b &&& nI 7 = Int32.ofNat _›) (by decide)
    | exact absurd hb (by assumption)
set_option maxHeartbeats 4000000 in
set_option maxRecDepth 100000 in
theorem l_any5 (hC : CL s F G n B) (hB : 1 ≤ B) (hB2 : B < 1000000) (hb : b &&& nI 7 = nI 5) (h : ∀ s', Fr s s' → CL s' (nxF F (anyF (s.1 18 0) G F 5 a b)) (nxG G F n (anyF (s.1 18 0) G F 5 a b)) (nxN n (anyF (s.1 18 0) G F 5 a b)) (B + 1) → Q (some (.inl (anyF (s.1 18 0) G F 5 a b).1)) s') : wpM L xs codT retT (f + 7) m_L_any [.inr (9, 0), .inl a, .inl b] s Q := by
  intro call hcall X hX; refine hX 1000 0 _ _ _ ?_
  repeat' (first | (rw [hb]) | (with_reducible refine and_hit ?_) | (with_reducible refine and_miss (by decide) (by decide) ?_) | (with_reducible refine sw_hit ?_) | (with_reducible refine sw_miss (by decide) (by decide) ?_) | (with_reducible refine sw_end ?_) | (intro hc) | (show wp _ _ _ _ _ _ _ _ _ _ _ _; conv => whnf) | (refine And.intro ?_ ?_) | (exact absurd nI_0 ‹cmpF 0 (nI 0) 0›) | (exact absurd ‹cmpT 0 (nI 1) 0› nI1_ne) | (exact absurd nI_0 ‹cmpT 1 (nI 0) 0›) | (exact absurd ‹cmpF 1 (nI 1) 0› nI1_ne) | (simp (disch := omega) only [nI_add, nI_mul, setN_now, setN_put, nI_cl, Nat.add_zero]) | (refine hcall _ _ _ _ ?_; first | (refine x_pass hC hB hB2 ?_) | fail))
  all_goals first
    | exact h _ (by assumption) (by assumption)
    | exact absurd (hb.symm.trans ‹b &&& nI 7 = Int32.ofNat _›) (by decide)
    | exact absurd hb (by assumption)
set_option maxHeartbeats 4000000 in
set_option maxRecDepth 100000 in
theorem l_any6 (hC : CL s F G n B) (hB : 1 ≤ B) (hB2 : B < 1000000) (hb : b &&& nI 7 = nI 6) (h : ∀ s', Fr s s' → CL s' (nxF F (anyF (s.1 18 0) G F 6 a b)) (nxG G F n (anyF (s.1 18 0) G F 6 a b)) (nxN n (anyF (s.1 18 0) G F 6 a b)) (B + 1) → Q (some (.inl (anyF (s.1 18 0) G F 6 a b).1)) s') : wpM L xs codT retT (f + 7) m_L_any [.inr (9, 0), .inl a, .inl b] s Q := by
  intro call hcall X hX; refine hX 1000 0 _ _ _ ?_
  repeat' (first | (rw [hb]) | (with_reducible refine and_hit ?_) | (with_reducible refine and_miss (by decide) (by decide) ?_) | (with_reducible refine sw_hit ?_) | (with_reducible refine sw_miss (by decide) (by decide) ?_) | (with_reducible refine sw_end ?_) | (intro hc) | (show wp _ _ _ _ _ _ _ _ _ _ _ _; conv => whnf) | (refine And.intro ?_ ?_) | (exact absurd nI_0 ‹cmpF 0 (nI 0) 0›) | (exact absurd ‹cmpT 0 (nI 1) 0› nI1_ne) | (exact absurd nI_0 ‹cmpT 1 (nI 0) 0›) | (exact absurd ‹cmpF 1 (nI 1) 0› nI1_ne) | (simp (disch := omega) only [nI_add, nI_mul, setN_now, setN_put, nI_cl, Nat.add_zero]) | (refine hcall _ _ _ _ ?_; first | (refine rest_nx hC _ rfl ?_) | fail))
  all_goals first
    | exact h _ (by assumption) (by assumption)
    | exact absurd (hb.symm.trans ‹b &&& nI 7 = Int32.ofNat _›) (by decide)
    | exact absurd hb (by assumption)
set_option maxHeartbeats 4000000 in
set_option maxRecDepth 100000 in
theorem l_any7 (hC : CL s F G n B) (hB : 1 ≤ B) (hB2 : B < 1000000) (hb : b &&& nI 7 = nI 7) (h : ∀ s', Fr s s' → CL s' (nxF F (anyF (s.1 18 0) G F 7 a b)) (nxG G F n (anyF (s.1 18 0) G F 7 a b)) (nxN n (anyF (s.1 18 0) G F 7 a b)) (B + 1) → Q (some (.inl (anyF (s.1 18 0) G F 7 a b).1)) s') : wpM L xs codT retT (f + 7) m_L_any [.inr (9, 0), .inl a, .inl b] s Q := by
  intro call hcall X hX; refine hX 1000 0 _ _ _ ?_
  repeat' (first | (rw [hb]) | (with_reducible refine and_hit ?_) | (with_reducible refine and_miss (by decide) (by decide) ?_) | (with_reducible refine sw_hit ?_) | (with_reducible refine sw_miss (by decide) (by decide) ?_) | (with_reducible refine sw_end ?_) | (intro hc) | (show wp _ _ _ _ _ _ _ _ _ _ _ _; conv => whnf) | (refine And.intro ?_ ?_) | (exact absurd nI_0 ‹cmpF 0 (nI 0) 0›) | (exact absurd ‹cmpT 0 (nI 1) 0› nI1_ne) | (exact absurd nI_0 ‹cmpT 1 (nI 0) 0›) | (exact absurd ‹cmpF 1 (nI 1) 0› nI1_ne) | (simp (disch := omega) only [nI_add, nI_mul, setN_now, setN_put, nI_cl, Nat.add_zero]) | (refine hcall _ _ _ _ ?_; first | (refine x_setMapLife hC hB hB2 ?_) | fail))
  all_goals first
    | exact h _ (by assumption) (by assumption)
    | exact absurd (hb.symm.trans ‹b &&& nI 7 = Int32.ofNat _›) (by decide)
    | exact absurd hb (by assumption)
theorem l_any (hC : CL s F G n B) (hB : 1 ≤ B) (hB2 : B < 1000000) (h : ∀ s', Fr s s' → CL s' (nxF F (anyF (s.1 18 0) G F (nn (b &&& nI 7)) a b)) (nxG G F n (anyF (s.1 18 0) G F (nn (b &&& nI 7)) a b)) (nxN n (anyF (s.1 18 0) G F (nn (b &&& nI 7)) a b)) (B + 1) → Q (some (.inl (anyF (s.1 18 0) G F (nn (b &&& nI 7)) a b).1)) s') : wpM L xs codT retT (f + 7) m_L_any [.inr (9, 0), .inl a, .inl b] s Q := by
  obtain ⟨j, hj, e⟩ := and7 b
  rw [e, show nn (nI j) = j from nI_cl (by omega)] at h
  match j, hj, e, h with
  | 0, _, e, h => exact l_any0 hC hB hB2 e h
  | 1, _, e, h => exact l_any1 hC hB hB2 e h
  | 2, _, e, h => exact l_any2 hC hB hB2 e h
  | 3, _, e, h => exact l_any3 hC hB hB2 e h
  | 4, _, e, h => exact l_any4 hC hB hB2 e h
  | 5, _, e, h => exact l_any5 hC hB hB2 e h
  | 6, _, e, h => exact l_any6 hC hB hB2 e h
  | 7, _, e, h => exact l_any7 hC hB hB2 e h
  | n + 8, h, _, _ => exact absurd h (by omega)
theorem siz_ne : ¬ sizV x = 0 := ne0_of (siz_ok x).1
theorem siz_ne2 : ¬ nI 256 / sizV x = 0 := ne0_of (siz_ok x).2.2
set_option maxHeartbeats 4000000 in
set_option maxRecDepth 100000 in
theorem l_turn0 (hC : CL s F G n B) (hB : 1 ≤ B) (hB2 : B < 1000000) (h : ∀ s', Fr s s' → CL s' (nxF F (turnF (s.1 18 0) G F 0 a b)) (nxG G F n (turnF (s.1 18 0) G F 0 a b)) (nxN n (turnF (s.1 18 0) G F 0 a b)) (B + 1) → Q (some (.inl (turnF (s.1 18 0) G F 0 a b).1)) s') : wpM L xs codT retT (f + 8) m_L_turn [.inr (9, 0), .inl (nI 0), .inl a, .inl b] s Q := by
  intro call hcall X hX; refine hX 1000 0 _ _ _ ?_
  repeat' (first | (with_reducible refine and_hit ?_) | (with_reducible refine and_miss (by decide) (by decide) ?_) | (with_reducible refine sw_hit ?_) | (with_reducible refine sw_miss (by decide) (by decide) ?_) | (with_reducible refine sw_end ?_) | (intro hc) | (show wp _ _ _ _ _ _ _ _ _ _ _ _; conv => whnf) | (refine And.intro ?_ ?_) | (exact absurd nI_0 ‹cmpF 0 (nI 0) 0›) | (exact absurd ‹cmpT 0 (nI 1) 0› nI1_ne) | (exact absurd nI_0 ‹cmpT 1 (nI 0) 0›) | (exact absurd ‹cmpF 1 (nI 1) 0› nI1_ne) | (simp (disch := omega) only [nI_add, nI_mul, setN_now, setN_put, nI_cl, Nat.add_zero]) | (refine hcall _ _ _ _ ?_; first | (refine l_size ?_) | (refine l_up (by first | exact siz_ne2 | decide) ?_) | (refine x_addServer hC hB hB2 ?_) | fail))
  all_goals first
    | exact h _ (by assumption) (by assumption)
    | exact absurd ‹nI 0 = Int32.ofNat _› (by decide)
    | exact absurd rfl (by assumption)
    | exact siz_ne (by assumption)
    | exact h
set_option maxHeartbeats 4000000 in
set_option maxRecDepth 100000 in
theorem l_turn1 (hC : CL s F G n B) (hB : 1 ≤ B) (hB2 : B < 1000000) (h : ∀ s', Fr s s' → CL s' (nxF F (turnF (s.1 18 0) G F 1 a b)) (nxG G F n (turnF (s.1 18 0) G F 1 a b)) (nxN n (turnF (s.1 18 0) G F 1 a b)) (B + 1) → Q (some (.inl (turnF (s.1 18 0) G F 1 a b).1)) s') : wpM L xs codT retT (f + 8) m_L_turn [.inr (9, 0), .inl (nI 1), .inl a, .inl b] s Q := by
  intro call hcall X hX; refine hX 1000 0 _ _ _ ?_
  repeat' (first | (with_reducible refine and_hit ?_) | (with_reducible refine and_miss (by decide) (by decide) ?_) | (with_reducible refine sw_hit ?_) | (with_reducible refine sw_miss (by decide) (by decide) ?_) | (with_reducible refine sw_end ?_) | (intro hc) | (show wp _ _ _ _ _ _ _ _ _ _ _ _; conv => whnf) | (refine And.intro ?_ ?_) | (exact absurd nI_0 ‹cmpF 0 (nI 0) 0›) | (exact absurd ‹cmpT 0 (nI 1) 0› nI1_ne) | (exact absurd nI_0 ‹cmpT 1 (nI 0) 0›) | (exact absurd ‹cmpF 1 (nI 1) 0› nI1_ne) | (simp (disch := omega) only [nI_add, nI_mul, setN_now, setN_put, nI_cl, Nat.add_zero]) | (refine hcall _ _ _ _ ?_; first | (refine l_size ?_) | (refine l_up (by first | exact siz_ne2 | decide) ?_) | (refine x_addSite hC hB hB2 ?_) | fail))
  all_goals first
    | exact h _ (by assumption) (by assumption)
    | exact absurd ‹nI 1 = Int32.ofNat _› (by decide)
    | exact absurd rfl (by assumption)
    | exact siz_ne (by assumption)
    | exact h
set_option maxHeartbeats 4000000 in
set_option maxRecDepth 100000 in
theorem l_turn2 (hC : CL s F G n B) (hB : 1 ≤ B) (hB2 : B < 1000000) (h : ∀ s', Fr s s' → CL s' (nxF F (turnF (s.1 18 0) G F 2 a b)) (nxG G F n (turnF (s.1 18 0) G F 2 a b)) (nxN n (turnF (s.1 18 0) G F 2 a b)) (B + 1) → Q (some (.inl (turnF (s.1 18 0) G F 2 a b).1)) s') : wpM L xs codT retT (f + 8) m_L_turn [.inr (9, 0), .inl (nI 2), .inl a, .inl b] s Q := by
  intro call hcall X hX; refine hX 1000 0 _ _ _ ?_
  repeat' (first | (with_reducible refine and_hit ?_) | (with_reducible refine and_miss (by decide) (by decide) ?_) | (with_reducible refine sw_hit ?_) | (with_reducible refine sw_miss (by decide) (by decide) ?_) | (with_reducible refine sw_end ?_) | (intro hc) | (show wp _ _ _ _ _ _ _ _ _ _ _ _; conv => whnf) | (refine And.intro ?_ ?_) | (exact absurd nI_0 ‹cmpF 0 (nI 0) 0›) | (exact absurd ‹cmpT 0 (nI 1) 0› nI1_ne) | (exact absurd nI_0 ‹cmpT 1 (nI 0) 0›) | (exact absurd ‹cmpF 1 (nI 1) 0› nI1_ne) | (simp (disch := omega) only [nI_add, nI_mul, setN_now, setN_put, nI_cl, Nat.add_zero]) | (refine hcall _ _ _ _ ?_; first | (refine l_size ?_) | (refine l_up (by first | exact siz_ne2 | decide) ?_) | (refine x_addRouter hC hB hB2 ?_) | fail))
  all_goals first
    | exact h _ (by assumption) (by assumption)
    | exact absurd ‹nI 2 = Int32.ofNat _› (by decide)
    | exact absurd rfl (by assumption)
    | exact siz_ne (by assumption)
    | exact h
set_option maxHeartbeats 4000000 in
set_option maxRecDepth 100000 in
theorem l_turn3 (hC : CL s F G n B) (hB : 1 ≤ B) (hB2 : B < 1000000) (h : ∀ s', Fr s s' → CL s' (nxF F (turnF (s.1 18 0) G F 3 a b)) (nxG G F n (turnF (s.1 18 0) G F 3 a b)) (nxN n (turnF (s.1 18 0) G F 3 a b)) (B + 1) → Q (some (.inl (turnF (s.1 18 0) G F 3 a b).1)) s') : wpM L xs codT retT (f + 8) m_L_turn [.inr (9, 0), .inl (nI 3), .inl a, .inl b] s Q := by
  intro call hcall X hX; refine hX 1000 0 _ _ _ ?_
  repeat' (first | (with_reducible refine and_hit ?_) | (with_reducible refine and_miss (by decide) (by decide) ?_) | (with_reducible refine sw_hit ?_) | (with_reducible refine sw_miss (by decide) (by decide) ?_) | (with_reducible refine sw_end ?_) | (intro hc) | (show wp _ _ _ _ _ _ _ _ _ _ _ _; conv => whnf) | (refine And.intro ?_ ?_) | (exact absurd nI_0 ‹cmpF 0 (nI 0) 0›) | (exact absurd ‹cmpT 0 (nI 1) 0› nI1_ne) | (exact absurd nI_0 ‹cmpT 1 (nI 0) 0›) | (exact absurd ‹cmpF 1 (nI 1) 0› nI1_ne) | (simp (disch := omega) only [nI_add, nI_mul, setN_now, setN_put, nI_cl, Nat.add_zero]) | (refine hcall _ _ _ _ ?_; first | (refine l_size ?_) | (refine l_up (by first | exact siz_ne2 | decide) ?_) | (refine x_setSlot hC hB hB2 ?_) | fail))
  all_goals first
    | exact h _ (by assumption) (by assumption)
    | exact absurd ‹nI 3 = Int32.ofNat _› (by decide)
    | exact absurd rfl (by assumption)
    | exact siz_ne (by assumption)
    | exact h
set_option maxHeartbeats 4000000 in
set_option maxRecDepth 100000 in
theorem l_turn4 (hC : CL s F G n B) (hB : 1 ≤ B) (hB2 : B < 1000000) (h : ∀ s', Fr s s' → CL s' (nxF F (turnF (s.1 18 0) G F 4 a b)) (nxG G F n (turnF (s.1 18 0) G F 4 a b)) (nxN n (turnF (s.1 18 0) G F 4 a b)) (B + 1) → Q (some (.inl (turnF (s.1 18 0) G F 4 a b).1)) s') : wpM L xs codT retT (f + 8) m_L_turn [.inr (9, 0), .inl (nI 4), .inl a, .inl b] s Q := by
  intro call hcall X hX; refine hX 1000 0 _ _ _ ?_
  repeat' (first | (with_reducible refine and_hit ?_) | (with_reducible refine and_miss (by decide) (by decide) ?_) | (with_reducible refine sw_hit ?_) | (with_reducible refine sw_miss (by decide) (by decide) ?_) | (with_reducible refine sw_end ?_) | (intro hc) | (show wp _ _ _ _ _ _ _ _ _ _ _ _; conv => whnf) | (refine And.intro ?_ ?_) | (exact absurd nI_0 ‹cmpF 0 (nI 0) 0›) | (exact absurd ‹cmpT 0 (nI 1) 0› nI1_ne) | (exact absurd nI_0 ‹cmpT 1 (nI 0) 0›) | (exact absurd ‹cmpF 1 (nI 1) 0› nI1_ne) | (simp (disch := omega) only [nI_add, nI_mul, setN_now, setN_put, nI_cl, Nat.add_zero]) | (refine hcall _ _ _ _ ?_; first | (refine l_size ?_) | (refine l_up (by first | exact siz_ne2 | decide) ?_) | (refine x_setSlot hC hB hB2 ?_) | fail))
  all_goals first
    | exact h _ (by assumption) (by assumption)
    | exact absurd ‹nI 4 = Int32.ofNat _› (by decide)
    | exact absurd rfl (by assumption)
    | exact siz_ne (by assumption)
    | exact h
set_option maxHeartbeats 4000000 in
set_option maxRecDepth 100000 in
theorem l_turn5 (hC : CL s F G n B) (hB : 1 ≤ B) (hB2 : B < 1000000) (h : ∀ s', Fr s s' → CL s' (nxF F (turnF (s.1 18 0) G F 5 a b)) (nxG G F n (turnF (s.1 18 0) G F 5 a b)) (nxN n (turnF (s.1 18 0) G F 5 a b)) (B + 1) → Q (some (.inl (turnF (s.1 18 0) G F 5 a b).1)) s') : wpM L xs codT retT (f + 8) m_L_turn [.inr (9, 0), .inl (nI 5), .inl a, .inl b] s Q := by
  intro call hcall X hX; refine hX 1000 0 _ _ _ ?_
  repeat' (first | (with_reducible refine and_hit ?_) | (with_reducible refine and_miss (by decide) (by decide) ?_) | (with_reducible refine sw_hit ?_) | (with_reducible refine sw_miss (by decide) (by decide) ?_) | (with_reducible refine sw_end ?_) | (intro hc) | (show wp _ _ _ _ _ _ _ _ _ _ _ _; conv => whnf) | (refine And.intro ?_ ?_) | (exact absurd nI_0 ‹cmpF 0 (nI 0) 0›) | (exact absurd ‹cmpT 0 (nI 1) 0› nI1_ne) | (exact absurd nI_0 ‹cmpT 1 (nI 0) 0›) | (exact absurd ‹cmpF 1 (nI 1) 0› nI1_ne) | (simp (disch := omega) only [nI_add, nI_mul, setN_now, setN_put, nI_cl, Nat.add_zero]) | (refine hcall _ _ _ _ ?_; first | (refine l_size ?_) | (refine l_up (by first | exact siz_ne2 | decide) ?_) | (refine x_emptySlot hC hB hB2 ?_) | fail))
  all_goals first
    | exact h _ (by assumption) (by assumption)
    | exact absurd ‹nI 5 = Int32.ofNat _› (by decide)
    | exact absurd rfl (by assumption)
    | exact siz_ne (by assumption)
    | exact h
set_option maxHeartbeats 4000000 in
set_option maxRecDepth 100000 in
theorem l_turn6 (hC : CL s F G n B) (hB : 1 ≤ B) (hB2 : B < 1000000) (h : ∀ s', Fr s s' → CL s' (nxF F (turnF (s.1 18 0) G F 6 a b)) (nxG G F n (turnF (s.1 18 0) G F 6 a b)) (nxN n (turnF (s.1 18 0) G F 6 a b)) (B + 1) → Q (some (.inl (turnF (s.1 18 0) G F 6 a b).1)) s') : wpM L xs codT retT (f + 8) m_L_turn [.inr (9, 0), .inl (nI 6), .inl a, .inl b] s Q := by
  intro call hcall X hX; refine hX 1000 0 _ _ _ ?_
  repeat' (first | (with_reducible refine and_hit ?_) | (with_reducible refine and_miss (by decide) (by decide) ?_) | (with_reducible refine sw_hit ?_) | (with_reducible refine sw_miss (by decide) (by decide) ?_) | (with_reducible refine sw_end ?_) | (intro hc) | (show wp _ _ _ _ _ _ _ _ _ _ _ _; conv => whnf) | (refine And.intro ?_ ?_) | (exact absurd nI_0 ‹cmpF 0 (nI 0) 0›) | (exact absurd ‹cmpT 0 (nI 1) 0› nI1_ne) | (exact absurd nI_0 ‹cmpT 1 (nI 0) 0›) | (exact absurd ‹cmpF 1 (nI 1) 0› nI1_ne) | (simp (disch := omega) only [nI_add, nI_mul, setN_now, setN_put, nI_cl, Nat.add_zero]) | (refine hcall _ _ _ _ ?_; first | (refine l_size ?_) | (refine l_up (by first | exact siz_ne2 | decide) ?_) | (refine x_register hC hB hB2 ?_) | fail))
  all_goals first
    | exact h _ (by assumption) (by assumption)
    | exact absurd ‹nI 6 = Int32.ofNat _› (by decide)
    | exact absurd rfl (by assumption)
    | exact siz_ne (by assumption)
    | exact h
set_option maxHeartbeats 4000000 in
set_option maxRecDepth 100000 in
theorem l_turn7 (hC : CL s F G n B) (hB : 1 ≤ B) (hB2 : B < 1000000) (h : ∀ s', Fr s s' → CL s' (nxF F (turnF (s.1 18 0) G F 7 a b)) (nxG G F n (turnF (s.1 18 0) G F 7 a b)) (nxN n (turnF (s.1 18 0) G F 7 a b)) (B + 1) → Q (some (.inl (turnF (s.1 18 0) G F 7 a b).1)) s') : wpM L xs codT retT (f + 8) m_L_turn [.inr (9, 0), .inl (nI 7), .inl a, .inl b] s Q := by
  intro call hcall X hX; refine hX 1000 0 _ _ _ ?_
  repeat' (first | (with_reducible refine and_hit ?_) | (with_reducible refine and_miss (by decide) (by decide) ?_) | (with_reducible refine sw_hit ?_) | (with_reducible refine sw_miss (by decide) (by decide) ?_) | (with_reducible refine sw_end ?_) | (intro hc) | (show wp _ _ _ _ _ _ _ _ _ _ _ _; conv => whnf) | (refine And.intro ?_ ?_) | (exact absurd nI_0 ‹cmpF 0 (nI 0) 0›) | (exact absurd ‹cmpT 0 (nI 1) 0› nI1_ne) | (exact absurd nI_0 ‹cmpT 1 (nI 0) 0›) | (exact absurd ‹cmpF 1 (nI 1) 0› nI1_ne) | (simp (disch := omega) only [nI_add, nI_mul, setN_now, setN_put, nI_cl, Nat.add_zero]) | (refine hcall _ _ _ _ ?_; first | (refine l_size ?_) | (refine l_up (by first | exact siz_ne2 | decide) ?_) | (refine x_register hC hB hB2 ?_) | fail))
  all_goals first
    | exact h _ (by assumption) (by assumption)
    | exact absurd ‹nI 7 = Int32.ofNat _› (by decide)
    | exact absurd rfl (by assumption)
    | exact siz_ne (by assumption)
    | exact h
set_option maxHeartbeats 4000000 in
set_option maxRecDepth 100000 in
theorem l_turn8 (hC : CL s F G n B) (hB : 1 ≤ B) (hB2 : B < 1000000) (h : ∀ s', Fr s s' → CL s' (nxF F (turnF (s.1 18 0) G F 8 a b)) (nxG G F n (turnF (s.1 18 0) G F 8 a b)) (nxN n (turnF (s.1 18 0) G F 8 a b)) (B + 1) → Q (some (.inl (turnF (s.1 18 0) G F 8 a b).1)) s') : wpM L xs codT retT (f + 8) m_L_turn [.inr (9, 0), .inl (nI 8), .inl a, .inl b] s Q := by
  unfold turnF at h
  by_cases hb : b &&& nI 1 = 0
  · rw [if_pos hb] at h
    intro call hcall X hX; refine hX 1000 0 _ _ _ ?_
    repeat' (first | (with_reducible refine and_hit ?_) | (with_reducible refine and_miss (by decide) (by decide) ?_) | (with_reducible refine sw_hit ?_) | (with_reducible refine sw_miss (by decide) (by decide) ?_) | (with_reducible refine sw_end ?_) | (intro hc) | (show wp _ _ _ _ _ _ _ _ _ _ _ _; conv => whnf) | (refine And.intro ?_ ?_) | (exact absurd nI_0 ‹cmpF 0 (nI 0) 0›) | (exact absurd ‹cmpT 0 (nI 1) 0› nI1_ne) | (exact absurd nI_0 ‹cmpT 1 (nI 0) 0›) | (exact absurd ‹cmpF 1 (nI 1) 0› nI1_ne) | (simp (disch := omega) only [nI_add, nI_mul, setN_now, setN_put, nI_cl, Nat.add_zero]) | (refine hcall _ _ _ _ ?_; first | (refine l_size ?_) | (refine l_up (by first | exact siz_ne2 | decide) ?_) | (refine x_unregister hC hB hB2 ?_) | (refine x_setMapLife hC hB hB2 ?_) | fail))
    all_goals first
      | exact h _ (by assumption) (by assumption)
      | exact absurd ‹nI 8 = Int32.ofNat _› (by decide)
      | exact absurd rfl (by assumption)
      | exact absurd hb (by assumption)
      | exact siz_ne (by assumption)
      | exact h
  · rw [if_neg hb] at h
    intro call hcall X hX; refine hX 1000 0 _ _ _ ?_
    repeat' (first | (with_reducible refine and_hit ?_) | (with_reducible refine and_miss (by decide) (by decide) ?_) | (with_reducible refine sw_hit ?_) | (with_reducible refine sw_miss (by decide) (by decide) ?_) | (with_reducible refine sw_end ?_) | (intro hc) | (show wp _ _ _ _ _ _ _ _ _ _ _ _; conv => whnf) | (refine And.intro ?_ ?_) | (exact absurd nI_0 ‹cmpF 0 (nI 0) 0›) | (exact absurd ‹cmpT 0 (nI 1) 0› nI1_ne) | (exact absurd nI_0 ‹cmpT 1 (nI 0) 0›) | (exact absurd ‹cmpF 1 (nI 1) 0› nI1_ne) | (simp (disch := omega) only [nI_add, nI_mul, setN_now, setN_put, nI_cl, Nat.add_zero]) | (refine hcall _ _ _ _ ?_; first | (refine l_size ?_) | (refine l_up (by first | exact siz_ne2 | decide) ?_) | (refine x_unregister hC hB hB2 ?_) | (refine x_setMapLife hC hB hB2 ?_) | fail))
    all_goals first
      | exact h _ (by assumption) (by assumption)
      | exact absurd ‹nI 8 = Int32.ofNat _› (by decide)
      | exact absurd rfl (by assumption)
      | exact absurd (by assumption) hb
      | exact siz_ne (by assumption)
      | exact h
set_option maxHeartbeats 4000000 in
set_option maxRecDepth 100000 in
theorem l_turn9 (hC : CL s F G n B) (hB : 1 ≤ B) (hB2 : B < 1000000) (h : ∀ s', Fr s s' → CL s' (nxF F (turnF (s.1 18 0) G F 9 a b)) (nxG G F n (turnF (s.1 18 0) G F 9 a b)) (nxN n (turnF (s.1 18 0) G F 9 a b)) (B + 1) → Q (some (.inl (turnF (s.1 18 0) G F 9 a b).1)) s') : wpM L xs codT retT (f + 8) m_L_turn [.inr (9, 0), .inl (nI 9), .inl a, .inl b] s Q := by
  unfold turnF at h
  by_cases hb : b &&& nI 7 = 0
  · rw [if_pos hb] at h
    intro call hcall X hX; refine hX 1000 0 _ _ _ ?_
    repeat' (first | (with_reducible refine and_hit ?_) | (with_reducible refine and_miss (by decide) (by decide) ?_) | (with_reducible refine sw_hit ?_) | (with_reducible refine sw_miss (by decide) (by decide) ?_) | (with_reducible refine sw_end ?_) | (intro hc) | (show wp _ _ _ _ _ _ _ _ _ _ _ _; conv => whnf) | (refine And.intro ?_ ?_) | (exact absurd nI_0 ‹cmpF 0 (nI 0) 0›) | (exact absurd ‹cmpT 0 (nI 1) 0› nI1_ne) | (exact absurd nI_0 ‹cmpT 1 (nI 0) 0›) | (exact absurd ‹cmpF 1 (nI 1) 0› nI1_ne) | (simp (disch := omega) only [nI_add, nI_mul, setN_now, setN_put, nI_cl, Nat.add_zero]) | (refine hcall _ _ _ _ ?_; first | (refine l_size ?_) | (refine l_up (by first | exact siz_ne2 | decide) ?_) | (refine x_forget hC hB hB2 ?_) | (refine x_pass hC hB hB2 ?_) | fail))
    all_goals first
      | exact h _ (by assumption) (by assumption)
      | exact absurd ‹nI 9 = Int32.ofNat _› (by decide)
      | exact absurd rfl (by assumption)
      | exact absurd hb (by assumption)
      | exact siz_ne (by assumption)
      | exact h
  · rw [if_neg hb] at h
    intro call hcall X hX; refine hX 1000 0 _ _ _ ?_
    repeat' (first | (with_reducible refine and_hit ?_) | (with_reducible refine and_miss (by decide) (by decide) ?_) | (with_reducible refine sw_hit ?_) | (with_reducible refine sw_miss (by decide) (by decide) ?_) | (with_reducible refine sw_end ?_) | (intro hc) | (show wp _ _ _ _ _ _ _ _ _ _ _ _; conv => whnf) | (refine And.intro ?_ ?_) | (exact absurd nI_0 ‹cmpF 0 (nI 0) 0›) | (exact absurd ‹cmpT 0 (nI 1) 0› nI1_ne) | (exact absurd nI_0 ‹cmpT 1 (nI 0) 0›) | (exact absurd ‹cmpF 1 (nI 1) 0› nI1_ne) | (simp (disch := omega) only [nI_add, nI_mul, setN_now, setN_put, nI_cl, Nat.add_zero]) | (refine hcall _ _ _ _ ?_; first | (refine l_size ?_) | (refine l_up (by first | exact siz_ne2 | decide) ?_) | (refine x_forget hC hB hB2 ?_) | (refine x_pass hC hB hB2 ?_) | fail))
    all_goals first
      | exact h _ (by assumption) (by assumption)
      | exact absurd ‹nI 9 = Int32.ofNat _› (by decide)
      | exact absurd rfl (by assumption)
      | exact absurd (by assumption) hb
      | exact siz_ne (by assumption)
      | exact h
set_option maxHeartbeats 4000000 in
set_option maxRecDepth 100000 in
theorem l_turn10 (hC : CL s F G n B) (hB : 1 ≤ B) (hB2 : B < 1000000) (h : ∀ s', Fr s s' → CL s' (nxF F (turnF (s.1 18 0) G F 10 a b)) (nxG G F n (turnF (s.1 18 0) G F 10 a b)) (nxN n (turnF (s.1 18 0) G F 10 a b)) (B + 1) → Q (some (.inl (turnF (s.1 18 0) G F 10 a b).1)) s') : wpM L xs codT retT (f + 8) m_L_turn [.inr (9, 0), .inl (nI 10), .inl a, .inl b] s Q := by
  intro call hcall X hX; refine hX 1000 0 _ _ _ ?_
  repeat' (first | (with_reducible refine and_hit ?_) | (with_reducible refine and_miss (by decide) (by decide) ?_) | (with_reducible refine sw_hit ?_) | (with_reducible refine sw_miss (by decide) (by decide) ?_) | (with_reducible refine sw_end ?_) | (intro hc) | (show wp _ _ _ _ _ _ _ _ _ _ _ _; conv => whnf) | (refine And.intro ?_ ?_) | (exact absurd nI_0 ‹cmpF 0 (nI 0) 0›) | (exact absurd ‹cmpT 0 (nI 1) 0› nI1_ne) | (exact absurd nI_0 ‹cmpT 1 (nI 0) 0›) | (exact absurd ‹cmpF 1 (nI 1) 0› nI1_ne) | (simp (disch := omega) only [nI_add, nI_mul, setN_now, setN_put, nI_cl, Nat.add_zero]) | (refine hcall _ _ _ _ ?_; first | (refine l_size ?_) | (refine l_up (by first | exact siz_ne2 | decide) ?_) | (refine x_send hC hB hB2 ?_) | fail))
  all_goals first
    | exact h _ (by assumption) (by assumption)
    | exact absurd ‹nI 10 = Int32.ofNat _› (by decide)
    | exact absurd rfl (by assumption)
    | exact siz_ne (by assumption)
    | exact h
set_option maxHeartbeats 4000000 in
set_option maxRecDepth 100000 in
theorem l_turn11 (hC : CL s F G n B) (hB : 1 ≤ B) (hB2 : B < 1000000) (h : ∀ s', Fr s s' → CL s' (nxF F (turnF (s.1 18 0) G F 11 a b)) (nxG G F n (turnF (s.1 18 0) G F 11 a b)) (nxN n (turnF (s.1 18 0) G F 11 a b)) (B + 1) → Q (some (.inl (turnF (s.1 18 0) G F 11 a b).1)) s') : wpM L xs codT retT (f + 8) m_L_turn [.inr (9, 0), .inl (nI 11), .inl a, .inl b] s Q := by
  intro call hcall X hX; refine hX 1000 0 _ _ _ ?_
  repeat' (first | (with_reducible refine and_hit ?_) | (with_reducible refine and_miss (by decide) (by decide) ?_) | (with_reducible refine sw_hit ?_) | (with_reducible refine sw_miss (by decide) (by decide) ?_) | (with_reducible refine sw_end ?_) | (intro hc) | (show wp _ _ _ _ _ _ _ _ _ _ _ _; conv => whnf) | (refine And.intro ?_ ?_) | (exact absurd nI_0 ‹cmpF 0 (nI 0) 0›) | (exact absurd ‹cmpT 0 (nI 1) 0› nI1_ne) | (exact absurd nI_0 ‹cmpT 1 (nI 0) 0›) | (exact absurd ‹cmpF 1 (nI 1) 0› nI1_ne) | (simp (disch := omega) only [nI_add, nI_mul, setN_now, setN_put, nI_cl, Nat.add_zero]) | (refine hcall _ _ _ _ ?_; first | (refine l_size ?_) | (refine l_up (by first | exact siz_ne2 | decide) ?_) | (refine x_send hC hB hB2 ?_) | fail))
  all_goals first
    | exact h _ (by assumption) (by assumption)
    | exact absurd ‹nI 11 = Int32.ofNat _› (by decide)
    | exact absurd rfl (by assumption)
    | exact siz_ne (by assumption)
    | exact h
set_option maxHeartbeats 4000000 in
set_option maxRecDepth 100000 in
theorem l_turn12 (hC : CL s F G n B) (hB : 1 ≤ B) (hB2 : B < 1000000) (h : ∀ s', Fr s s' → CL s' (nxF F (turnF (s.1 18 0) G F 12 a b)) (nxG G F n (turnF (s.1 18 0) G F 12 a b)) (nxN n (turnF (s.1 18 0) G F 12 a b)) (B + 1) → Q (some (.inl (turnF (s.1 18 0) G F 12 a b).1)) s') : wpM L xs codT retT (f + 8) m_L_turn [.inr (9, 0), .inl (nI 12), .inl a, .inl b] s Q := by
  intro call hcall X hX; refine hX 1000 0 _ _ _ ?_
  repeat' (first | (with_reducible refine and_hit ?_) | (with_reducible refine and_miss (by decide) (by decide) ?_) | (with_reducible refine sw_hit ?_) | (with_reducible refine sw_miss (by decide) (by decide) ?_) | (with_reducible refine sw_end ?_) | (intro hc) | (show wp _ _ _ _ _ _ _ _ _ _ _ _; conv => whnf) | (refine And.intro ?_ ?_) | (exact absurd nI_0 ‹cmpF 0 (nI 0) 0›) | (exact absurd ‹cmpT 0 (nI 1) 0› nI1_ne) | (exact absurd nI_0 ‹cmpT 1 (nI 0) 0›) | (exact absurd ‹cmpF 1 (nI 1) 0› nI1_ne) | (simp (disch := omega) only [nI_add, nI_mul, setN_now, setN_put, nI_cl, Nat.add_zero]) | (refine hcall _ _ _ _ ?_; first | (refine l_size ?_) | (refine l_up (by first | exact siz_ne2 | decide) ?_) | (refine x_send hC hB hB2 ?_) | fail))
  all_goals first
    | exact h _ (by assumption) (by assumption)
    | exact absurd ‹nI 12 = Int32.ofNat _› (by decide)
    | exact absurd rfl (by assumption)
    | exact siz_ne (by assumption)
    | exact h
set_option maxHeartbeats 4000000 in
set_option maxRecDepth 100000 in
theorem l_turn13 (hC : CL s F G n B) (hB : 1 ≤ B) (hB2 : B < 1000000) (h : ∀ s', Fr s s' → CL s' (nxF F (turnF (s.1 18 0) G F 13 a b)) (nxG G F n (turnF (s.1 18 0) G F 13 a b)) (nxN n (turnF (s.1 18 0) G F 13 a b)) (B + 1) → Q (some (.inl (turnF (s.1 18 0) G F 13 a b).1)) s') : wpM L xs codT retT (f + 8) m_L_turn [.inr (9, 0), .inl (nI 13), .inl a, .inl b] s Q := by
  intro call hcall X hX; refine hX 1000 0 _ _ _ ?_
  repeat' (first | (with_reducible refine and_hit ?_) | (with_reducible refine and_miss (by decide) (by decide) ?_) | (with_reducible refine sw_hit ?_) | (with_reducible refine sw_miss (by decide) (by decide) ?_) | (with_reducible refine sw_end ?_) | (intro hc) | (show wp _ _ _ _ _ _ _ _ _ _ _ _; conv => whnf) | (refine And.intro ?_ ?_) | (exact absurd nI_0 ‹cmpF 0 (nI 0) 0›) | (exact absurd ‹cmpT 0 (nI 1) 0› nI1_ne) | (exact absurd nI_0 ‹cmpT 1 (nI 0) 0›) | (exact absurd ‹cmpF 1 (nI 1) 0› nI1_ne) | (simp (disch := omega) only [nI_add, nI_mul, setN_now, setN_put, nI_cl, Nat.add_zero]) | (refine hcall _ _ _ _ ?_; first | (refine l_size ?_) | (refine l_up (by first | exact siz_ne2 | decide) ?_) | (refine x_send hC hB hB2 ?_) | fail))
  all_goals first
    | exact h _ (by assumption) (by assumption)
    | exact absurd ‹nI 13 = Int32.ofNat _› (by decide)
    | exact absurd rfl (by assumption)
    | exact siz_ne (by assumption)
    | exact h
set_option maxHeartbeats 4000000 in
set_option maxRecDepth 100000 in
theorem l_turn14 (hC : CL s F G n B) (hB : 1 ≤ B) (hB2 : B < 1000000) (h : ∀ s', Fr s s' → CL s' (nxF F (turnF (s.1 18 0) G F 14 a b)) (nxG G F n (turnF (s.1 18 0) G F 14 a b)) (nxN n (turnF (s.1 18 0) G F 14 a b)) (B + 1) → Q (some (.inl (turnF (s.1 18 0) G F 14 a b).1)) s') : wpM L xs codT retT (f + 8) m_L_turn [.inr (9, 0), .inl (nI 14), .inl a, .inl b] s Q := by
  intro call hcall X hX; refine hX 1000 0 _ _ _ ?_
  repeat' (first | (with_reducible refine and_hit ?_) | (with_reducible refine and_miss (by decide) (by decide) ?_) | (with_reducible refine sw_hit ?_) | (with_reducible refine sw_miss (by decide) (by decide) ?_) | (with_reducible refine sw_end ?_) | (intro hc) | (show wp _ _ _ _ _ _ _ _ _ _ _ _; conv => whnf) | (refine And.intro ?_ ?_) | (exact absurd nI_0 ‹cmpF 0 (nI 0) 0›) | (exact absurd ‹cmpT 0 (nI 1) 0› nI1_ne) | (exact absurd nI_0 ‹cmpT 1 (nI 0) 0›) | (exact absurd ‹cmpF 1 (nI 1) 0› nI1_ne) | (simp (disch := omega) only [nI_add, nI_mul, setN_now, setN_put, nI_cl, Nat.add_zero]) | (refine hcall _ _ _ _ ?_; first | (refine l_size ?_) | (refine l_up (by first | exact siz_ne2 | decide) ?_) | (refine x_send hC hB hB2 ?_) | (refine l_name hC.2.1.2.1 hC.2.1.1 ?_) | fail))
  all_goals first
    | exact h _ (by assumption) (by assumption)
    | exact absurd ‹nI 14 = Int32.ofNat _› (by decide)
    | exact absurd rfl (by assumption)
    | exact siz_ne (by assumption)
    | exact h
set_option maxHeartbeats 4000000 in
set_option maxRecDepth 100000 in
theorem l_turn15 (hC : CL s F G n B) (hB : 1 ≤ B) (hB2 : B < 1000000) (h : ∀ s', Fr s s' → CL s' (nxF F (turnF (s.1 18 0) G F 15 a b)) (nxG G F n (turnF (s.1 18 0) G F 15 a b)) (nxN n (turnF (s.1 18 0) G F 15 a b)) (B + 1) → Q (some (.inl (turnF (s.1 18 0) G F 15 a b).1)) s') : wpM L xs codT retT (f + 8) m_L_turn [.inr (9, 0), .inl (nI 15), .inl a, .inl b] s Q := by
  intro call hcall X hX; refine hX 1000 0 _ _ _ ?_
  repeat' (first | (with_reducible refine and_hit ?_) | (with_reducible refine and_miss (by decide) (by decide) ?_) | (with_reducible refine sw_hit ?_) | (with_reducible refine sw_miss (by decide) (by decide) ?_) | (with_reducible refine sw_end ?_) | (intro hc) | (show wp _ _ _ _ _ _ _ _ _ _ _ _; conv => whnf) | (refine And.intro ?_ ?_) | (exact absurd nI_0 ‹cmpF 0 (nI 0) 0›) | (exact absurd ‹cmpT 0 (nI 1) 0› nI1_ne) | (exact absurd nI_0 ‹cmpT 1 (nI 0) 0›) | (exact absurd ‹cmpF 1 (nI 1) 0› nI1_ne) | (simp (disch := omega) only [nI_add, nI_mul, setN_now, setN_put, nI_cl, Nat.add_zero]) | (refine hcall _ _ _ _ ?_; first | (refine l_size ?_) | (refine l_up (by first | exact siz_ne2 | decide) ?_) | (refine l_any hC hB hB2 ?_) | fail))
  all_goals first
    | exact h _ (by assumption) (by assumption)
    | exact absurd ‹nI 15 = Int32.ofNat _› (by decide)
    | exact absurd rfl (by assumption)
    | exact siz_ne (by assumption)
    | exact h
theorem l_turn (hC : CL s F G n B) (hB : 1 ≤ B) (hB2 : B < 1000000) (hk : k < 16) (h : ∀ s', Fr s s' → CL s' (nxF F (turnF (s.1 18 0) G F k a b)) (nxG G F n (turnF (s.1 18 0) G F k a b)) (nxN n (turnF (s.1 18 0) G F k a b)) (B + 1) → Q (some (.inl (turnF (s.1 18 0) G F k a b).1)) s') : wpM L xs codT retT (f + 8) m_L_turn [.inr (9, 0), .inl (nI k), .inl a, .inl b] s Q := by
  have hk : k = 0 ∨ k = 1 ∨ k = 2 ∨ k = 3 ∨ k = 4 ∨ k = 5 ∨ k = 6 ∨ k = 7 ∨ k = 8 ∨ k = 9 ∨ k = 10 ∨ k = 11 ∨ k = 12 ∨ k = 13 ∨ k = 14 ∨ k = 15 := by omega
  rcases hk with rfl | rfl | rfl | rfl | rfl | rfl | rfl | rfl | rfl | rfl | rfl | rfl | rfl | rfl | rfl | rfl
  · exact l_turn0 hC hB hB2 h
  · exact l_turn1 hC hB hB2 h
  · exact l_turn2 hC hB hB2 h
  · exact l_turn3 hC hB hB2 h
  · exact l_turn4 hC hB hB2 h
  · exact l_turn5 hC hB hB2 h
  · exact l_turn6 hC hB hB2 h
  · exact l_turn7 hC hB hB2 h
  · exact l_turn8 hC hB hB2 h
  · exact l_turn9 hC hB hB2 h
  · exact l_turn10 hC hB hB2 h
  · exact l_turn11 hC hB hB2 h
  · exact l_turn12 hC hB hB2 h
  · exact l_turn13 hC hB hB2 h
  · exact l_turn14 hC hB hB2 h
  · exact l_turn15 hC hB hB2 h
end LW2
