/-! THE LAW'S LOOP, whole -/
section LAWT
variable {L : Nat} {xs : Nat → Int32} {f i n n' B k r m j p c l d T n0 : Nat} {x y a b w name flow place t7 t6 gb got : Int32} {v : Int64} {s s' : St} {F F1 F2 G G' : Fm} {o : Int32 × Fm} {Q : Option MV → St → Prop} {QL : Option LV → St → Prop} {X : Nat → LO → List LV → St → Prop} {callM : Nat → List MV → St → (Option MV → St → Prop) → Prop} {callL : Nat → List LV → St → (Option LV → St → Prop) → Prop}
theorem g_t7 (hI : IV s F G n B) (h : Q (some (.inl (totW F 7))) s) : wpM L xs codT retT (f + 6) m_X9_total [.inr (9, 0), .inl (nI 7)] s Q := g_tot hI.hw hI.hR (by omega) h
theorem g_t6 (hI : IV s F G n B) (h : Q (some (.inl (totW F 6))) s) : wpM L xs codT retT (f + 6) m_X9_total [.inr (9, 0), .inl (nI 6)] s Q := g_tot hI.hw hI.hR (by omega) h
set_option maxHeartbeats 4000000 in
set_option maxRecDepth 100000 in
theorem st_D (hX : walkW callM callL L QL X) (hcM : okM callM L xs (f + 10)) (hI : IV s F G n B) (hgb : gb = nI 0 ∨ gb = nI 1) (hm : gb = nI 0 → t7.toInt ≤ (totW F 7).toInt ∧ t6.toInt ≤ (totW F 6).toInt) (h : X 257 (ls15 T k x a b j v n0 t7 t6 gb got) [] s) : X 230 (ls15 T k x a b j v n0 t7 t6 gb got) [] s := by
  rcases hgb with e | e
  · obtain ⟨m1, m2⟩ := hm e
    have k1 : ¬ cmpT 2 (totW F 7) t7 := fun q => by
      have q : (totW F 7).toInt < t7.toInt := q
      omega
    have k2 : ¬ cmpT 2 (totW F 6) t6 := fun q => by
      have q : (totW F 6).toInt < t6.toInt := q
      omega
    subst e
    refine hX 1000 230 _ _ _ ?_
    repeat' (first | (intro hc; first | exact absurd hc k1 | exact absurd hc k2 | exact absurd nI_0 hc | skip) | (show wpl _ _ _ _ _ _ _ _ _ _ _ _; conv => whnf) | (refine And.intro ?_ ?_) | (refine hcM _ _ _ _ ?_; first | (refine g_t7 hI ?_) | (refine g_t6 hI ?_) | fail) | (simp (disch := omega) only [nI_add, nI_mul, nI_cl, Nat.add_zero]))
    all_goals first
      | exact h
      | exact absurd rfl (by assumption)
      | skip
  · subst e
    refine hX 1000 230 _ _ _ ?_
    repeat' (first | (intro hc; first | exact absurd hc nI1_ne | skip) | (show wpl _ _ _ _ _ _ _ _ _ _ _ _; conv => whnf) | (refine And.intro ?_ ?_) | (refine hcM _ _ _ _ ?_; first | (refine g_t7 hI ?_) | (refine g_t6 hI ?_) | fail) | (simp (disch := omega) only [nI_add, nI_mul, nI_cl, Nat.add_zero]))
    all_goals first
      | exact h
      | exact absurd (by assumption) nI1_ne
      | skip
set_option maxHeartbeats 4000000 in
set_option maxRecDepth 100000 in
theorem st_E (hX : walkW callM callL L QL X) (hcL : okLL callL L xs (f + 10)) (hI : IV s F G n B) (hB : 1 ≤ B) (hB2 : B < 900000) (h : ∀ s' G' n', IV s' F G' n' (B + 1) → X 278 (ls15 T k x a b j v n0 t7 t6 gb got) [] s') : X 257 (ls15 T k x a b j v n0 t7 t6 gb got) [] s := by
  refine hX 1000 257 _ _ _ ?_
  repeat' (first | (intro hc; first | exact absurd hc nI1_ne | skip) | (show wpl _ _ _ _ _ _ _ _ _ _ _ _; conv => whnf) | (refine And.intro ?_ ?_) | (refine hcL _ _ _ _ ?_; first | (refine w_isSaved hI hB (by omega) ?_) | fail) | (simp (disch := omega) only [nI_add, nI_mul, nI_cl, Nat.add_zero]))
  all_goals first
    | exact h _ _ _ (by assumption)
    | exact h _ _ _ (IV_B hI (by omega))
    | skip
theorem w_sentV {e : w = nI r} (hI : IV s F G n B) (hB : 1 ≤ B) (hB2 : B < 999990) (hr2 : r < 1000) (hn : iN name 256) (hf : iN flow 100) (h : ∀ s' G' n', IV s' F G' n' (B + 1) → QL (some (.inl (.inl (nI 1)))) s') : wpL L xs codT colT retT (f + 9) m_L_isSent [.inl (.inr (9, 0)), .inl (.inl w), .inl (.inl name), .inl (.inl flow)] s QL := by
  subst e
  exact w_isSent hI hB hB2 hr2 hn hf h
set_option maxHeartbeats 4000000 in
set_option maxRecDepth 100000 in
theorem st_F (hX : walkW callM callL L QL X) (hcM : okM callM L xs (f + 10)) (hcL : okLL callL L xs (f + 10)) (hI : IV s F G n B) (hB : 1 ≤ B) (hB2 : B < 900000) (h : ∀ s' G' n', IV s' F G' n' (B + 1) → X 316 (ls15 T k x a b j v n0 t7 t6 gb got) [] s') : X 278 (ls15 T k x a b j v n0 t7 t6 gb got) [] s := by
  obtain ⟨r, er, hr⟩ := iN_nn (up_iN (x := shV a 4) (m := 3) (by omega) (by omega)) (by omega)
  have hnm := name_iN (x := b) hI.hw
  have hfl := up_iN (x := shV b 4) (m := 100) (by omega) (by omega)
  refine hX 1000 278 _ _ _ ?_
  repeat' (first | (intro hc; first | exact absurd hc nI1_ne | skip) | (show wpl _ _ _ _ _ _ _ _ _ _ _ _; conv => whnf) | (refine And.intro ?_ ?_) | (refine hcM _ _ _ _ ?_; first | (refine l_up (by decide) ?_) | (refine l_name hI.hw hI.hR ?_) | fail) | (refine hcL _ _ _ _ ?_; first | (refine w_sentV (e := er) hI hB (by omega) (by omega) hnm hfl ?_) | fail) | (simp (disch := omega) only [nI_add, nI_mul, nI_cl, Nat.add_zero]))
  all_goals first
    | exact h _ _ _ (by assumption)
    | exact h _ _ _ (IV_B hI (by omega))
    | skip
set_option maxHeartbeats 4000000 in
set_option maxRecDepth 100000 in
theorem st_G (hX : walkW callM callL L QL X) (hcM : okM callM L xs (f + 10)) (hI : IV s F G n B) (hB2 : B < 900000) (hk : k < 1000) (h : X 34 (ls4 T (k + 1)) [] s) : X 316 (ls15 T k x a b j v n0 t7 t6 gb got) [] s := by
  refine hX 1000 316 _ _ _ ?_
  repeat' (first | (intro hc; first | exact absurd hc nI1_ne | skip) | (show wpl _ _ _ _ _ _ _ _ _ _ _ _; conv => whnf) | (refine And.intro ?_ ?_) | (refine hcM _ _ _ _ ?_; first | (refine l_areRouters hI.hw hI.hR (by omega) hI.2.1 ?_) | (refine l_areEnding hI.hw hI.hR ?_) | fail) | (simp (disch := omega) only [nI_add, nI_mul, nI_cl, Nat.add_zero]))
  all_goals first
    | (simp only [takeG, setG, nI_add]; exact h)
    | exact absurd (by assumption) nI1_ne
    | skip
set_option maxHeartbeats 4000000 in
set_option maxRecDepth 100000 in
theorem st_end (hX : walkW callM callL L QL X) (hT : T ≤ 36) (h : QL (some (.inl (.inl (nI 1)))) s) : X 34 (ls4 T T) [] s := by
  have k1 := nT_ge (a := T) (b := T) (by omega) (by omega) (by omega)
  refine hX 1000 34 _ _ _ ?_
  repeat' (first | (intro hc; first | exact absurd hc k1 | skip) | (show wpl _ _ _ _ _ _ _ _ _ _ _ _; conv => whnf) | (refine And.intro ?_ ?_) | (simp (disch := omega) only [nI_add, nI_mul, nI_cl, Nat.add_zero]))
  all_goals first
    | exact h
    | exact nI_1b
    | skip
theorem st_loop (hX : walkW callM callL L QL X) (hcM : okM callM L xs (f + 10)) (hcL : okLL callL L xs (f + 10)) (hL : L < 1000000) (hT : T ≤ 36) (hQ : ∀ s, QL (some (.inl (.inl (nI 1)))) s) : ∀ m k s F G n B, k + m = T → IV s F G n B → 1 ≤ B → B + 10 * m < 800000 → X 34 (ls4 T k) [] s := by
  intro m
  induction m with
  | zero =>
    intro k s F G n B hk hI hB hB2
    have : k = T := by omega
    subst this
    exact st_end hX hT (hQ s)
  | succ m ih =>
    intro k s F G n B hk hI hB hB2
    refine st_A hX hcM hL hT (by omega) (fun x a b j hj => ?_)
    refine st_B hX hcM hcL hI hj (fun gb hgb hgb2 => ?_)
    refine st_C hX hcM hcL hI hB (by omega) hj hgb2 (fun s1 F1 G1 n1 got hI1 hm => ?_)
    refine st_D hX hcM hI1 hgb hm ?_
    refine st_E hX hcL hI1 (by omega) (by omega) (fun s2 G2 n2 hI2 => ?_)
    refine st_F hX hcM hcL hI2 (by omega) (by omega) (fun s3 G3 n3 hI3 => ?_)
    exact st_G hX hcM hI3 (by omega) (by omega) (ih (k + 1) s3 F1 G3 n3 _ (by omega) hI3 (by omega) (by omega))
theorem div_all : ∀ L, L ≤ 260 → nI L / nI 3 = nI (L / 3) := by decide +kernel
theorem g_addR (hI : IV s F G n B) (hB : 1 ≤ B) (hB2 : B < 900000) (h : ∀ s' v F' G' n', IV s' F' G' n' (B + 1) → Q (some (.inl v)) s') : wpM L xs codT retT (f + 6) m_X9_addRouter [.inr (9, 0)] s Q := by
  refine x_addRouter hI.cl hB (by omega) (fun s' hf hC => ?_)
  by_cases h0 : 0 ≤ (routerF F).1.toInt
  · exact h s' _ _ _ _ (IV_pos hI hf hC h0 (CN_mono (by omega) (cn_router hI.hw hI.2.1 h0).1))
  · exact h s' _ _ _ _ (IV_neg hI hf hC (by omega))
set_option maxHeartbeats 4000000 in
set_option maxRecDepth 100000 in
theorem st_start (hX : walkW callM callL L QL X) (hcM : okM callM L xs (f + 10)) (hcL : okLL callL L xs (f + 10)) (hL : L ≤ 260) (hI : IV s F G n 1) (hQ : ∀ s, QL (some (.inl (.inl (nI 1)))) s) : X 8 [sL, oL] [] s := by
  have e3 : Int32.ofNat L / nI 3 = nI (L / 3) := div_all L hL
  have hl := st_loop (T := if L / 3 < 36 then L / 3 else 36) hX hcM hcL (by omega) (by split <;> omega) hQ
  by_cases h36 : L / 3 < 36
  · rw [if_pos h36] at hl
    have fin : ∀ s' F' G' n', IV s' F' G' n' (1 + 1) → X 34 (ls4 (L / 3) 0) [] s' := fun s' F' G' n' h => hl (L / 3) 0 s' F' G' n' _ (by omega) h (by omega) (by omega)
    have k1 : ¬ cmpT 3 (Int32.ofNat L / nI 3) (nI 36) := by rw [e3]; exact nT_lt (a := L / 3) (b := 36) (by omega) (by omega) h36
    refine hX 1000 8 _ _ _ ?_
    repeat' (first | (intro hc; first | exact absurd hc k1 | exact nI3_ne hc | skip) | (show wpl _ _ _ _ _ _ _ _ _ _ _ _; conv => whnf) | (refine And.intro ?_ ?_) | (refine hcM _ _ _ _ ?_; first | (refine g_addR hI (by omega) (by omega) ?_) | fail) | (simp (disch := omega) only [nI_add, nI_mul, nI_cl, Nat.add_zero]))
    all_goals first
      | (simp only [takeG, setG, e3]; exact fin _ _ _ _ (by assumption))
      | exact nI3_ne (by assumption)
      | skip
  · rw [if_neg h36] at hl
    have fin : ∀ s' F' G' n', IV s' F' G' n' (1 + 1) → X 34 (ls4 36 0) [] s' := fun s' F' G' n' h => hl 36 0 s' F' G' n' _ (by omega) h (by omega) (by omega)
    have k1 : ¬ cmpF 3 (Int32.ofNat L / nI 3) (nI 36) := by rw [e3]; exact nT_ge (a := L / 3) (b := 36) (by omega) (by omega) (by omega)
    refine hX 1000 8 _ _ _ ?_
    repeat' (first | (intro hc; first | exact absurd hc k1 | exact nI3_ne hc | skip) | (show wpl _ _ _ _ _ _ _ _ _ _ _ _; conv => whnf) | (refine And.intro ?_ ?_) | (refine hcM _ _ _ _ ?_; first | (refine g_addR hI (by omega) (by omega) ?_) | fail) | (simp (disch := omega) only [nI_add, nI_mul, nI_cl, Nat.add_zero]))
    all_goals first
      | (simp only [takeG, setG, e3]; exact fin _ _ _ _ (by assumption))
      | exact nI3_ne (by assumption)
      | skip
end LAWT
