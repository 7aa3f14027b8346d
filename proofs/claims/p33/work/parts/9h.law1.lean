/-! THE LAW'S LOOP, stage by stage -/
abbrev sL : Option LV := some (.inl (.inr (24, 0)))
abbrev walkW (callM : Nat → List MV → St → (Option MV → St → Prop) → Prop) (callL : Nat → List LV → St → (Option LV → St → Prop) → Prop) (L : Nat) (Q : Option LV → St → Prop) (X : Nat → LO → List LV → St → Prop) : Prop := ∀ N pc ls st z, wpl callM callL L 1 Q X co_lawM N (behind (fromPc co_lawM pc)) ls st z → X pc ls st z
abbrev ls4 (T k : Nat) : LO := [sL, oL, iL (nI T), iL (nI k)]
abbrev ls8 (T k : Nat) (x a b : Int32) (j : Nat) : LO := [sL, oL, iL (nI T), iL (nI k), iL x, iL a, iL b, iL (nI j)]
abbrev ls14 (T k : Nat) (x a b : Int32) (j : Nat) (v : Int64) (n : Nat) (t7 t6 gb : Int32) : LO := [sL, oL, iL (nI T), iL (nI k), iL x, iL a, iL b, iL (nI j), lL v, none, iL (nI n), iL t7, iL t6, iL gb]
abbrev ls15 (T k : Nat) (x a b : Int32) (j : Nat) (v : Int64) (n : Nat) (t7 t6 gb got : Int32) : LO := [sL, oL, iL (nI T), iL (nI k), iL x, iL a, iL b, iL (nI j), lL v, none, iL (nI n), iL t7, iL t6, iL gb, iL got]
section LAWS
variable {L : Nat} {xs : Nat → Int32} {f i n n' B k r m j p c l d T n0 : Nat} {x y a b w name flow place t7 t6 gb got : Int32} {v : Int64} {s s' : St} {F F1 F2 G G' : Fm} {o : Int32 × Fm} {Q : Option MV → St → Prop} {QL : Option LV → St → Prop} {X : Nat → LO → List LV → St → Prop} {callM : Nat → List MV → St → (Option MV → St → Prop) → Prop} {callL : Nat → List LV → St → (Option LV → St → Prop) → Prop}
theorem nT_lt {a b : Nat} (ha : a < 1000) (hb : b < 1000) (h : a < b) : ¬ cmpT 3 (nI a) (nI b) := fun q => by
  have q : (nI b).toInt ≤ (nI a).toInt := q
  rw [nI_toI (by omega), nI_toI (by omega)] at q
  omega
theorem nT_ge {a b : Nat} (ha : a < 1000) (hb : b < 1000) (h : b ≤ a) : ¬ cmpF 3 (nI a) (nI b) := fun q => by
  have q : (nI a).toInt < (nI b).toInt := q
  rw [nI_toI (by omega), nI_toI (by omega)] at q
  omega
set_option maxHeartbeats 4000000 in
set_option maxRecDepth 100000 in
theorem st_A (hX : walkW callM callL L QL X) (hcM : okM callM L xs (f + 10)) (hL : L < 1000000) (hT : T ≤ 36) (hk : k < T) (h : ∀ x a b j, j < 16 → X 86 (ls8 T k x a b j) [] s) : X 34 (ls4 T k) [] s := by
  have c0 : 0 ≤ (nI 3 * nI k).toInt := by rw [nI_mul, nI_toI (by omega)]; omega
  have c1 : 0 ≤ (nI 3 * nI k + nI 1).toInt := by rw [nI_mul, nI_add, nI_toI (by omega)]; omega
  have c2 : 0 ≤ (nI 3 * nI k + nI 2).toInt := by rw [nI_mul, nI_add, nI_toI (by omega)]; omega
  have k1 := nT_lt (a := k) (b := T) (by omega) (by omega) hk
  obtain ⟨j, hj, ej⟩ := and15 (celV L xs (nI 3 * nI k))
  rw [nI_mul] at ej
  refine hX 1000 34 _ _ _ ?_
  repeat' (first | (intro hc; first | exact absurd hc k1 | skip) | (show wpl _ _ _ _ _ _ _ _ _ _ _ _; conv => whnf) | (refine And.intro ?_ ?_) | (refine hcM _ _ _ _ ?_; first | (refine l_cell hL c0 ?_) | (refine l_cell hL c1 ?_) | (refine l_cell hL c2 ?_) | fail) | (simp (disch := omega) only [nI_add, nI_mul, nI_cl, Nat.add_zero]))
  all_goals (try simp only [takeG, setG])
  all_goals first
    | exact h _ _ _ 1 (by omega)
    | (rw [ej]; exact h _ _ _ j hj)
    | skip
set_option maxHeartbeats 4000000 in
set_option maxRecDepth 100000 in
theorem st_B (hX : walkW callM callL L QL X) (hcM : okM callM L xs (f + 10)) (hcL : okLL callL L xs (f + 10)) (hI : IV s F G n B) (hj : j < 16) (h : ∀ gb, (gb = nI 0 ∨ gb = nI 1) → (gb = nI 0 → ¬ (j = 15 ∧ nn (b &&& nI 7) = 6)) → X 140 (ls14 T k x a b j (viewF F) n (totW F 7) (totW F 6) gb) [] s) : X 86 (ls8 T k x a b j) [] s := by
  have g7 : ∀ {Q : Option MV → St → Prop} {f : Nat}, Q (some (.inl (totW F 7))) s → wpM L xs codT retT (f + 6) m_X9_total [.inr (9, 0), .inl (nI 7)] s Q := fun h => g_tot hI.hw hI.hR (by omega) h
  have g6 : ∀ {Q : Option MV → St → Prop} {f : Nat}, Q (some (.inl (totW F 6))) s → wpM L xs codT retT (f + 6) m_X9_total [.inr (9, 0), .inl (nI 6)] s Q := fun h => g_tot hI.hw hI.hR (by omega) h
  obtain ⟨t, ht, et⟩ := and7 b
  have en : nn (b &&& nI 7) = t := by rw [et]; exact nI_cl (by omega)
  refine hX 1000 86 _ _ _ ?_
  repeat' (first | (intro hc; first | exact absurd hc hc | skip) | (show wpl _ _ _ _ _ _ _ _ _ _ _ _; conv => whnf) | (refine And.intro ?_ ?_) | (refine hcM _ _ _ _ ?_; first | (refine g_cntI hI ?_) | (refine g7 ?_) | (refine g6 ?_) | fail) | (refine hcL _ _ _ _ ?_; first | (refine g_viewI hI ?_) | fail) | (simp (disch := omega) only [nI_add, nI_mul, nI_cl, Nat.add_zero]))
  all_goals (try simp only [takeG, setG])
  all_goals first
    | exact h _ (Or.inr rfl) (fun q => absurd q.symm nI01)
    | (refine h _ (Or.inl rfl) (fun _ q => ?_); first
        | (have z : ¬ nI j = nI 15 := hc; rw [q.1] at z; exact absurd rfl z)
        | (have z : ¬ b &&& nI 7 = nI 6 := hc; rw [et] at z; have e6 : t = 6 := en.symm.trans q.2; rw [e6] at z; exact absurd rfl z))
    | skip
theorem hst (hn : n ≤ 5) : (if n < 5 then nI (n + 1) else nI 5) = nI (recN n) := by
  unfold recN
  by_cases e : n = 5
  · rw [if_pos e, if_neg (by omega)]
  · rw [if_neg e, if_pos (by omega)]
theorem g_cntE {e : Nat} (he : n = e) (hI : IV s F G n B) (h : Q (some (.inl (nI e))) s) : wpM L xs codT retT (f + 6) m_X9_total [.inr (9, 0), .inl (nI 11)] s Q := g_cntI hI (by rw [he]; exact h)
theorem l_turnN (hI : IV s F G n B) (hB : 1 ≤ B) (hB2 : B < 1000000) (hk : k < 16) (ho : turnF (s.1 18 0) G F k a b = o) (h0 : o.1.toInt < 0) (h : ∀ s', IV s' F G n (B + 1) → Q (some (.inl o.1)) s') : wpM L xs codT retT (f + 8) m_L_turn [.inr (9, 0), .inl (nI k), .inl a, .inl b] s Q := by
  subst ho
  exact l_turn hI.cl hB hB2 hk (fun s' hf hC => h s' (IV_neg hI hf hC h0))
/-- a turn that is recorded, with what undoing wants -/
def UND (s : St) (F : Fm) (o : Int32 × Fm) (k : Nat) (a b : Int32) (G : Fm) (n B : Nat) : Prop := ∃ F1, F1 = o.2 ∧ IV s F1 G n B ∧ 0 < n ∧ (∀ t, t < 509 → rowG G (n - 1) t = F t) ∧ turnF (s.1 18 0) G F k a b = o ∧ recN (n - 1) = n
theorem l_turnU (hI : IV s F G n B) (hB : 1 ≤ B) (hB2 : B < 1000000) (hk : k < 16) (ho : turnF (s.1 18 0) G F k a b = o) (h0 : 0 ≤ o.1.toInt) (h : ∀ s', UND s' F o k a b (recG G F n) (recN n) (B + 1) → Q (some (.inl o.1)) s') : wpM L xs codT retT (f + 8) m_L_turn [.inr (9, 0), .inl (nI k), .inl a, .inl b] s Q := by
  have hn5 := hI.cl.n5
  refine l_turnP hI hB hB2 hk ho h0 (fun s' hf hI' => h s' ⟨o.2, rfl, hI', recN_pos, rec_last hn5, ?_, recN_again hn5⟩)
  rw [eq_sav hf, turn_sv (G := G) (fun j hj => sav_eq hn5 hj) hk]
  exact ho
theorem UND.iv (h : UND s F o k a b G n B) : IV s o.2 G n B := by
  obtain ⟨F1, rfl, h, -⟩ := h
  exact h
theorem w_undU (hU : UND s F o k a b G n B) (hB : 1 ≤ B) (hB2 : B < 1000000) (hk : k < 16) (h0 : 0 ≤ o.1.toInt) (h : ∀ s' G', IV s' o.2 G' n (B + 1) → QL (some (.inl (.inl (nI 1)))) s') : wpL L xs codT colT retT (f + 9) m_L_isUndone [.inl (.inr (9, 0)), .inl (.inl (nI k)), .inl (.inl a), .inl (.inl b), .inl (.inl o.1), .inr (viewF F)] s QL := by
  obtain ⟨F1, rfl, hI, hn, hF, ho, hrn⟩ := hU
  exact w_isUndone hI hB hB2 hn hF hk ho h0 hrn h
theorem g_cntU {e : Nat} (he : n = e) (hU : UND s F o k a b G n B) (h : Q (some (.inl (nI e))) s) : wpM L xs codT retT (f + 6) m_X9_total [.inr (9, 0), .inl (nI 11)] s Q := g_cntE he hU.iv h
set_option maxHeartbeats 4000000 in
set_option maxRecDepth 100000 in
theorem st_C (hX : walkW callM callL L QL X) (hcM : okM callM L xs (f + 10)) (hcL : okLL callL L xs (f + 10)) (hI : IV s F G n B) (hB : 1 ≤ B) (hB2 : B < 900000) (hj : j < 16) (hgb : gb = nI 0 → ¬ (j = 15 ∧ nn (b &&& nI 7) = 6)) (h : ∀ s' F' G' n' got, IV s' F' G' n' (B + 2) → (gb = nI 0 → (totW F 7).toInt ≤ (totW F' 7).toInt ∧ (totW F 6).toInt ≤ (totW F' 6).toInt) → X 230 (ls15 T k x a b j (viewF F) n (totW F 7) (totW F 6) gb got) [] s') : X 140 (ls14 T k x a b j (viewF F) n (totW F 7) (totW F 6) gb) [] s := by
  have hn5 := hI.cl.n5
  generalize ho : turnF (s.1 18 0) G F j a b = o
  by_cases h0 : 0 ≤ o.1.toInt
  · have hmon : ∀ {s1 : St} {G1 : Fm} {n1 B1 : Nat}, (B1 < 999999) → IV s1 o.2 G1 n1 B1 → gb = nI 0 → (totW F 7).toInt ≤ (totW o.2 7).toInt ∧ (totW F 6).toInt ≤ (totW o.2 6).toInt := fun hb h1 e => by
      have h0' := h0
      rw [← ho] at h0'
      have m := turn_mon hI (by omega) hj h0' (hgb e)
      rw [ho] at m
      exact tot_mono hI.hw h1.hw (by omega) (by omega) hI.2.1 h1.2.1 m
    have hrn := recN_again hn5
    have hlast := rec_last (G := G) (F := F) hn5
    have kg : ¬ cmpF 3 o.1 0 := fun q => by
      have q : o.1.toInt < (0 : Int32).toInt := q
      rw [Int32.toInt_zero] at q
      omega
    have hst := hst hn5
    have hN := recN_le hn5
    have hcl : ∀ s1, UND s1 F o j a b (recG G F n) (recN n) (B + 1) → X 230 (ls15 T k x a b j (viewF F) n (totW F 7) (totW F 6) gb o.1) [] s1 := fun s1 hU => h s1 o.2 _ _ o.1 (IV_B hU.iv (by omega)) (hmon (B1 := B + 1) (by omega) hU.iv)
    have hcl2 : ∀ s1 G1, IV s1 o.2 G1 (recN n) (B + 1 + 1) → X 230 (ls15 T k x a b j (viewF F) n (totW F 7) (totW F 6) gb o.1) [] s1 := fun s1 G1 hU => h s1 o.2 _ _ o.1 hU (hmon (B1 := B + 1 + 1) (by omega) hU)
    by_cases h5 : n < 5
    · have k5 := nT_lt (a := n) (b := 5) (by omega) (by omega) h5
      have e5 : recN n = n + 1 := by unfold recN; rw [if_neg (by omega)]
      refine hX 1000 140 _ _ _ ?_
      repeat' (first | (intro hc; first | exact absurd hc kg | exact absurd hc k5 | exact absurd rfl hc | exact absurd hc nI1_ne | exact absurd (nI_add n 1).symm hc | skip) | (show wpl _ _ _ _ _ _ _ _ _ _ _ _; conv => whnf) | (refine And.intro ?_ ?_) | (refine hcM _ _ _ _ ?_; first | (refine l_turnU hI hB (by omega) hj ho h0 ?_) | (refine g_cntU e5 ‹_› ?_) | fail) | (refine hcL _ _ _ _ ?_; first | (refine w_undU ‹_› (by omega) (by omega) hj h0 ?_) | fail) | (simp (disch := omega) only [nI_add, nI_mul, nI_cl, Nat.add_zero]))
      all_goals (try simp only [takeG, setG])
      all_goals first
        | exact hcl _ (by assumption)
        | exact hcl2 _ _ (by assumption)
        | skip
    · have k5 := nT_ge (a := n) (b := 5) (by omega) (by omega) (by omega)
      have e5 : recN n = 5 := by unfold recN; rw [if_pos (by omega)]
      refine hX 1000 140 _ _ _ ?_
      repeat' (first | (intro hc; first | exact absurd hc kg | exact absurd hc k5 | exact absurd rfl hc | exact absurd hc nI1_ne | exact absurd (nI_add n 1).symm hc | skip) | (show wpl _ _ _ _ _ _ _ _ _ _ _ _; conv => whnf) | (refine And.intro ?_ ?_) | (refine hcM _ _ _ _ ?_; first | (refine l_turnU hI hB (by omega) hj ho h0 ?_) | (refine g_cntU e5 ‹_› ?_) | fail) | (refine hcL _ _ _ _ ?_; first | (refine w_undU ‹_› (by omega) (by omega) hj h0 ?_) | fail) | (simp (disch := omega) only [nI_add, nI_mul, nI_cl, Nat.add_zero]))
      all_goals (try simp only [takeG, setG])
      all_goals first
        | exact hcl _ (by assumption)
        | exact hcl2 _ _ (by assumption)
        | skip
  · have kg : ¬ cmpT 3 o.1 0 := fun q => by
      have q : (0 : Int32).toInt ≤ o.1.toInt := q
      rw [Int32.toInt_zero] at q
      omega
    refine hX 1000 140 _ _ _ ?_
    repeat' (first | (intro hc; first | exact absurd hc kg | exact absurd rfl hc | exact absurd (cmp_self _) hc | skip) | (show wpl _ _ _ _ _ _ _ _ _ _ _ _; conv => whnf) | (refine And.intro ?_ ?_) | (refine hcM _ _ _ _ ?_; first | (refine l_turnN hI hB (by omega) hj ho (by omega) ?_) | (refine g_cntI ‹_› ?_) | fail) | (refine hcL _ _ _ _ ?_; first | (refine g_viewI ‹_› ?_) | fail) | (simp (disch := omega) only [nI_add, nI_mul, nI_cl, Nat.add_zero]))
    all_goals (try simp only [takeG, setG])
    all_goals first
      | exact h _ _ _ _ _ (IV_B ‹IV _ F G n (B + 1)› (by omega)) (fun _ => ⟨Int.le_refl _, Int.le_refl _⟩)
      | skip
end LAWS
