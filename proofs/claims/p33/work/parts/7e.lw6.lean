/-! THE LAW'S CHECKS WITH VIEWS: isUndone, isSaved -/
theorem cmp_self (x : Int64) : lg_cmp x x = 0 := by simp [lg_cmp]
theorem eq_sav {s s' : St} (h : Fr s s') : s'.1 18 0 = s.1 18 0 := funext fun k => h 18 0 k (by omega)
section LW6
variable {L : Nat} {xs : Nat → Int32} {f i n B k r m j p c l d : Nat} {x y a b w v name flow place : Int32} {s s' : St} {F F1 F2 G : Fm} {o : Int32 × Fm} {Q : Option MV → St → Prop} {QL : Option LV → St → Prop}
theorem g_viewI (hI : IV s F G n B) (h : QL (some (.inr (viewF F))) s) : wpL L xs codT colT retT (f + 7) m_L_view [.inl (.inr (9, 0))] s QL := w_view hI.hw hI.hR h
theorem g_cntI (hI : IV s F G n B) (h : Q (some (.inl (nI n))) s) : wpM L xs codT retT (f + 6) m_X9_total [.inr (9, 0), .inl (nI 11)] s Q := g_cnt hI.cl h
theorem g_t0I (hI : IV s F G n B) (h : Q (some (.inl (F 0))) s) : wpM L xs codT retT (f + 6) m_X9_total [.inr (9, 0), .inl (nI 0)] s Q := g_tot0 hI.hw hI.hR h
theorem g_undoI (hI : IV s F1 G n B) (hn : 0 < n) (hF : ∀ k, k < 509 → rowG G (n - 1) k = F k) (h : ∀ s', Fr s s' → IV s' F G (n - 1) B → Q (some (.inl (nI (n - 1)))) s') : wpM L xs codT retT (f + 6) m_X9_undo [.inr (9, 0)] s Q := x_undo hI.cl (fun e => absurd e (by omega)) (fun _ s' hf hC => h s' hf (IV_undo hI hn hF hf hC))
theorem l_turnP (hI : IV s F G n B) (hB : 1 ≤ B) (hB2 : B < 1000000) (hk : k < 16) (ho : turnF (s.1 18 0) G F k a b = o) (h0 : 0 ≤ o.1.toInt) (h : ∀ s', Fr s s' → IV s' o.2 (recG G F n) (recN n) (B + 1) → Q (some (.inl o.1)) s') : wpM L xs codT retT (f + 8) m_L_turn [.inr (9, 0), .inl (nI k), .inl a, .inl b] s Q := by
  subst ho
  exact l_turn hI.cl hB hB2 hk (fun s' hf hC => h s' hf (IV_pos hI hf hC h0 (turn_cn hI hB2 hk h0)))
/-- a turn, whatever it tells -/
theorem l_turnI (hI : IV s F G n B) (hB : 1 ≤ B) (hB2 : B < 1000000) (hk : k < 16) (h : ∀ s' v F' G' n', Fr s s' → IV s' F' G' n' (B + 1) → (∀ j, j < 2 → rowG G' (5 + j) = rowG G (5 + j)) → Q (some (.inl v)) s') : wpM L xs codT retT (f + 8) m_L_turn [.inr (9, 0), .inl (nI k), .inl a, .inl b] s Q := by
  refine l_turn hI.cl hB hB2 hk (fun s' hf hC => ?_)
  by_cases h0 : 0 ≤ (turnF (s.1 18 0) G F k a b).1.toInt
  · exact h s' _ _ _ _ hf (IV_pos hI hf hC h0 (turn_cn hI hB2 hk h0)) (fun j hj => sav_eq hI.cl.n5 hj)
  · exact h s' _ _ _ _ hf (IV_neg hI hf hC (by omega)) (fun _ _ => rfl)
theorem g_saveI (hI : IV s F G n B) (hj : j < 2) (e : v = nI j) (h : ∀ s', s'.1 18 0 j = nI 1 → IV s' F (keepG G F (5 + j)) n B → Q (some (.inl (F 0))) s') : wpM L xs codT retT (f + 5) m_X9_save [.inr (9, 0), .inl v] s Q := by
  subst e
  have hn := hI.cl.n5
  refine x_save hI.cl (fun q => absurd (iN_k hj (by omega)) q) (fun j' hj' e' s' hf hs hC => ?_)
  have ej : j' = j := by rw [nI_inj (by omega) (by omega)] at e'; exact e'.symm
  subst ej
  refine h s' hs.1 ⟨hC, hI.2.1, fun i hi => CN_cg (hI.cl.hrow hi) (fun k hk => by rw [keep_row hk, if_neg (by omega)]) (hI.2.2.1 i hi), fun t ht et => ?_⟩
  by_cases q : t = j'
  · subst q
    exact CN_cg hI.hw (fun k hk => by rw [keep_row hk, if_pos rfl]) hI.2.1
  · rw [hs.2 t q] at et
    exact CN_cg (hI.cl.hsav ht et).1 (fun k hk => by rw [keep_row hk, if_neg (by omega)]) (hI.2.2.2 t ht et)
theorem g_restI (hI : IV s F2 G n B) (hj : j < 2) (e : v = nI j) (hs : s.1 18 0 j = nI 1) (hF : ∀ k, k < 509 → rowG G (5 + j) k = F k) (h : ∀ s', Fr s s' → IV s' F (recG G F2 n) (recN n) B → Q (some (.inl (F 0))) s') : wpM L xs codT retT (f + 6) m_X9_restore [.inr (9, 0), .inl v] s Q := by
  subst e
  have hn := hI.cl.n5
  have ne : ¬ s.1 18 0 j = 0 := by rw [hs]; exact nI1_ne
  refine x_restore hI.cl (fun q => absurd (iN_k hj (by omega)) q) (fun j' hj' e' h0 => ?_) (fun j' hj' e' h0 s' hf hC => ?_)
  · have ej : j' = j := by rw [nI_inj (by omega) (by omega)] at e'; exact e'.symm
    subst ej
    exact absurd h0 ne
  · have ej : j' = j := by rw [nI_inj (by omega) (by omega)] at e'; exact e'.symm
    subst ej
    rw [hF 0 (by omega)]
    have hrow := (hI.cl.hsav hj ne).1
    refine h s' hf ⟨CL_fg (fun i hi => (hF i hi).symm) (fun _ _ => rfl) hC, CN_cg hrow (fun i hi => (hF i hi).symm) (hI.2.2.2 _ hj ne), fun i hi => rows_cn hI hi, fun t ht et => ?_⟩
    rw [sav_eq hn ht]
    rw [hf 18 0 t (by omega)] at et
    exact hI.2.2.2 t ht et
set_option maxHeartbeats 4000000 in
set_option maxRecDepth 100000 in
theorem w_isUndone (hI : IV s F1 G n B) (hB : 1 ≤ B) (hB2 : B < 1000000) (hn : 0 < n) (hF : ∀ k, k < 509 → rowG G (n - 1) k = F k) (hk : k < 16) (ho : turnF (s.1 18 0) G F k a b = o) (h0 : 0 ≤ o.1.toInt) (hrn : recN (n - 1) = n) (h : ∀ s' G', IV s' o.2 G' n (B + 1) → QL (some (.inl (.inl (nI 1)))) s') : wpL L xs codT colT retT (f + 9) m_L_isUndone [.inl (.inr (9, 0)), .inl (.inl (nI k)), .inl (.inl a), .inl (.inl b), .inl (.inl o.1), .inr (viewF F)] s QL := by
  have hn5 := hI.cl.n5
  have en : nI n - nI 1 = nI (n - 1) := nI_sub (by omega) (by omega)
  intro callM callL hcM hcL X hX; refine hX 1000 0 _ _ _ ?_
  repeat' (first | (intro hc) | (refine And.intro ?_ ?_) | (exact absurd nI_0 ‹cmpF 0 (nI 0) 0›) | (exact absurd ‹cmpT 0 (nI 1) 0› nI1_ne) | (exact absurd nI_0 ‹cmpT 1 (nI 0) 0›) | (exact absurd ‹cmpF 1 (nI 1) 0› nI1_ne) | (show wpl _ _ _ _ _ _ _ _ _ _ _ _; conv => whnf) | (simp (disch := omega) only [nI_add, nI_mul, nI_cl, Nat.add_zero]) | (refine hcM _ _ _ _ ?_; first | (refine g_cntI ‹_› ?_) | (refine g_undoI hI hn hF ?_) | (refine l_turnP ‹IV _ F G (n - 1) B› hB hB2 hk ((congrArg (fun q => turnF q G F k a b) (eq_sav ‹Fr s _›)).trans ho) h0 ?_) | fail) | (refine hcL _ _ _ _ ?_; first | (refine g_viewI ‹IV _ F G (n - 1) B› ?_) | fail))
  all_goals first
    | exact nI_1b
    | exact h _ _ (by rw [hrn] at *; assumption)
    | exact absurd (cmp_self _) (by assumption)
    | exact absurd en.symm (by assumption)
    | exact absurd rfl (by assumption)
    | exact absurd (congrArg nI hrn) (by assumption)
    | skip
end LW6
