/-! THE CLASS: its history -/
def rowG (G : Fm) (c : Nat) : Fm := fun k => G (509 * c + k)
/-- what is not of worlds, history or saves stays -/
def Fr (s s' : St) : Prop := ∀ c i k, (c = 0 ∨ c = 19 ∨ c = 10 ∨ 20 ≤ c ∨ c = 18) → s'.1 c i k = s.1 c i k
def savR (s : St) (G : Fm) (B : Nat) : Prop := ∀ j, j < 2 → (s.1 18 0 j = 0 ∨ s.1 18 0 j = 1) ∧ (¬ s.1 18 0 j = 0 → RepW s (8 + j) (rowG G (5 + j)) ∧ WFh (rowG G (5 + j)) B)
def hisR (s : St) (G : Fm) (o n : Nat) (B : Nat) : Prop := o < 6 ∧ n ≤ 5 ∧ s.1 3 0 1 = nI o ∧ s.1 3 0 2 = nI n ∧ ∀ i, i < n → RepW s (2 + (o + i) % 6) (rowG G i) ∧ WFh (rowG G i) B
/-- the class stands for: the present F, the kept rows G, n states -/
def CL (s : St) (F G : Fm) (n B : Nat) : Prop := permOk s ∧ (RepW s 0 F ∧ WFh F B) ∧ (∃ o, hisR s G o n B) ∧ savR s G B
/-- the same, with a draft of F0 -/
def DR (s : St) (F0 F G : Fm) (n B : Nat) : Prop := permOk s ∧ (RepW s 0 F ∧ WFh F B) ∧ (∃ o, hisR s G o n B ∧ RepW s (2 + (o + n) % 6) F0 ∧ WFh F0 B) ∧ savR s G B
section CLS22
variable {L : Nat} {xs : Nat → Int32} {f i i2 k r p q c j n o B B' b w w' w2 m sd : Nat} {x y v z l lo v0 v1 name flow place which : Int32} {s s' s2 s3 t : St} {F F0 F1 G C F' U u : Fm} {Q : Option MV → St → Prop} {P : Nat → Nat}
theorem Fr.refl : Fr s s := fun _ _ _ _ => rfl
theorem Fr.trans (h1 : Fr s s') (h2 : Fr s' t) : Fr s t := fun c i k h => (h2 c i k h).trans (h1 c i k h)
theorem own_99 (h : c = 0 ∨ c = 19 ∨ c = 10 ∨ 20 ≤ c ∨ c = 3 ∨ c = 18) : ownW c i = 99 := by
  unfold ownW
  split <;> first | omega | rfl
theorem Upd.fr (h : Upd s s' w) (h10 : w < 10) : Fr s s' := fun c i k hc => h.1 c i k (by rw [own_99 (by omega)]; omega)
theorem Upd.kk (h : Upd s s' w) (h10 : w < 10) (hc : c = 3 ∨ c = 18) : s'.1 c i k = s.1 c i k := h.1 c i k (by rw [own_99 (by omega)]; omega)
theorem Fr_put (h : c = 3) : Fr s (putV s c i k x) := fun c' i' k' hc => putV_ne (by omega)
theorem fm_ok : ∀ a, a < 12 → 0 ≤ (nI a ^^^ nI 6).toInt ∧ nI a - nI a / nI 6 * nI 6 = nI (a % 6) := by decide +kernel
set_option maxHeartbeats 4000000 in
set_option maxRecDepth 100000 in
theorem c_floorMod {a : Nat} (ha : a < 12) (h : Q (some (.inl (nI (a % 6)))) s) : wpM L xs codT retT (f + 1) m_J9_floorMod_7cf53 [.inl (nI a), .inl (nI 6)] s Q := by
  obtain ⟨h1, h2⟩ := fm_ok a ha
  have h6 : ¬ nI 6 = 0 := by decide
  intro call hcall X hX; refine hX 1000 0 _ _ _ ?_
  repeat' (first | (intro hc) | (refine And.intro ?_ ?_) | (exact absurd nI_0 ‹cmpF 0 (nI 0) 0›) | (exact absurd ‹cmpT 0 (nI 1) 0› nI1_ne) | (exact absurd nI_0 ‹cmpT 1 (nI 0) 0›) | (exact absurd ‹cmpF 1 (nI 1) 0› nI1_ne) | (show wp _ _ _ _ _ _ _ _ _ _ _ _; conv => whnf))
  all_goals first
    | exact h6
    | (rw [h2]; exact h)
    | (exfalso; exact h6 (by assumption))
    | (exfalso; clear h hX hcall h2; simp only [cmpT, cmpF, Int32.toInt_zero] at *; omega)
set_option maxHeartbeats 4000000 in
set_option maxRecDepth 100000 in
theorem c_row (hi : i ≤ 5) (ho : o < 6) (e : s.1 3 0 1 = nI o) (h : Q (some (.inl (nI ((o + i) % 6)))) s) : wpM L xs codT retT (f + 2) m_X3_row [.inr (3, 0), .inl (nI i)] s Q := by
  intro call hcall X hX; refine hX 1000 0 _ _ _ ?_
  repeat' (first | (intro hc) | (refine And.intro ?_ ?_) | (exact absurd nI_0 ‹cmpF 0 (nI 0) 0›) | (exact absurd ‹cmpT 0 (nI 1) 0› nI1_ne) | (exact absurd nI_0 ‹cmpT 1 (nI 0) 0›) | (exact absurd ‹cmpF 1 (nI 1) 0› nI1_ne) | (show wp _ _ _ _ _ _ _ _ _ _ _ _; conv => whnf) | (rw [e]) | (simp (disch := omega) only [nI_add, nI_mul, setN_now, setN_put, nI_cl, Nat.add_zero]) | (refine hcall _ _ _ _ ?_; first | (refine c_floorMod (a := o + i) (by omega) ?_) | fail))
  all_goals exact h
set_option maxHeartbeats 4000000 in
set_option maxRecDepth 100000 in
theorem c_draft (hC : CL s F G n B) (h : ∀ s', Fr s s' → DR s' F F G n B → Q none s') : wpM L xs codT retT (f + 5) m_X3_draft [.inr (3, 0), .inr (8, 0)] s Q := by
  obtain ⟨hp, ⟨hR, hW⟩, ⟨o, ho6, hn, ho, hct, hh⟩, hs⟩ := hC
  have hm : (o + n) % 6 < 6 := Nat.mod_lt _ (by omega)
  have h : ∀ s', Upd s s' (2 + (o + n) % 6) → RepW s' (2 + (o + n) % 6) F → Q none s' := fun s' u R => h s' (u.fr (by omega)) ⟨u.2.2 hp, ⟨u.rep (by omega) hW.1 hp (by omega) hR, hW⟩, ⟨o, ⟨ho6, hn, (u.kk (by omega) (by omega)).trans ho, (u.kk (by omega) (by omega)).trans hct, fun i hi => by
    obtain ⟨g1, g2⟩ := hh i hi
    refine ⟨u.rep ?_ g2.1 hp (by omega) g1, g2⟩
    omega⟩, R, hW⟩, fun j hj => by
    obtain ⟨g1, g2⟩ := hs j hj
    rw [u.kk (by omega) (by omega)]
    exact ⟨g1, fun q => ⟨u.rep (by omega) (g2 q).2.1 hp (by omega) (g2 q).1, (g2 q).2⟩⟩⟩
  have ef : fv s 3 0 2 = .inl (nI n) := by
    show (Sum.inl (s.1 3 0 2) : MV) = _
    rw [hct]
  intro call hcall X hX; refine hX 1000 0 _ _ _ ?_
  repeat' (first | (intro hc) | (refine And.intro ?_ ?_) | (exact absurd nI_0 ‹cmpF 0 (nI 0) 0›) | (exact absurd ‹cmpT 0 (nI 1) 0› nI1_ne) | (exact absurd nI_0 ‹cmpT 1 (nI 0) 0›) | (exact absurd ‹cmpF 1 (nI 1) 0› nI1_ne) | (show wp _ _ _ _ _ _ _ _ _ _ _ _; conv => whnf) | (rw [ef]) | (simp (disch := omega) only [nI_cl]) | (simp (disch := omega) only [nI_add, nI_mul, setN_now, setN_put, nI_cl, Nat.add_zero]) | (refine hcall _ _ _ _ ?_; first | (refine c_row hn ho6 ho ?_) | (refine c_worldCopy hW.1 hp (w := 2 + (o + n) % 6) (w2 := 0) (by omega) (by omega) (by omega) hR (fun s' u R => ?_)) | fail))
  all_goals first
    | exact h _ u R
    | (simp (disch := omega) only [nI_toI, nI_cl, nI_add, nI_mul, alen11, alen12, alen13, alen14, alen15, alen16, alen17, alen18, alen19]; omega)
theorem WFh_F (h : ∀ i, i < 509 → F' i = F i) (hw : WFh F B) : WFh F' B := ⟨WF_cgr hw.1 (fun i _ hi => h i hi) (by rw [h 0 (by omega)]; exact hw.1.h), by rw [h 0 (by omega)]; exact hw.2⟩
theorem rec_row (hn : n ≤ 5) (h : i < recN n) (hk : k < 509) : rowG (recG G F0 n) i k = if i + 1 = recN n then F0 k else if n = 5 then rowG G (i + 1) k else rowG G i k := by
  unfold recN at h ⊢
  unfold rowG recG
  by_cases h5 : n = 5
  · rw [if_pos h5, if_pos h5] at *
    rw [if_pos h5]
    show keepG (shK G 2036) F0 4 (509 * i + k) = _
    unfold keepG shK
    by_cases h4 : i = 4
    · rw [if_pos (by omega), if_pos (by omega)]
      rw [show 509 * i + k - 509 * 4 = k by omega]
    · rw [if_neg (by omega), if_pos (by omega), if_neg (by omega)]
      rw [show 509 * i + k + 509 = 509 * (i + 1) + k by omega]
  · rw [if_neg h5, if_neg h5] at *
    rw [if_neg h5]
    show keepG G F0 n (509 * i + k) = _
    unfold keepG
    by_cases h4 : i = n
    · rw [if_pos (by omega), if_pos (by omega)]
      rw [show 509 * i + k - 509 * n = k by omega]
    · rw [if_neg (by omega), if_neg (by omega)]
theorem rec_sav (hn : n ≤ 5) (hj : j < 2) : rowG (recG G F0 n) (5 + j) k = rowG G (5 + j) k := by
  unfold rowG recG
  by_cases h5 : n = 5
  · rw [if_pos h5]
    unfold keepG shK
    rw [if_neg (by omega), if_neg (by omega)]
  · rw [if_neg h5]
    unfold keepG
    rw [if_neg (by omega)]
theorem RepW_put (h : c = 3 ∨ c = 18) (hw : WF F B) (hp : permOk s) (h10 : w < 10) (hR : RepW s w F) : RepW (putV s c i k x) w F := RepW_cg hw hp h10 ⟨fun c' i' k' e => putV_ne (by
  by_cases e1 : c' = c
  · exfalso
    rw [e1, own_99 (by omega)] at e
    omega
  · exact Or.inl e1), fun _ _ _ => rfl⟩ hR
set_option maxHeartbeats 4000000 in
set_option maxRecDepth 100000 in
theorem c_keepDraft (hD : DR s F0 F G n B) (h : ∀ s', Fr s s' → CL s' F (recG G F0 n) (recN n) B → Q none s') : wpM L xs codT retT (f + 3) m_X3_keepDraft [.inr (3, 0)] s Q := by
  obtain ⟨hp, ⟨hR, hW⟩, ⟨o, ⟨ho6, hn, ho, hct, hh⟩, hdR, hdW⟩, hs⟩ := hD
  have sv : ∀ s1, (∀ w F, w < 10 → WF F B → RepW s w F → RepW s1 w F) → (∀ j, s1.1 18 0 j = s.1 18 0 j) → savR s1 (recG G F0 n) B := fun s1 k1 k2 j hj => by
    obtain ⟨g1, g2⟩ := hs j hj
    rw [k2]
    exact ⟨g1, fun q => ⟨RepW_F (g2 q).2.1 (fun i hi => rec_sav hn hj) (k1 _ _ (by omega) (g2 q).2.1 (g2 q).1), WFh_F (fun i hi => rec_sav hn hj) (g2 q).2⟩⟩
  by_cases h5 : n = 5
  · subst h5
    have eN : recN 5 = 5 := rfl
    have k1 : ∀ w F, w < 10 → WF F B → RepW s w F → RepW (putV s 3 0 1 (nI ((o + 1) % 6))) w F := fun w F h10 w1 q => RepW_put (Or.inl rfl) w1 hp h10 q
    have h := h (putV s 3 0 1 (nI ((o + 1) % 6))) (Fr_put rfl) ⟨permOk_put hp, ⟨k1 _ _ (by omega) hW.1 hR, hW⟩, ⟨(o + 1) % 6, Nat.mod_lt _ (by omega), by rw [eN]; omega, putV_at, by rw [putV_ne (by omega), eN]; exact hct, fun i hi => by
      rw [eN] at hi
      by_cases h4 : i = 4
      · have e1 : 2 + ((o + 1) % 6 + i) % 6 = 2 + (o + 5) % 6 := by omega
        have er : ∀ k, k < 509 → rowG (recG G F0 5) i k = F0 k := fun k hk => by rw [rec_row (by omega) (by rw [eN]; omega) hk, if_pos (by rw [eN]; omega)]
        rw [e1]
        exact ⟨RepW_F hdW.1 er (k1 _ _ (by omega) hdW.1 hdR), WFh_F er hdW⟩
      · have e1 : 2 + ((o + 1) % 6 + i) % 6 = 2 + (o + (i + 1)) % 6 := by omega
        have er : ∀ k, k < 509 → rowG (recG G F0 5) i k = rowG G (i + 1) k := fun k hk => by rw [rec_row (by omega) (by rw [eN]; omega) hk, if_neg (by rw [eN]; omega), if_pos rfl]
        obtain ⟨g1, g2⟩ := hh (i + 1) (by omega)
        rw [e1]
        exact ⟨RepW_F g2.1 er (k1 _ _ (by omega) g2.1 g1), WFh_F er g2⟩⟩, sv _ k1 (fun j => putV_ne (by omega))⟩
    intro call hcall X hX; refine hX 1000 0 _ _ _ ?_
    repeat' (first | (intro hc) | (refine And.intro ?_ ?_) | (exact absurd nI_0 ‹cmpF 0 (nI 0) 0›) | (exact absurd ‹cmpT 0 (nI 1) 0› nI1_ne) | (exact absurd nI_0 ‹cmpT 1 (nI 0) 0›) | (exact absurd ‹cmpF 1 (nI 1) 0› nI1_ne) | (show wp _ _ _ _ _ _ _ _ _ _ _ _; conv => whnf) | (simp (disch := omega) only [nI_add, nI_mul, setN_now, setN_put, nI_cl, Nat.add_zero]) | (refine hcall _ _ _ _ ?_; first | (refine c_row (i := 1) (by omega) ho6 ho ?_) | fail))
    all_goals first
      | exact h
      | (clear h sv k1; (try clear hX hcall); (try clear h); (try simp (disch := omega) only [cmpT, cmpF, bI_eq0, bI_ne0, Classical.not_not, nI_toI, nI_cl, nI_inj, nI_add, nI_mul, nI_subI, takeL, setL, Int32.toInt_zero, Nat.add_zero, setN_now, alen20, alen11, alen12, alen13, alen14, alen15, alen16, alen17, alen18, alen19, (id hct)] at *); omega)
  · have eN : recN n = n + 1 := if_neg h5
    have k1 : ∀ w F, w < 10 → WF F B → RepW s w F → RepW (putV s 3 0 2 (nI (n + 1))) w F := fun w F h10 w1 q => RepW_put (Or.inl rfl) w1 hp h10 q
    have h := h (putV s 3 0 2 (nI (n + 1))) (Fr_put rfl) ⟨permOk_put hp, ⟨k1 _ _ (by omega) hW.1 hR, hW⟩, ⟨o, ho6, by omega, by rw [putV_ne (by omega)]; exact ho, by rw [putV_at, eN], fun i hi => by
      rw [eN] at hi
      by_cases h4 : i = n
      · have er : ∀ k, k < 509 → rowG (recG G F0 n) i k = F0 k := fun k hk => by rw [rec_row hn (by rw [eN]; omega) hk, if_pos (by rw [eN]; omega)]
        rw [h4] at er ⊢
        exact ⟨RepW_F hdW.1 er (k1 _ _ (by omega) hdW.1 hdR), WFh_F er hdW⟩
      · have er : ∀ k, k < 509 → rowG (recG G F0 n) i k = rowG G i k := fun k hk => by rw [rec_row hn (by rw [eN]; omega) hk, if_neg (by rw [eN]; omega), if_neg h5]
        obtain ⟨g1, g2⟩ := hh i (by omega)
        exact ⟨RepW_F g2.1 er (k1 _ _ (by omega) g2.1 g1), WFh_F er g2⟩⟩, sv _ k1 (fun j => putV_ne (by omega))⟩
    intro call hcall X hX; refine hX 1000 0 _ _ _ ?_
    repeat' (first | (intro hc) | (refine And.intro ?_ ?_) | (exact absurd nI_0 ‹cmpF 0 (nI 0) 0›) | (exact absurd ‹cmpT 0 (nI 1) 0› nI1_ne) | (exact absurd nI_0 ‹cmpT 1 (nI 0) 0›) | (exact absurd ‹cmpF 1 (nI 1) 0› nI1_ne) | (show wp _ _ _ _ _ _ _ _ _ _ _ _; conv => whnf) | (rw [hct]) | (simp (disch := omega) only [nI_add, nI_mul, setN_now, setN_put, nI_cl, Nat.add_zero]) | (refine hcall _ _ _ _ ?_; first | (refine c_row (i := 1) (by omega) ho6 ho ?_) | fail))
    all_goals first
      | exact h
      | (clear h sv k1; (try clear hX hcall); (try clear h); (try simp (disch := omega) only [cmpT, cmpF, bI_eq0, bI_ne0, Classical.not_not, nI_toI, nI_cl, nI_inj, nI_add, nI_mul, nI_subI, takeL, setL, Int32.toInt_zero, Nat.add_zero, setN_now, alen20, alen11, alen12, alen13, alen14, alen15, alen16, alen17, alen18, alen19, (id hct)] at *); omega)
set_option maxHeartbeats 4000000 in
set_option maxRecDepth 100000 in
theorem c_recorded (hD : DR s F0 F G n B) (h0 : v.toInt < 0 → Q (some (.inl v)) s) (h1 : 0 ≤ v.toInt → ∀ s', Fr s s' → CL s' F (recG G F0 n) (recN n) B → Q (some (.inl v)) s') : wpM L xs codT retT (f + 4) m_X9_recorded [.inr (9, 0), .inl v] s Q := by
  by_cases hv : v.toInt < 0
  · have h := h0 hv
    clear h0 h1
    intro call hcall X hX; refine hX 1000 0 _ _ _ ?_
    repeat' (first | (intro hc) | (refine And.intro ?_ ?_) | (exact absurd nI_0 ‹cmpF 0 (nI 0) 0›) | (exact absurd ‹cmpT 0 (nI 1) 0› nI1_ne) | (exact absurd nI_0 ‹cmpT 1 (nI 0) 0›) | (exact absurd ‹cmpF 1 (nI 1) 0› nI1_ne) | (show wp _ _ _ _ _ _ _ _ _ _ _ _; conv => whnf))
    all_goals first
      | exact h
      | (clear h; (try clear hX hcall); (try clear h); (try simp (disch := omega) only [cmpT, cmpF, bI_eq0, bI_ne0, Classical.not_not, nI_toI, nI_cl, nI_inj, nI_add, nI_mul, nI_subI, takeL, setL, Int32.toInt_zero, Nat.add_zero, Nat.zero_mul, Nat.zero_add, alen11, alen12, alen13, alen14, alen15, alen16, alen17, alen18, alen19] at *); omega)
  · have h := h1 (by omega)
    clear h0 h1
    intro call hcall X hX; refine hX 1000 0 _ _ _ ?_
    repeat' (first | (intro hc) | (refine And.intro ?_ ?_) | (exact absurd nI_0 ‹cmpF 0 (nI 0) 0›) | (exact absurd ‹cmpT 0 (nI 1) 0› nI1_ne) | (exact absurd nI_0 ‹cmpT 1 (nI 0) 0›) | (exact absurd ‹cmpF 1 (nI 1) 0› nI1_ne) | (show wp _ _ _ _ _ _ _ _ _ _ _ _; conv => whnf) | (simp (disch := omega) only [nI_add, nI_mul, setN_now, setN_put, nI_cl, Nat.add_zero]) | (refine hcall _ _ _ _ ?_; first | (refine c_keepDraft hD (fun s' fr cl => ?_)) | fail))
    all_goals first
      | exact h _ fr cl
      | (clear h; (try clear hX hcall); (try clear h); (try simp (disch := omega) only [cmpT, cmpF, bI_eq0, bI_ne0, Classical.not_not, nI_toI, nI_cl, nI_inj, nI_add, nI_mul, nI_subI, takeL, setL, Int32.toInt_zero, Nat.add_zero, Nat.zero_mul, Nat.zero_add, alen11, alen12, alen13, alen14, alen15, alen16, alen17, alen18, alen19] at *); omega)
theorem DR.cl (h : DR s F0 F G n B) : CL s F G n B := ⟨h.1, h.2.1, h.2.2.1.imp (fun o q => q.1), h.2.2.2⟩
/-- a call on the present, behind a draft -/
theorem DR.upd (hD : DR s F0 F G n B) (u : Upd s s' 0) (R : RepW s' 0 F') (hW : WFh F' B') (hB : B ≤ B') : DR s' F0 F' G n B' := by
  obtain ⟨hp, ⟨hR, -⟩, ⟨o, ⟨ho6, hn, ho, hct, hh⟩, hdR, hdW⟩, hs⟩ := hD
  refine ⟨u.2.2 hp, ⟨R, hW⟩, ⟨o, ⟨ho6, hn, (u.kk (by omega) (by omega)).trans ho, (u.kk (by omega) (by omega)).trans hct, fun i hi => ?_⟩, u.rep (by omega) hdW.1 hp (by omega) hdR, WFh_mono hB hdW⟩, fun j hj => ?_⟩
  · obtain ⟨g1, g2⟩ := hh i hi
    exact ⟨u.rep (by omega) g2.1 hp (by omega) g1, WFh_mono hB g2⟩
  · obtain ⟨g1, g2⟩ := hs j hj
    rw [u.kk (by omega) (by omega)]
    exact ⟨g1, fun q => ⟨u.rep (by omega) (g2 q).2.1 hp (by omega) (g2 q).1, WFh_mono hB (g2 q).2⟩⟩
end CLS22
