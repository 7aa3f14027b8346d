/-! THE LAW'S VIEW: a sum of all that can be asked for; what it is does not matter, but that it is one of the numbers alone -/
def adL (v : Int64) (x : Int32) : Int64 := Int32.toInt64 31 * v + x.toInt64
def fld (g : Nat → Int32) : Nat → Int64 → Int64
  | 0, v => v
  | n + 1, v => adL (fld g n v) (g n)
def fldN (h : Nat → Int64 → Int64) : Nat → Int64 → Int64
  | 0, v => v
  | n + 1, v => h n (fldN h n v)
def vw1 (F : Fm) : Int64 := fld (totW F) 11 (Int32.toInt64 7)
def vw2 (F : Fm) (n : Nat) (v : Int64) : Int64 := fld (fun k => serverA F (nI n) (nI k)) 6 v
def vwa (F : Fm) (n : Nat) (v : Int64) : Int64 := fld (fun k => siteA F (nI n) (nI k)) 8 v
def vwb (F : Fm) (n : Nat) (v : Int64) : Int64 := fld (fun k => slotA F (nI n) (nI (k / 3)) (nI (k % 3))) 9 v
def vwc (F : Fm) (r : Nat) (v : Int64) : Int64 := fld (fun k => routA F (nI r) (nI k)) 6 v
def vwd (F : Fm) (r m : Nat) (v : Int64) : Int64 := fld (fun k => mapA F (nI r) (nI m) (nI k)) 5 v
def vw4 (F : Fm) (r : Nat) (v : Int64) : Int64 := fldN (vwd F r) (cM F r) (vwc F r v)
def viewF (F : Fm) : Int64 := fldN (vw4 F) (cR F) (fldN (fun n v => vwb F n (vwa F n v)) (cT F) (fldN (vw2 F) (cS F) (vw1 F)))
theorem fld_s (g : Nat → Int32) (n : Nat) (v : Int64) : fld g (n + 1) v = adL (fld g n v) (g n) := rfl
theorem fldN_s (h : Nat → Int64 → Int64) (n : Nat) (v : Int64) : fldN h (n + 1) v = h n (fldN h n v) := rfl
theorem fld_0 (g : Nat → Int32) (v : Int64) : fld g 0 v = v := rfl
theorem fldN_0 (h : Nat → Int64 → Int64) (v : Int64) : fldN h 0 v = v := rfl
theorem div3 : ∀ k, k < 9 → nI (k / 3) = nI k / nI 3 ∧ nI (k % 3) = nI k - nI k / nI 3 * nI 3 := by decide +kernel
theorem nI3_ne : ¬ nI 3 = 0 := by decide +kernel
abbrev oL : Option LV := some (.inl (.inr (9, 0)))
abbrev iL (x : Int32) : Option LV := some (.inl (.inl x))
abbrev lL (v : Int64) : Option LV := some (.inr v)
abbrev walkV (callM : Nat → List MV → St → (Option MV → St → Prop) → Prop) (callL : Nat → List LV → St → (Option LV → St → Prop) → Prop) (L : Nat) (Q : Option LV → St → Prop) (X : Nat → LO → List LV → St → Prop) (m : Nat) : Prop := ∀ N pc ls st z, wpl callM callL L (retT m) Q X (colT m) N (behind (fromPc (colT m) pc)) ls st z → X pc ls st z
abbrev okM (callM : Nat → List MV → St → (Option MV → St → Prop) → Prop) (L : Nat) (xs : Nat → Int32) (f : Nat) : Prop := ∀ (m : Nat) (as : List MV) (s : St) (Q : Option MV → St → Prop), wpM L xs codT retT f m as s Q → callM m as s Q
abbrev okLL (callL : Nat → List LV → St → (Option LV → St → Prop) → Prop) (L : Nat) (xs : Nat → Int32) (f : Nat) : Prop := ∀ (m : Nat) (as : List LV) (s : St) (Q : Option LV → St → Prop), wpL L xs codT colT retT f m as s Q → callL m as s Q
section VIEW
variable {L : Nat} {xs : Nat → Int32} {f i n B k r m j p c l : Nat} {x y a b w : Int32} {v : Int64} {s s' : St} {F G : Fm} {Q : Option LV → St → Prop} {X : Nat → LO → List LV → St → Prop} {callM : Nat → List MV → St → (Option MV → St → Prop) → Prop} {callL : Nat → List LV → St → (Option LV → St → Prop) → Prop}
theorem g_tot1 {Q : Option MV → St → Prop} (hw : WF F B) (hR : RepW s 0 F) (h : Q (some (.inl (nI (cS F)))) s) : wpM L xs codT retT (f + 6) m_X9_total [.inr (9, 0), .inl (nI 1)] s Q := g_tot hw hR (by omega) (by rw [show totW F 1 = nI (cS F) from hw.s1]; exact h)
theorem g_tot3 {Q : Option MV → St → Prop} (hw : WF F B) (hR : RepW s 0 F) (h : Q (some (.inl (nI (cR F)))) s) : wpM L xs codT retT (f + 6) m_X9_total [.inr (9, 0), .inl (nI 3)] s Q := g_tot hw hR (by omega) (by rw [show totW F 3 = nI (cR F) from hw.r1]; exact h)
set_option maxHeartbeats 16000000 in
set_option maxRecDepth 100000 in
theorem v_tot (hX : walkV callM callL L Q X m_L_view) (hcM : okM callM L xs (f + 6)) (hw : WF F B) (hR : RepW s 0 F) (h : X 33 [oL, lL (fld (totW F) 11 v), none, iL (nI 0)] [] s) : X 6 [oL, lL v, none, iL (nI 0)] [] s := by
  have lk : ∀ k, k ≤ 11 → X 6 [oL, lL (fld (totW F) k v), none, iL (nI k)] [] s := by
    refine loopD 11 (fun k hk ihk => ?_) ?_
    · clear h
      rw [fld_s _ k] at ihk
      refine hX 1000 6 _ _ _ ?_
      repeat' (first | (intro hc) | (refine And.intro ?_ ?_) | (exact absurd nI_0 ‹cmpF 0 (nI 0) 0›) | (exact absurd ‹cmpT 0 (nI 1) 0› nI1_ne) | (exact absurd nI_0 ‹cmpT 1 (nI 0) 0›) | (exact absurd ‹cmpF 1 (nI 1) 0› nI1_ne) | (show wpl _ _ _ _ _ _ _ _ _ _ _ _; conv => whnf) | (simp (disch := omega) only [nI_add, nI_mul, nI_cl, Nat.add_zero]) | (refine hcM _ _ _ _ ?_; first | (refine g_tot hw hR hk ?_) | fail))
      all_goals first
        | (simp only [takeG, setG, nI_add]; exact ihk)
        | (clear ihk hcM; (try clear hX hcall); (try clear h); (try simp (disch := omega) only [cmpT, cmpF, bI_eq0, bI_ne0, Classical.not_not, nI_toI, nI_cl, nI_inj, nI_add, nI_mul, nI_subI, takeL, setL, Int32.toInt_zero, Nat.add_zero, setN_now, alen20, alen11, alen12, alen13, alen14, alen15, alen16, alen17, alen18, alen19, Nat.add_zero] at *); omega)
    · refine hX 1000 6 _ _ _ ?_
      repeat' (first | (intro hc) | (refine And.intro ?_ ?_) | (exact absurd nI_0 ‹cmpF 0 (nI 0) 0›) | (exact absurd ‹cmpT 0 (nI 1) 0› nI1_ne) | (exact absurd nI_0 ‹cmpT 1 (nI 0) 0›) | (exact absurd ‹cmpF 1 (nI 1) 0› nI1_ne) | (show wpl _ _ _ _ _ _ _ _ _ _ _ _; conv => whnf) | (simp (disch := omega) only [nI_add, nI_mul, nI_cl, Nat.add_zero]))
      all_goals first
        | (simp only [takeG, setG, nI_add]; exact h)
        | (clear h hcM; (try clear hX hcall); (try clear h); (try simp (disch := omega) only [cmpT, cmpF, bI_eq0, bI_ne0, Classical.not_not, nI_toI, nI_cl, nI_inj, nI_add, nI_mul, nI_subI, takeL, setL, Int32.toInt_zero, Nat.add_zero, setN_now, alen20, alen11, alen12, alen13, alen14, alen15, alen16, alen17, alen18, alen19, Nat.add_zero] at *); omega)
  have lkz := lk 0 (Nat.zero_le _)
  rw [fld_0] at lkz
  exact lkz
set_option maxHeartbeats 16000000 in
set_option maxRecDepth 100000 in
theorem v_srv (hX : walkV callM callL L Q X m_L_view) (hcM : okM callM L xs (f + 6)) (hw : WF F B) (hR : RepW s 0 F) (hn : n < 1000) (h : X 33 [oL, lL (vw2 F n v), none, iL (nI (n + 1))] [] s) : X 45 [oL, lL v, none, iL (nI n), iL (nI 0)] [] s := by
  have lk : ∀ k, k ≤ 6 → X 45 [oL, lL (fld (fun k => serverA F (nI n) (nI k)) k v), none, iL (nI n), iL (nI k)] [] s := by
    refine loopD 6 (fun k hk ihk => ?_) ?_
    · clear h
      rw [fld_s _ k] at ihk
      refine hX 1000 45 _ _ _ ?_
      repeat' (first | (intro hc) | (refine And.intro ?_ ?_) | (exact absurd nI_0 ‹cmpF 0 (nI 0) 0›) | (exact absurd ‹cmpT 0 (nI 1) 0› nI1_ne) | (exact absurd nI_0 ‹cmpT 1 (nI 0) 0›) | (exact absurd ‹cmpF 1 (nI 1) 0› nI1_ne) | (show wpl _ _ _ _ _ _ _ _ _ _ _ _; conv => whnf) | (simp (disch := omega) only [nI_add, nI_mul, nI_cl, Nat.add_zero]) | (refine hcM _ _ _ _ ?_; first | (refine c_server hw hR ?_) | fail))
      all_goals first
        | (simp only [takeG, setG, nI_add]; exact ihk)
        | (clear ihk hcM; (try clear hX hcall); (try clear h); (try simp (disch := omega) only [cmpT, cmpF, bI_eq0, bI_ne0, Classical.not_not, nI_toI, nI_cl, nI_inj, nI_add, nI_mul, nI_subI, takeL, setL, Int32.toInt_zero, Nat.add_zero, setN_now, alen20, alen11, alen12, alen13, alen14, alen15, alen16, alen17, alen18, alen19, Nat.add_zero] at *); omega)
    · refine hX 1000 45 _ _ _ ?_
      repeat' (first | (intro hc) | (refine And.intro ?_ ?_) | (exact absurd nI_0 ‹cmpF 0 (nI 0) 0›) | (exact absurd ‹cmpT 0 (nI 1) 0› nI1_ne) | (exact absurd nI_0 ‹cmpT 1 (nI 0) 0›) | (exact absurd ‹cmpF 1 (nI 1) 0› nI1_ne) | (show wpl _ _ _ _ _ _ _ _ _ _ _ _; conv => whnf) | (simp (disch := omega) only [nI_add, nI_mul, nI_cl, Nat.add_zero]))
      all_goals first
        | (simp only [takeG, setG, nI_add]; exact h)
        | (clear h hcM; (try clear hX hcall); (try clear h); (try simp (disch := omega) only [cmpT, cmpF, bI_eq0, bI_ne0, Classical.not_not, nI_toI, nI_cl, nI_inj, nI_add, nI_mul, nI_subI, takeL, setL, Int32.toInt_zero, Nat.add_zero, setN_now, alen20, alen11, alen12, alen13, alen14, alen15, alen16, alen17, alen18, alen19, Nat.add_zero] at *); omega)
  have lkz := lk 0 (Nat.zero_le _)
  rw [fld_0] at lkz
  exact lkz
set_option maxHeartbeats 16000000 in
set_option maxRecDepth 100000 in
theorem v_slo (hX : walkV callM callL L Q X m_L_view) (hcM : okM callM L xs (f + 6)) (hw : WF F B) (hR : RepW s 0 F) (hn : n < 1000) (h : X 81 [oL, lL (vwb F n v), none, iL (nI (n + 1))] [] s) : X 124 [oL, lL v, none, iL (nI n), iL (nI 0)] [] s := by
  have lk : ∀ k, k ≤ 9 → X 124 [oL, lL (fld (fun k => slotA F (nI n) (nI (k / 3)) (nI (k % 3))) k v), none, iL (nI n), iL (nI k)] [] s := by
    refine loopD 9 (fun k hk ihk => ?_) ?_
    · clear h
      rw [fld_s _ k] at ihk
      obtain ⟨d1, d2⟩ := div3 k hk
      rw [d2, d1] at ihk
      clear d1 d2
      refine hX 1000 124 _ _ _ ?_
      repeat' (first | (intro hc) | (refine And.intro ?_ ?_) | (exact absurd nI_0 ‹cmpF 0 (nI 0) 0›) | (exact absurd ‹cmpT 0 (nI 1) 0› nI1_ne) | (exact absurd nI_0 ‹cmpT 1 (nI 0) 0›) | (exact absurd ‹cmpF 1 (nI 1) 0› nI1_ne) | (show wpl _ _ _ _ _ _ _ _ _ _ _ _; conv => whnf) | (simp (disch := omega) only [nI_add, nI_mul, nI_cl, Nat.add_zero]) | (refine hcM _ _ _ _ ?_; first | (refine c_slot hw hR ?_) | fail))
      all_goals first
        | (simp only [takeG, setG, nI_add]; exact ihk)
        | exact nI3_ne (by assumption)
        | (clear ihk hcM; (try clear hX hcall); (try clear h); (try simp (disch := omega) only [cmpT, cmpF, bI_eq0, bI_ne0, Classical.not_not, nI_toI, nI_cl, nI_inj, nI_add, nI_mul, nI_subI, takeL, setL, Int32.toInt_zero, Nat.add_zero, setN_now, alen20, alen11, alen12, alen13, alen14, alen15, alen16, alen17, alen18, alen19, Nat.add_zero] at *); omega)
    · refine hX 1000 124 _ _ _ ?_
      repeat' (first | (intro hc) | (refine And.intro ?_ ?_) | (exact absurd nI_0 ‹cmpF 0 (nI 0) 0›) | (exact absurd ‹cmpT 0 (nI 1) 0› nI1_ne) | (exact absurd nI_0 ‹cmpT 1 (nI 0) 0›) | (exact absurd ‹cmpF 1 (nI 1) 0› nI1_ne) | (show wpl _ _ _ _ _ _ _ _ _ _ _ _; conv => whnf) | (simp (disch := omega) only [nI_add, nI_mul, nI_cl, Nat.add_zero]))
      all_goals first
        | (simp only [takeG, setG, nI_add]; exact h)
        | (clear h hcM; (try clear hX hcall); (try clear h); (try simp (disch := omega) only [cmpT, cmpF, bI_eq0, bI_ne0, Classical.not_not, nI_toI, nI_cl, nI_inj, nI_add, nI_mul, nI_subI, takeL, setL, Int32.toInt_zero, Nat.add_zero, setN_now, alen20, alen11, alen12, alen13, alen14, alen15, alen16, alen17, alen18, alen19, Nat.add_zero] at *); omega)
  have lkz := lk 0 (Nat.zero_le _)
  rw [fld_0] at lkz
  exact lkz
set_option maxHeartbeats 16000000 in
set_option maxRecDepth 100000 in
theorem v_sit (hX : walkV callM callL L Q X m_L_view) (hcM : okM callM L xs (f + 6)) (hw : WF F B) (hR : RepW s 0 F) (hn : n < 1000) (h : X 124 [oL, lL (vwa F n v), none, iL (nI n), iL (nI 0)] [] s) : X 93 [oL, lL v, none, iL (nI n), iL (nI 0)] [] s := by
  have lk : ∀ k, k ≤ 8 → X 93 [oL, lL (fld (fun k => siteA F (nI n) (nI k)) k v), none, iL (nI n), iL (nI k)] [] s := by
    refine loopD 8 (fun k hk ihk => ?_) ?_
    · clear h
      rw [fld_s _ k] at ihk
      refine hX 1000 93 _ _ _ ?_
      repeat' (first | (intro hc) | (refine And.intro ?_ ?_) | (exact absurd nI_0 ‹cmpF 0 (nI 0) 0›) | (exact absurd ‹cmpT 0 (nI 1) 0› nI1_ne) | (exact absurd nI_0 ‹cmpT 1 (nI 0) 0›) | (exact absurd ‹cmpF 1 (nI 1) 0› nI1_ne) | (show wpl _ _ _ _ _ _ _ _ _ _ _ _; conv => whnf) | (simp (disch := omega) only [nI_add, nI_mul, nI_cl, Nat.add_zero]) | (refine hcM _ _ _ _ ?_; first | (refine c_site hw hR ?_) | fail))
      all_goals first
        | (simp only [takeG, setG, nI_add]; exact ihk)
        | (clear ihk hcM; (try clear hX hcall); (try clear h); (try simp (disch := omega) only [cmpT, cmpF, bI_eq0, bI_ne0, Classical.not_not, nI_toI, nI_cl, nI_inj, nI_add, nI_mul, nI_subI, takeL, setL, Int32.toInt_zero, Nat.add_zero, setN_now, alen20, alen11, alen12, alen13, alen14, alen15, alen16, alen17, alen18, alen19, Nat.add_zero] at *); omega)
    · refine hX 1000 93 _ _ _ ?_
      repeat' (first | (intro hc) | (refine And.intro ?_ ?_) | (exact absurd nI_0 ‹cmpF 0 (nI 0) 0›) | (exact absurd ‹cmpT 0 (nI 1) 0› nI1_ne) | (exact absurd nI_0 ‹cmpT 1 (nI 0) 0›) | (exact absurd ‹cmpF 1 (nI 1) 0› nI1_ne) | (show wpl _ _ _ _ _ _ _ _ _ _ _ _; conv => whnf) | (simp (disch := omega) only [nI_add, nI_mul, nI_cl, Nat.add_zero]))
      all_goals first
        | (simp only [takeG, setG, nI_add]; exact h)
        | (clear h hcM; (try clear hX hcall); (try clear h); (try simp (disch := omega) only [cmpT, cmpF, bI_eq0, bI_ne0, Classical.not_not, nI_toI, nI_cl, nI_inj, nI_add, nI_mul, nI_subI, takeL, setL, Int32.toInt_zero, Nat.add_zero, setN_now, alen20, alen11, alen12, alen13, alen14, alen15, alen16, alen17, alen18, alen19, Nat.add_zero] at *); omega)
  have lkz := lk 0 (Nat.zero_le _)
  rw [fld_0] at lkz
  exact lkz
set_option maxHeartbeats 16000000 in
set_option maxRecDepth 100000 in
theorem v_rou (hX : walkV callM callL L Q X m_L_view) (hcM : okM callM L xs (f + 6)) (hw : WF F B) (hR : RepW s 0 F) (hr : r < 1000) (h : X 209 [oL, lL (vwc F r v), none, iL (nI r), iL (nI 0)] [] s) : X 178 [oL, lL v, none, iL (nI r), iL (nI 0)] [] s := by
  have lk : ∀ k, k ≤ 6 → X 178 [oL, lL (fld (fun k => routA F (nI r) (nI k)) k v), none, iL (nI r), iL (nI k)] [] s := by
    refine loopD 6 (fun k hk ihk => ?_) ?_
    · clear h
      rw [fld_s _ k] at ihk
      refine hX 1000 178 _ _ _ ?_
      repeat' (first | (intro hc) | (refine And.intro ?_ ?_) | (exact absurd nI_0 ‹cmpF 0 (nI 0) 0›) | (exact absurd ‹cmpT 0 (nI 1) 0› nI1_ne) | (exact absurd nI_0 ‹cmpT 1 (nI 0) 0›) | (exact absurd ‹cmpF 1 (nI 1) 0› nI1_ne) | (show wpl _ _ _ _ _ _ _ _ _ _ _ _; conv => whnf) | (simp (disch := omega) only [nI_add, nI_mul, nI_cl, Nat.add_zero]) | (refine hcM _ _ _ _ ?_; first | (refine c_router hw hR ?_) | fail))
      all_goals first
        | (simp only [takeG, setG, nI_add]; exact ihk)
        | (clear ihk hcM; (try clear hX hcall); (try clear h); (try simp (disch := omega) only [cmpT, cmpF, bI_eq0, bI_ne0, Classical.not_not, nI_toI, nI_cl, nI_inj, nI_add, nI_mul, nI_subI, takeL, setL, Int32.toInt_zero, Nat.add_zero, setN_now, alen20, alen11, alen12, alen13, alen14, alen15, alen16, alen17, alen18, alen19, Nat.add_zero] at *); omega)
    · refine hX 1000 178 _ _ _ ?_
      repeat' (first | (intro hc) | (refine And.intro ?_ ?_) | (exact absurd nI_0 ‹cmpF 0 (nI 0) 0›) | (exact absurd ‹cmpT 0 (nI 1) 0› nI1_ne) | (exact absurd nI_0 ‹cmpT 1 (nI 0) 0›) | (exact absurd ‹cmpF 1 (nI 1) 0› nI1_ne) | (show wpl _ _ _ _ _ _ _ _ _ _ _ _; conv => whnf) | (simp (disch := omega) only [nI_add, nI_mul, nI_cl, Nat.add_zero]))
      all_goals first
        | (simp only [takeG, setG, nI_add]; exact h)
        | (clear h hcM; (try clear hX hcall); (try clear h); (try simp (disch := omega) only [cmpT, cmpF, bI_eq0, bI_ne0, Classical.not_not, nI_toI, nI_cl, nI_inj, nI_add, nI_mul, nI_subI, takeL, setL, Int32.toInt_zero, Nat.add_zero, setN_now, alen20, alen11, alen12, alen13, alen14, alen15, alen16, alen17, alen18, alen19, Nat.add_zero] at *); omega)
  have lkz := lk 0 (Nat.zero_le _)
  rw [fld_0] at lkz
  exact lkz
set_option maxHeartbeats 16000000 in
set_option maxRecDepth 100000 in
theorem v_map (hX : walkV callM callL L Q X m_L_view) (hcM : okM callM L xs (f + 6)) (hw : WF F B) (hR : RepW s 0 F) (hr : r < 1000) (hm : m < 1000) (h : X 209 [oL, lL (vwd F r m v), none, iL (nI r), iL (nI (m + 1))] [] s) : X 223 [oL, lL v, none, iL (nI r), iL (nI m), iL (nI 0)] [] s := by
  have lk : ∀ k, k ≤ 5 → X 223 [oL, lL (fld (fun k => mapA F (nI r) (nI m) (nI k)) k v), none, iL (nI r), iL (nI m), iL (nI k)] [] s := by
    refine loopD 5 (fun k hk ihk => ?_) ?_
    · clear h
      rw [fld_s _ k] at ihk
      refine hX 1000 223 _ _ _ ?_
      repeat' (first | (intro hc) | (refine And.intro ?_ ?_) | (exact absurd nI_0 ‹cmpF 0 (nI 0) 0›) | (exact absurd ‹cmpT 0 (nI 1) 0› nI1_ne) | (exact absurd nI_0 ‹cmpT 1 (nI 0) 0›) | (exact absurd ‹cmpF 1 (nI 1) 0› nI1_ne) | (show wpl _ _ _ _ _ _ _ _ _ _ _ _; conv => whnf) | (simp (disch := omega) only [nI_add, nI_mul, nI_cl, Nat.add_zero]) | (refine hcM _ _ _ _ ?_; first | (refine c_map hw hR ?_) | fail))
      all_goals first
        | (simp only [takeG, setG, nI_add]; exact ihk)
        | (clear ihk hcM; (try clear hX hcall); (try clear h); (try simp (disch := omega) only [cmpT, cmpF, bI_eq0, bI_ne0, Classical.not_not, nI_toI, nI_cl, nI_inj, nI_add, nI_mul, nI_subI, takeL, setL, Int32.toInt_zero, Nat.add_zero, setN_now, alen20, alen11, alen12, alen13, alen14, alen15, alen16, alen17, alen18, alen19, Nat.add_zero] at *); omega)
    · refine hX 1000 223 _ _ _ ?_
      repeat' (first | (intro hc) | (refine And.intro ?_ ?_) | (exact absurd nI_0 ‹cmpF 0 (nI 0) 0›) | (exact absurd ‹cmpT 0 (nI 1) 0› nI1_ne) | (exact absurd nI_0 ‹cmpT 1 (nI 0) 0›) | (exact absurd ‹cmpF 1 (nI 1) 0› nI1_ne) | (show wpl _ _ _ _ _ _ _ _ _ _ _ _; conv => whnf) | (simp (disch := omega) only [nI_add, nI_mul, nI_cl, Nat.add_zero]))
      all_goals first
        | (simp only [takeG, setG, nI_add]; exact h)
        | (clear h hcM; (try clear hX hcall); (try clear h); (try simp (disch := omega) only [cmpT, cmpF, bI_eq0, bI_ne0, Classical.not_not, nI_toI, nI_cl, nI_inj, nI_add, nI_mul, nI_subI, takeL, setL, Int32.toInt_zero, Nat.add_zero, setN_now, alen20, alen11, alen12, alen13, alen14, alen15, alen16, alen17, alen18, alen19, Nat.add_zero] at *); omega)
  have lkz := lk 0 (Nat.zero_le _)
  rw [fld_0] at lkz
  exact lkz
set_option maxHeartbeats 16000000 in
set_option maxRecDepth 100000 in
theorem v_mps (hX : walkV callM callL L Q X m_L_view) (hcM : okM callM L xs (f + 6)) (hw : WF F B) (hR : RepW s 0 F) (hr : r < cR F) (h : X 166 [oL, lL (fldN (vwd F r) (cM F r) v), none, iL (nI (r + 1))] [] s) : X 209 [oL, lL v, none, iL (nI r), iL (nI 0)] [] s := by
  have h4 := hw.r2
  have h5 := (hw.router hr).2.1
  have lk : ∀ m, m ≤ cM F r → X 209 [oL, lL (fldN (vwd F r) m v), none, iL (nI r), iL (nI m)] [] s := by
    refine loopD (cM F r) (fun m hm ihm => ?_) ?_
    · clear h
      rw [fldN_s _ m] at ihm
      have g := v_map hX hcM hw hR (by omega) (by omega) ihm
      refine hX 1000 209 _ _ _ ?_
      repeat' (first | (intro hc) | (refine And.intro ?_ ?_) | (exact absurd nI_0 ‹cmpF 0 (nI 0) 0›) | (exact absurd ‹cmpT 0 (nI 1) 0› nI1_ne) | (exact absurd nI_0 ‹cmpT 1 (nI 0) 0›) | (exact absurd ‹cmpF 1 (nI 1) 0› nI1_ne) | (show wpl _ _ _ _ _ _ _ _ _ _ _ _; conv => whnf) | (simp (disch := omega) only [nI_add, nI_mul, nI_cl, Nat.add_zero]) | (refine hcM _ _ _ _ ?_; first | (refine g_rou0 hw hR hr ?_) | fail))
      all_goals first
        | (simp only [takeG, setG, nI_add]; exact g)
        | (clear g ihm hcM; (try clear hX hcall); (try clear h); (try simp (disch := omega) only [cmpT, cmpF, bI_eq0, bI_ne0, Classical.not_not, nI_toI, nI_cl, nI_inj, nI_add, nI_mul, nI_subI, takeL, setL, Int32.toInt_zero, Nat.add_zero, setN_now, alen20, alen11, alen12, alen13, alen14, alen15, alen16, alen17, alen18, alen19, Nat.add_zero] at *); omega)
    · refine hX 1000 209 _ _ _ ?_
      repeat' (first | (intro hc) | (refine And.intro ?_ ?_) | (exact absurd nI_0 ‹cmpF 0 (nI 0) 0›) | (exact absurd ‹cmpT 0 (nI 1) 0› nI1_ne) | (exact absurd nI_0 ‹cmpT 1 (nI 0) 0›) | (exact absurd ‹cmpF 1 (nI 1) 0› nI1_ne) | (show wpl _ _ _ _ _ _ _ _ _ _ _ _; conv => whnf) | (simp (disch := omega) only [nI_add, nI_mul, nI_cl, Nat.add_zero]) | (refine hcM _ _ _ _ ?_; first | (refine g_rou0 hw hR hr ?_) | fail))
      all_goals first
        | (simp only [takeG, setG, nI_add]; exact h)
        | (clear h hcM; (try clear hX hcall); (try clear h); (try simp (disch := omega) only [cmpT, cmpF, bI_eq0, bI_ne0, Classical.not_not, nI_toI, nI_cl, nI_inj, nI_add, nI_mul, nI_subI, takeL, setL, Int32.toInt_zero, Nat.add_zero, setN_now, alen20, alen11, alen12, alen13, alen14, alen15, alen16, alen17, alen18, alen19, Nat.add_zero] at *); omega)
  have lkz := lk 0 (Nat.zero_le _)
  rw [fldN_0] at lkz
  exact lkz
set_option maxHeartbeats 16000000 in
set_option maxRecDepth 100000 in
theorem v_rous (hX : walkV callM callL L Q X m_L_view) (hcM : okM callM L xs (f + 6)) (hw : WF F B) (hR : RepW s 0 F) (hret : retT m_L_view = 3) (h : Q (some (.inr (fldN (vw4 F) (cR F) v))) s) : X 166 [oL, lL v, none, iL (nI 0)] [] s := by
  have h4 := hw.r2
  have h8 := hw.t2
  have hs8 := hw.s2
  have lk : ∀ n, n ≤ cR F → X 166 [oL, lL (fldN (vw4 F) n v), none, iL (nI n)] [] s := by
    refine loopD _ (fun n hn ih => ?_) ?_
    · clear h
      rw [fldN_s _ n] at ih
      have g := v_rou hX hcM hw hR (by omega) (v_mps hX hcM hw hR hn ih)
      refine hX 1000 166 _ _ _ ?_
      repeat' (first | (intro hc) | (refine And.intro ?_ ?_) | (exact absurd nI_0 ‹cmpF 0 (nI 0) 0›) | (exact absurd ‹cmpT 0 (nI 1) 0› nI1_ne) | (exact absurd nI_0 ‹cmpT 1 (nI 0) 0›) | (exact absurd ‹cmpF 1 (nI 1) 0› nI1_ne) | (show wpl _ _ _ _ _ _ _ _ _ _ _ _; conv => whnf) | (simp (disch := omega) only [nI_add, nI_mul, nI_cl, Nat.add_zero]) | (refine hcM _ _ _ _ ?_; first | (refine g_tot3 hw hR ?_) | fail))
      all_goals first
        | (simp only [takeG, setG, nI_add]; exact g)
        | (clear g ih hcM; (try clear hX hcall); (try clear h); (try simp (disch := omega) only [cmpT, cmpF, bI_eq0, bI_ne0, Classical.not_not, nI_toI, nI_cl, nI_inj, nI_add, nI_mul, nI_subI, takeL, setL, Int32.toInt_zero, Nat.add_zero, setN_now, alen20, alen11, alen12, alen13, alen14, alen15, alen16, alen17, alen18, alen19, Nat.add_zero] at *); omega)
    · refine hX 1000 166 _ _ _ ?_
      repeat' (first | (intro hc) | (refine And.intro ?_ ?_) | (exact absurd nI_0 ‹cmpF 0 (nI 0) 0›) | (exact absurd ‹cmpT 0 (nI 1) 0› nI1_ne) | (exact absurd nI_0 ‹cmpT 1 (nI 0) 0›) | (exact absurd ‹cmpF 1 (nI 1) 0› nI1_ne) | (show wpl _ _ _ _ _ _ _ _ _ _ _ _; conv => whnf) | (simp (disch := omega) only [nI_add, nI_mul, nI_cl, Nat.add_zero]) | (refine hcM _ _ _ _ ?_; first | (refine g_tot3 hw hR ?_) | fail))
      all_goals first
        | ( exact h)
        | (clear h hcM; (try clear hX hcall); (try clear h); (try simp (disch := omega) only [cmpT, cmpF, bI_eq0, bI_ne0, Classical.not_not, nI_toI, nI_cl, nI_inj, nI_add, nI_mul, nI_subI, takeL, setL, Int32.toInt_zero, Nat.add_zero, setN_now, alen20, alen11, alen12, alen13, alen14, alen15, alen16, alen17, alen18, alen19, Nat.add_zero] at *); omega)
  have lkz := lk 0 (Nat.zero_le _)
  rw [fldN_0] at lkz
  exact lkz
set_option maxHeartbeats 16000000 in
set_option maxRecDepth 100000 in
theorem v_sits (hX : walkV callM callL L Q X m_L_view) (hcM : okM callM L xs (f + 6)) (hw : WF F B) (hR : RepW s 0 F) (h : X 166 [oL, lL (fldN (fun n v => vwb F n (vwa F n v)) (cT F) v), none, iL (nI 0)] [] s) : X 81 [oL, lL v, none, iL (nI 0)] [] s := by
  have h4 := hw.r2
  have h8 := hw.t2
  have hs8 := hw.s2
  have lk : ∀ n, n ≤ cT F → X 81 [oL, lL (fldN (fun n v => vwb F n (vwa F n v)) n v), none, iL (nI n)] [] s := by
    refine loopD _ (fun n hn ih => ?_) ?_
    · clear h
      rw [fldN_s _ n] at ih
      have g := v_sit hX hcM hw hR (by omega) (v_slo hX hcM hw hR (by omega) ih)
      refine hX 1000 81 _ _ _ ?_
      repeat' (first | (intro hc) | (refine And.intro ?_ ?_) | (exact absurd nI_0 ‹cmpF 0 (nI 0) 0›) | (exact absurd ‹cmpT 0 (nI 1) 0› nI1_ne) | (exact absurd nI_0 ‹cmpT 1 (nI 0) 0›) | (exact absurd ‹cmpF 1 (nI 1) 0› nI1_ne) | (show wpl _ _ _ _ _ _ _ _ _ _ _ _; conv => whnf) | (simp (disch := omega) only [nI_add, nI_mul, nI_cl, Nat.add_zero]) | (refine hcM _ _ _ _ ?_; first | (refine g_tot2 hw hR ?_) | fail))
      all_goals first
        | (simp only [takeG, setG, nI_add]; exact g)
        | (clear g ih hcM; (try clear hX hcall); (try clear h); (try simp (disch := omega) only [cmpT, cmpF, bI_eq0, bI_ne0, Classical.not_not, nI_toI, nI_cl, nI_inj, nI_add, nI_mul, nI_subI, takeL, setL, Int32.toInt_zero, Nat.add_zero, setN_now, alen20, alen11, alen12, alen13, alen14, alen15, alen16, alen17, alen18, alen19, Nat.add_zero] at *); omega)
    · refine hX 1000 81 _ _ _ ?_
      repeat' (first | (intro hc) | (refine And.intro ?_ ?_) | (exact absurd nI_0 ‹cmpF 0 (nI 0) 0›) | (exact absurd ‹cmpT 0 (nI 1) 0› nI1_ne) | (exact absurd nI_0 ‹cmpT 1 (nI 0) 0›) | (exact absurd ‹cmpF 1 (nI 1) 0› nI1_ne) | (show wpl _ _ _ _ _ _ _ _ _ _ _ _; conv => whnf) | (simp (disch := omega) only [nI_add, nI_mul, nI_cl, Nat.add_zero]) | (refine hcM _ _ _ _ ?_; first | (refine g_tot2 hw hR ?_) | fail))
      all_goals first
        | (simp only [takeG, setG, nI_add]; exact h)
        | (clear h hcM; (try clear hX hcall); (try clear h); (try simp (disch := omega) only [cmpT, cmpF, bI_eq0, bI_ne0, Classical.not_not, nI_toI, nI_cl, nI_inj, nI_add, nI_mul, nI_subI, takeL, setL, Int32.toInt_zero, Nat.add_zero, setN_now, alen20, alen11, alen12, alen13, alen14, alen15, alen16, alen17, alen18, alen19, Nat.add_zero] at *); omega)
  have lkz := lk 0 (Nat.zero_le _)
  rw [fldN_0] at lkz
  exact lkz
set_option maxHeartbeats 16000000 in
set_option maxRecDepth 100000 in
theorem v_srvs (hX : walkV callM callL L Q X m_L_view) (hcM : okM callM L xs (f + 6)) (hw : WF F B) (hR : RepW s 0 F) (h : X 81 [oL, lL (fldN (vw2 F) (cS F) v), none, iL (nI 0)] [] s) : X 33 [oL, lL v, none, iL (nI 0)] [] s := by
  have h4 := hw.r2
  have h8 := hw.t2
  have hs8 := hw.s2
  have lk : ∀ n, n ≤ cS F → X 33 [oL, lL (fldN (vw2 F) n v), none, iL (nI n)] [] s := by
    refine loopD _ (fun n hn ih => ?_) ?_
    · clear h
      rw [fldN_s _ n] at ih
      have g := v_srv hX hcM hw hR (by omega) ih
      refine hX 1000 33 _ _ _ ?_
      repeat' (first | (intro hc) | (refine And.intro ?_ ?_) | (exact absurd nI_0 ‹cmpF 0 (nI 0) 0›) | (exact absurd ‹cmpT 0 (nI 1) 0› nI1_ne) | (exact absurd nI_0 ‹cmpT 1 (nI 0) 0›) | (exact absurd ‹cmpF 1 (nI 1) 0› nI1_ne) | (show wpl _ _ _ _ _ _ _ _ _ _ _ _; conv => whnf) | (simp (disch := omega) only [nI_add, nI_mul, nI_cl, Nat.add_zero]) | (refine hcM _ _ _ _ ?_; first | (refine g_tot1 hw hR ?_) | fail))
      all_goals first
        | (simp only [takeG, setG, nI_add]; exact g)
        | (clear g ih hcM; (try clear hX hcall); (try clear h); (try simp (disch := omega) only [cmpT, cmpF, bI_eq0, bI_ne0, Classical.not_not, nI_toI, nI_cl, nI_inj, nI_add, nI_mul, nI_subI, takeL, setL, Int32.toInt_zero, Nat.add_zero, setN_now, alen20, alen11, alen12, alen13, alen14, alen15, alen16, alen17, alen18, alen19, Nat.add_zero] at *); omega)
    · refine hX 1000 33 _ _ _ ?_
      repeat' (first | (intro hc) | (refine And.intro ?_ ?_) | (exact absurd nI_0 ‹cmpF 0 (nI 0) 0›) | (exact absurd ‹cmpT 0 (nI 1) 0› nI1_ne) | (exact absurd nI_0 ‹cmpT 1 (nI 0) 0›) | (exact absurd ‹cmpF 1 (nI 1) 0› nI1_ne) | (show wpl _ _ _ _ _ _ _ _ _ _ _ _; conv => whnf) | (simp (disch := omega) only [nI_add, nI_mul, nI_cl, Nat.add_zero]) | (refine hcM _ _ _ _ ?_; first | (refine g_tot1 hw hR ?_) | fail))
      all_goals first
        | (simp only [takeG, setG, nI_add]; exact h)
        | (clear h hcM; (try clear hX hcall); (try clear h); (try simp (disch := omega) only [cmpT, cmpF, bI_eq0, bI_ne0, Classical.not_not, nI_toI, nI_cl, nI_inj, nI_add, nI_mul, nI_subI, takeL, setL, Int32.toInt_zero, Nat.add_zero, setN_now, alen20, alen11, alen12, alen13, alen14, alen15, alen16, alen17, alen18, alen19, Nat.add_zero] at *); omega)
  have lkz := lk 0 (Nat.zero_le _)
  rw [fldN_0] at lkz
  exact lkz
set_option maxHeartbeats 16000000 in
set_option maxRecDepth 100000 in
theorem w_view (hw : WF F B) (hR : RepW s 0 F) (h : Q (some (.inr (viewF F))) s) : wpL L xs codT colT retT (f + 7) m_L_view [.inl (.inr (9, 0))] s Q := by
  intro callM callL hcM hcL X hX; refine hX 1000 0 _ _ _ ?_
  repeat' (first | (intro hc) | (refine And.intro ?_ ?_) | (exact absurd nI_0 ‹cmpF 0 (nI 0) 0›) | (exact absurd ‹cmpT 0 (nI 1) 0› nI1_ne) | (exact absurd nI_0 ‹cmpT 1 (nI 0) 0›) | (exact absurd ‹cmpF 1 (nI 1) 0› nI1_ne) | (show wpl _ _ _ _ _ _ _ _ _ _ _ _; conv => whnf) | (simp (disch := omega) only [nI_add, nI_mul, nI_cl, Nat.add_zero]))
  exact v_tot hX hcM hw hR (v_srvs hX hcM hw hR (v_sits hX hcM hw hR (v_rous hX hcM hw hR rfl h)))
end VIEW

theorem i_vc : Claimed_1_1 ∧ Claimed_1_2 := sorry
