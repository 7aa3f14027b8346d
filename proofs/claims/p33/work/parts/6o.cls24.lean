/-! THE CLASS: calls that are recorded -/
def nxF (F : Fm) (o : Int32 × Fm) : Fm := if o.1.toInt < 0 then F else o.2
def nxG (G F : Fm) (n : Nat) (o : Int32 × Fm) : Fm := if o.1.toInt < 0 then G else recG G F n
def nxN (n : Nat) (o : Int32 × Fm) : Nat := if o.1.toInt < 0 then n else recN n
section CLS24
variable {L : Nat} {xs : Nat → Int32} {f i i2 k r p q c j n B B' b w w' w2 m sd : Nat} {x y v z a l lo v0 v1 name flow place which : Int32} {s s' s2 s3 t : St} {F F0 F1 G C F' U u : Fm} {Q : Option MV → St → Prop} {P : Nat → Nat} {o : Int32 × Fm}
theorem CL_mono (h : CL s F G n B) (hB : B ≤ B') : CL s F G n B' := by
  obtain ⟨hp, ⟨hR, hW⟩, ⟨o, ho6, hn, ho, hct, hh⟩, hs⟩ := h
  exact ⟨hp, ⟨hR, WFh_mono hB hW⟩, ⟨o, ho6, hn, ho, hct, fun i hi => ⟨(hh i hi).1, WFh_mono hB (hh i hi).2⟩⟩, fun j hj => ⟨(hs j hj).1, fun q => ⟨((hs j hj).2 q).1, WFh_mono hB ((hs j hj).2 q).2⟩⟩⟩
set_option maxHeartbeats 4000000 in
set_option maxRecDepth 100000 in
theorem c_recOp (hD : DR s F o.2 G n B) (hn : o.1.toInt < 0 → o.2 = F) (h : ∀ s', Fr s s' → CL s' (nxF F o) (nxG G F n o) (nxN n o) B → Q (some (.inl o.1)) s') : wpM L xs codT retT (f + 4) m_X9_recorded [.inr (9, 0), .inl o.1] s Q := by
  refine c_recorded hD (fun hv => ?_) (fun hv s3 f3 c3 => ?_)
  · refine h s Fr.refl ?_
    unfold nxF nxG nxN
    rw [if_pos hv, if_pos hv, if_pos hv]
    have c := hD.cl
    rw [hn hv] at c
    exact c
  · refine h s3 f3 ?_
    unfold nxF nxG nxN
    rw [if_neg (by omega), if_neg (by omega), if_neg (by omega)]
    exact c3
set_option maxHeartbeats 4000000 in
set_option maxRecDepth 100000 in
theorem x_addServer (hC : CL s F G n B) (hB : 1 ≤ B) (hB2 : B < 1000000) (h : ∀ s', Fr s s' → CL s' (nxF F (serverF F v a z)) (nxG G F n (serverF F v a z)) (nxN n (serverF F v a z)) (B + 1) → Q (some (.inl (serverF F v a z).1)) s') : wpM L xs codT retT (f + 6) m_X9_addServer [.inr (9, 0), .inl v, .inl a, .inl z] s Q := by
  have w := hC.2.1.2
  intro call hcall X hX; refine hX 1000 0 _ _ _ ?_
  repeat' (first | (intro hc) | (refine And.intro ?_ ?_) | (exact absurd nI_0 ‹cmpF 0 (nI 0) 0›) | (exact absurd ‹cmpT 0 (nI 1) 0› nI1_ne) | (exact absurd nI_0 ‹cmpT 1 (nI 0) 0›) | (exact absurd ‹cmpF 1 (nI 1) 0› nI1_ne) | (show wp _ _ _ _ _ _ _ _ _ _ _ _; conv => whnf) | (simp (disch := omega) only [nI_add, nI_mul, setN_now, setN_put, nI_cl, Nat.add_zero]) | (refine hcall _ _ _ _ ?_; first | (refine c_draft hC (fun s1 f1 d1 => ?_)) | (refine c_newServer d1.2.1.2.1 d1.1 (by omega) d1.2.1.1 (fun s2 u2 R2 => ?_)) | (refine c_recOp (o := serverF F v a z) (d1.upd (B' := B + 1) u2 R2 (WFh_mono (by omega) (server_ok w)) (by omega)) (fun q => server_neg w q) (fun s3 f3 c3 => ?_)) | fail))
  all_goals exact h _ (f1.trans ((u2.fr (by omega)).trans f3)) c3
set_option maxHeartbeats 4000000 in
set_option maxRecDepth 100000 in
theorem x_addSite (hC : CL s F G n B) (hB : 1 ≤ B) (hB2 : B < 1000000) (h : ∀ s', Fr s s' → CL s' (nxF F (siteF F a z l)) (nxG G F n (siteF F a z l)) (nxN n (siteF F a z l)) (B + 1) → Q (some (.inl (siteF F a z l).1)) s') : wpM L xs codT retT (f + 6) m_X9_addSite [.inr (9, 0), .inl a, .inl z, .inl l] s Q := by
  have w := hC.2.1.2
  intro call hcall X hX; refine hX 1000 0 _ _ _ ?_
  repeat' (first | (intro hc) | (refine And.intro ?_ ?_) | (exact absurd nI_0 ‹cmpF 0 (nI 0) 0›) | (exact absurd ‹cmpT 0 (nI 1) 0› nI1_ne) | (exact absurd nI_0 ‹cmpT 1 (nI 0) 0›) | (exact absurd ‹cmpF 1 (nI 1) 0› nI1_ne) | (show wp _ _ _ _ _ _ _ _ _ _ _ _; conv => whnf) | (simp (disch := omega) only [nI_add, nI_mul, setN_now, setN_put, nI_cl, Nat.add_zero]) | (refine hcall _ _ _ _ ?_; first | (refine c_draft hC (fun s1 f1 d1 => ?_)) | (refine c_newSite d1.2.1.2.1 d1.1 (by omega) d1.2.1.1 (fun s2 u2 R2 => ?_)) | (refine c_recOp (o := siteF F a z l) (d1.upd (B' := B + 1) u2 R2 (WFh_mono (by omega) (site_ok w hB)) (by omega)) (fun q => site_neg w q) (fun s3 f3 c3 => ?_)) | fail))
  all_goals exact h _ (f1.trans ((u2.fr (by omega)).trans f3)) c3
set_option maxHeartbeats 4000000 in
set_option maxRecDepth 100000 in
theorem x_addRouter (hC : CL s F G n B) (hB : 1 ≤ B) (hB2 : B < 1000000) (h : ∀ s', Fr s s' → CL s' (nxF F (routerF F)) (nxG G F n (routerF F)) (nxN n (routerF F)) (B + 1) → Q (some (.inl (routerF F).1)) s') : wpM L xs codT retT (f + 6) m_X9_addRouter [.inr (9, 0)] s Q := by
  have w := hC.2.1.2
  intro call hcall X hX; refine hX 1000 0 _ _ _ ?_
  repeat' (first | (intro hc) | (refine And.intro ?_ ?_) | (exact absurd nI_0 ‹cmpF 0 (nI 0) 0›) | (exact absurd ‹cmpT 0 (nI 1) 0› nI1_ne) | (exact absurd nI_0 ‹cmpT 1 (nI 0) 0›) | (exact absurd ‹cmpF 1 (nI 1) 0› nI1_ne) | (show wp _ _ _ _ _ _ _ _ _ _ _ _; conv => whnf) | (simp (disch := omega) only [nI_add, nI_mul, setN_now, setN_put, nI_cl, Nat.add_zero]) | (refine hcall _ _ _ _ ?_; first | (refine c_draft hC (fun s1 f1 d1 => ?_)) | (refine c_newRouter d1.2.1.2.1 d1.1 (by omega) d1.2.1.1 (fun s2 u2 R2 => ?_)) | (refine c_recOp (o := routerF F) (d1.upd (B' := B + 1) u2 R2 (WFh_mono (by omega) (router_ok w)) (by omega)) (fun q => router_neg w q) (fun s3 f3 c3 => ?_)) | fail))
  all_goals exact h _ (f1.trans ((u2.fr (by omega)).trans f3)) c3
set_option maxHeartbeats 4000000 in
set_option maxRecDepth 100000 in
theorem x_setSlot (hC : CL s F G n B) (hB : 1 ≤ B) (hB2 : B < 1000000) (h : ∀ s', Fr s s' → CL s' (nxF F (fillSF F v a z x y)) (nxG G F n (fillSF F v a z x y)) (nxN n (fillSF F v a z x y)) (B + 1) → Q (some (.inl (fillSF F v a z x y).1)) s') : wpM L xs codT retT (f + 6) m_X9_setSlot [.inr (9, 0), .inl v, .inl a, .inl z, .inl x, .inl y] s Q := by
  have w := hC.2.1.2
  intro call hcall X hX; refine hX 1000 0 _ _ _ ?_
  repeat' (first | (intro hc) | (refine And.intro ?_ ?_) | (exact absurd nI_0 ‹cmpF 0 (nI 0) 0›) | (exact absurd ‹cmpT 0 (nI 1) 0› nI1_ne) | (exact absurd nI_0 ‹cmpT 1 (nI 0) 0›) | (exact absurd ‹cmpF 1 (nI 1) 0› nI1_ne) | (show wp _ _ _ _ _ _ _ _ _ _ _ _; conv => whnf) | (simp (disch := omega) only [nI_add, nI_mul, setN_now, setN_put, nI_cl, Nat.add_zero]) | (refine hcall _ _ _ _ ?_; first | (refine c_draft hC (fun s1 f1 d1 => ?_)) | (refine c_fillSlot d1.2.1.2.1 d1.1 (by omega) d1.2.1.1 (fun s2 u2 R2 => ?_)) | (refine c_recOp (o := fillSF F v a z x y) (d1.upd (B' := B + 1) u2 R2 (fill_ok w hB2) (by omega)) (fun q => fill_neg w hB2 q) (fun s3 f3 c3 => ?_)) | fail))
  all_goals exact h _ (f1.trans ((u2.fr (by omega)).trans f3)) c3
set_option maxHeartbeats 4000000 in
set_option maxRecDepth 100000 in
theorem x_emptySlot (hC : CL s F G n B) (hB : 1 ≤ B) (hB2 : B < 1000000) (h : ∀ s', Fr s s' → CL s' (nxF F (vacF F v a)) (nxG G F n (vacF F v a)) (nxN n (vacF F v a)) (B + 1) → Q (some (.inl (vacF F v a).1)) s') : wpM L xs codT retT (f + 6) m_X9_emptySlot [.inr (9, 0), .inl v, .inl a] s Q := by
  have w := hC.2.1.2
  intro call hcall X hX; refine hX 1000 0 _ _ _ ?_
  repeat' (first | (intro hc) | (refine And.intro ?_ ?_) | (exact absurd nI_0 ‹cmpF 0 (nI 0) 0›) | (exact absurd ‹cmpT 0 (nI 1) 0› nI1_ne) | (exact absurd nI_0 ‹cmpT 1 (nI 0) 0›) | (exact absurd ‹cmpF 1 (nI 1) 0› nI1_ne) | (show wp _ _ _ _ _ _ _ _ _ _ _ _; conv => whnf) | (simp (disch := omega) only [nI_add, nI_mul, setN_now, setN_put, nI_cl, Nat.add_zero]) | (refine hcall _ _ _ _ ?_; first | (refine c_draft hC (fun s1 f1 d1 => ?_)) | (refine c_vacateSlot d1.2.1.2.1 d1.1 (by omega) d1.2.1.1 (fun s2 u2 R2 => ?_)) | (refine c_recOp (o := vacF F v a) (d1.upd (B' := B + 1) u2 R2 (vac_ok w hB2) (by omega)) (fun q => vac_neg w hB2 q) (fun s3 f3 c3 => ?_)) | fail))
  all_goals exact h _ (f1.trans ((u2.fr (by omega)).trans f3)) c3
set_option maxHeartbeats 4000000 in
set_option maxRecDepth 100000 in
theorem x_register (hC : CL s F G n B) (hB : 1 ≤ B) (hB2 : B < 1000000) (h : ∀ s', Fr s s' → CL s' (nxF F (regF F v)) (nxG G F n (regF F v)) (nxN n (regF F v)) (B + 1) → Q (some (.inl (regF F v).1)) s') : wpM L xs codT retT (f + 6) m_X9_register [.inr (9, 0), .inl v] s Q := by
  have w := hC.2.1.2
  intro call hcall X hX; refine hX 1000 0 _ _ _ ?_
  repeat' (first | (intro hc) | (refine And.intro ?_ ?_) | (exact absurd nI_0 ‹cmpF 0 (nI 0) 0›) | (exact absurd ‹cmpT 0 (nI 1) 0› nI1_ne) | (exact absurd nI_0 ‹cmpT 1 (nI 0) 0›) | (exact absurd ‹cmpF 1 (nI 1) 0› nI1_ne) | (show wp _ _ _ _ _ _ _ _ _ _ _ _; conv => whnf) | (simp (disch := omega) only [nI_add, nI_mul, setN_now, setN_put, nI_cl, Nat.add_zero]) | (refine hcall _ _ _ _ ?_; first | (refine c_draft hC (fun s1 f1 d1 => ?_)) | (refine c_startReg d1.2.1.2 d1.1 (by omega) d1.2.1.1 (fun s2 u2 R2 => ?_)) | (refine c_recOp (o := regF F v) (d1.upd (B' := B + 1) u2 R2 (WFh_mono (by omega) (reg_ok w)) (by omega)) (fun q => reg_neg w q) (fun s3 f3 c3 => ?_)) | fail))
  all_goals exact h _ (f1.trans ((u2.fr (by omega)).trans f3)) c3
set_option maxHeartbeats 4000000 in
set_option maxRecDepth 100000 in
theorem x_unregister (hC : CL s F G n B) (hB : 1 ≤ B) (hB2 : B < 1000000) (h : ∀ s', Fr s s' → CL s' (nxF F (unregF F v)) (nxG G F n (unregF F v)) (nxN n (unregF F v)) (B + 1) → Q (some (.inl (unregF F v).1)) s') : wpM L xs codT retT (f + 6) m_X9_unregister [.inr (9, 0), .inl v] s Q := by
  have w := hC.2.1.2
  intro call hcall X hX; refine hX 1000 0 _ _ _ ?_
  repeat' (first | (intro hc) | (refine And.intro ?_ ?_) | (exact absurd nI_0 ‹cmpF 0 (nI 0) 0›) | (exact absurd ‹cmpT 0 (nI 1) 0› nI1_ne) | (exact absurd nI_0 ‹cmpT 1 (nI 0) 0›) | (exact absurd ‹cmpF 1 (nI 1) 0› nI1_ne) | (show wp _ _ _ _ _ _ _ _ _ _ _ _; conv => whnf) | (simp (disch := omega) only [nI_add, nI_mul, setN_now, setN_put, nI_cl, Nat.add_zero]) | (refine hcall _ _ _ _ ?_; first | (refine c_draft hC (fun s1 f1 d1 => ?_)) | (refine c_endReg d1.2.1.2 d1.1 (by omega) d1.2.1.1 (fun s2 u2 R2 => ?_)) | (refine c_recOp (o := unregF F v) (d1.upd (B' := B + 1) u2 R2 (WFh_mono (by omega) (unreg_ok w)) (by omega)) (fun q => unreg_neg w q) (fun s3 f3 c3 => ?_)) | fail))
  all_goals exact h _ (f1.trans ((u2.fr (by omega)).trans f3)) c3
set_option maxHeartbeats 4000000 in
set_option maxRecDepth 100000 in
theorem x_setMapLife (hC : CL s F G n B) (hB : 1 ≤ B) (hB2 : B < 1000000) (h : ∀ s', Fr s s' → CL s' (nxF F (lifeF F v)) (nxG G F n (lifeF F v)) (nxN n (lifeF F v)) (B + 1) → Q (some (.inl (lifeF F v).1)) s') : wpM L xs codT retT (f + 6) m_X9_setMapLife [.inr (9, 0), .inl v] s Q := by
  have w := hC.2.1.2
  intro call hcall X hX; refine hX 1000 0 _ _ _ ?_
  repeat' (first | (intro hc) | (refine And.intro ?_ ?_) | (exact absurd nI_0 ‹cmpF 0 (nI 0) 0›) | (exact absurd ‹cmpT 0 (nI 1) 0› nI1_ne) | (exact absurd nI_0 ‹cmpT 1 (nI 0) 0›) | (exact absurd ‹cmpF 1 (nI 1) 0› nI1_ne) | (show wp _ _ _ _ _ _ _ _ _ _ _ _; conv => whnf) | (simp (disch := omega) only [nI_add, nI_mul, setN_now, setN_put, nI_cl, Nat.add_zero]) | (refine hcall _ _ _ _ ?_; first | (refine c_draft hC (fun s1 f1 d1 => ?_)) | (refine c_mapLife d1.2.1.2.1 d1.1 (by omega) d1.2.1.1 (fun s2 u2 R2 => ?_)) | (refine c_recOp (o := lifeF F v) (d1.upd (B' := B + 1) u2 R2 (WFh_mono (by omega) (life_ok w)) (by omega)) (fun q => life_neg w q) (fun s3 f3 c3 => ?_)) | fail))
  all_goals exact h _ (f1.trans ((u2.fr (by omega)).trans f3)) c3
set_option maxHeartbeats 4000000 in
set_option maxRecDepth 100000 in
theorem x_send (hC : CL s F G n B) (hB : 1 ≤ B) (hB2 : B < 1000000) (h : ∀ s', Fr s s' → CL s' (nxF F (letterF F v name flow)) (nxG G F n (letterF F v name flow)) (nxN n (letterF F v name flow)) (B + 1) → Q (some (.inl (letterF F v name flow).1)) s') : wpM L xs codT retT (f + 6) m_X9_send [.inr (9, 0), .inl v, .inl name, .inl flow] s Q := by
  have w := hC.2.1.2
  intro call hcall X hX; refine hX 1000 0 _ _ _ ?_
  repeat' (first | (intro hc) | (refine And.intro ?_ ?_) | (exact absurd nI_0 ‹cmpF 0 (nI 0) 0›) | (exact absurd ‹cmpT 0 (nI 1) 0› nI1_ne) | (exact absurd nI_0 ‹cmpT 1 (nI 0) 0›) | (exact absurd ‹cmpF 1 (nI 1) 0› nI1_ne) | (show wp _ _ _ _ _ _ _ _ _ _ _ _; conv => whnf) | (simp (disch := omega) only [nI_add, nI_mul, setN_now, setN_put, nI_cl, Nat.add_zero]) | (refine hcall _ _ _ _ ?_; first | (refine c_draft hC (fun s1 f1 d1 => ?_)) | (refine c_sendLetter d1.2.1.2.1 (by omega) d1.1 d1.2.1.1 (fun s2 u2 R2 => ?_)) | (refine c_recOp (o := letterF F v name flow) (d1.upd (B' := B + 1) u2 R2 (WFh_mono (by omega) (letter_ok w)) (by omega)) (fun q => letter_neg w q) (fun s3 f3 c3 => ?_)) | fail))
  all_goals exact h _ (f1.trans ((u2.fr (by omega)).trans f3)) c3
set_option maxHeartbeats 4000000 in
set_option maxRecDepth 100000 in
theorem x_pass (hC : CL s F G n B) (hB : 1 ≤ B) (hB2 : B < 1000000) (h : ∀ s', Fr s s' → CL s' (nxF F (passF F v)) (nxG G F n (passF F v)) (nxN n (passF F v)) (B + 1) → Q (some (.inl (passF F v).1)) s') : wpM L xs codT retT (f + 6) m_X9_pass [.inr (9, 0), .inl v] s Q := by
  have w := hC.2.1.2
  intro call hcall X hX; refine hX 1000 0 _ _ _ ?_
  repeat' (first | (intro hc) | (refine And.intro ?_ ?_) | (exact absurd nI_0 ‹cmpF 0 (nI 0) 0›) | (exact absurd ‹cmpT 0 (nI 1) 0› nI1_ne) | (exact absurd nI_0 ‹cmpT 1 (nI 0) 0›) | (exact absurd ‹cmpF 1 (nI 1) 0› nI1_ne) | (show wp _ _ _ _ _ _ _ _ _ _ _ _; conv => whnf) | (simp (disch := omega) only [nI_add, nI_mul, setN_now, setN_put, nI_cl, Nat.add_zero]) | (refine hcall _ _ _ _ ?_; first | (refine c_draft hC (fun s1 f1 d1 => ?_)) | (refine c_letPass d1.2.1.2 d1.1 (by omega) d1.2.1.1 (fun s2 u2 R2 => ?_)) | (refine c_recOp (o := passF F v) (d1.upd (B' := B + 1) u2 R2 (WFh_mono (by omega) (pass_ok w)) (by omega)) (fun q => pass_neg w q) (fun s3 f3 c3 => ?_)) | fail))
  all_goals exact h _ (f1.trans ((u2.fr (by omega)).trans f3)) c3
set_option maxHeartbeats 4000000 in
set_option maxRecDepth 100000 in
theorem x_forget (hC : CL s F G n B) (hB : 1 ≤ B) (hB2 : B < 1000000) (h : ∀ s', Fr s s' → CL s' (nxF F (forgetF F v)) (nxG G F n (forgetF F v)) (nxN n (forgetF F v)) (B + 1) → Q (some (.inl (forgetF F v).1)) s') : wpM L xs codT retT (f + 6) m_X9_forget [.inr (9, 0), .inl v] s Q := by
  have w := hC.2.1.2
  intro call hcall X hX; refine hX 1000 0 _ _ _ ?_
  repeat' (first | (intro hc) | (refine And.intro ?_ ?_) | (exact absurd nI_0 ‹cmpF 0 (nI 0) 0›) | (exact absurd ‹cmpT 0 (nI 1) 0› nI1_ne) | (exact absurd nI_0 ‹cmpT 1 (nI 0) 0›) | (exact absurd ‹cmpF 1 (nI 1) 0› nI1_ne) | (show wp _ _ _ _ _ _ _ _ _ _ _ _; conv => whnf) | (simp (disch := omega) only [nI_add, nI_mul, setN_now, setN_put, nI_cl, Nat.add_zero]) | (refine hcall _ _ _ _ ?_; first | (refine c_draft hC (fun s1 f1 d1 => ?_)) | (refine c_emptyCache d1.2.1.2.1 d1.1 (by omega) d1.2.1.1 (fun s2 u2 R2 => ?_)) | (refine c_recOp (o := forgetF F v) (d1.upd (B' := B + 1) u2 R2 (WFh_mono (by omega) (forget_ok w)) (by omega)) (fun q => forget_neg w q) (fun s3 f3 c3 => ?_)) | fail))
  all_goals exact h _ (f1.trans ((u2.fr (by omega)).trans f3)) c3
end CLS24
