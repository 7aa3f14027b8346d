/-! SENDING, whole: its counts, its place -/
section SND2
variable {f i k r p q c j n B b : Nat} {x y v a z name flow place : Int32} {F G H F' : Fm}
/-- the counts of router r went up: asks, hops, letters, by proxy, old maps -/
def UPC (G F : Fm) (r : Nat) (d1 d2 d3 d4 d5 : Nat) : Prop := G (165 + 6 * r + 1) = F (165 + 6 * r + 1) + nI d1 ∧ G (165 + 6 * r + 2) = F (165 + 6 * r + 2) + nI d2 ∧ G (165 + 6 * r + 3) = F (165 + 6 * r + 3) + nI d3 ∧ G (165 + 6 * r + 4) = F (165 + 6 * r + 4) + nI d4 ∧ G (165 + 6 * r + 5) = F (165 + 6 * r + 5) + nI d5
theorem add0 (x : Int32) : x + nI 0 = x := by
  show x + 0 = x
  exact Int32.add_zero x
theorem addn (x : Int32) (a b : Nat) : x + nI a + nI b = x + nI (a + b) := by rw [Int32.add_assoc, nI_add]
theorem UPC.rf (h : CTR G F r) : UPC G F r 0 0 0 0 0 := ⟨by rw [add0]; exact h 1 (by omega) (by omega), by rw [add0]; exact h 2 (by omega) (by omega), by rw [add0]; exact h 3 (by omega) (by omega), by rw [add0]; exact h 4 (by omega) (by omega), by rw [add0]; exact h 5 (by omega) (by omega)⟩
theorem UPC.trans {d1 d2 d3 d4 d5 e1 e2 e3 e4 e5 : Nat} (h1 : UPC G F r d1 d2 d3 d4 d5) (h2 : UPC H G r e1 e2 e3 e4 e5) : UPC H F r (d1 + e1) (d2 + e2) (d3 + e3) (d4 + e4) (d5 + e5) := by
  obtain ⟨a1, a2, a3, a4, a5⟩ := h1
  obtain ⟨b1, b2, b3, b4, b5⟩ := h2
  exact ⟨by rw [b1, a1, addn], by rw [b2, a2, addn], by rw [b3, a3, addn], by rw [b4, a4, addn], by rw [b5, a5, addn]⟩
theorem UPC.plus3 : UPC (plusF F (165 + 6 * r + 3)) F r 0 0 1 0 0 := ⟨by rw [add0]; exact plus_o (by omega), by rw [add0]; exact plus_o (by omega), if_pos rfl, by rw [add0]; exact plus_o (by omega), by rw [add0]; exact plus_o (by omega)⟩
theorem UPC.plus4 : UPC (plusF F (165 + 6 * r + 4)) F r 0 0 0 1 0 := ⟨by rw [add0]; exact plus_o (by omega), by rw [add0]; exact plus_o (by omega), by rw [add0]; exact plus_o (by omega), if_pos rfl, by rw [add0]; exact plus_o (by omega)⟩
theorem UPC.plus5 : UPC (plusF F (165 + 6 * r + 5)) F r 0 0 0 0 1 := ⟨by rw [add0]; exact plus_o (by omega), by rw [add0]; exact plus_o (by omega), by rw [add0]; exact plus_o (by omega), by rw [add0]; exact plus_o (by omega), if_pos rfl⟩
theorem plus_out (h1 : 1 ≤ j) (h2 : j < 6) : OUT (plusF F (165 + 6 * r + j)) F r := fun i a b => plus_o (by omega)
theorem plus_VM (hw : WF F B) (hr : r < cR F) (h1 : 1 ≤ j) (h2 : j < 6) (hv : VM F r) : VM (plusF F (165 + 6 * r + j)) r := by
  have h4 := hw.r2
  refine VM_sub (fun q hq => ⟨q, ?_, plus_o (by have := mA_eq r q; omega), plus_o (by have := mA_eq r q; omega)⟩) (fun i hi => plus_o (by omega)) hw hr hv
  have e : cM (plusF F (165 + 6 * r + j)) r = cM F r := by unfold cM; rw [plus_o (by omega)]
  omega
theorem asks_upc (hw : WF F B) (hr : r < cR F) : ∃ d, 1 ≤ d ∧ d ≤ 8 ∧ UPC (asksF F r name).2 F r 1 d 0 0 0 := by
  obtain ⟨-, -, a1, a2, a3, -, -⟩ := asks_all (name := name) hw hr
  exact ⟨_, (way_8 _).1, (way_8 _).2, a1, a2, by rw [add0]; exact a3 3 (by omega) (by omega), by rw [add0]; exact a3 4 (by omega) (by omega), by rw [add0]; exact a3 5 (by omega) (by omega)⟩
/-- all that is said of sending: from F to G, d1 asks, d2 hops, d4 by proxy, d5 old maps -/
def SNT (G F : Fm) (r : Nat) (name v : Int32) (d1 d2 d3 d4 d5 : Nat) : Prop := OUT G F r ∧ (VM F r → VM G r) ∧ UPC G F r d1 d2 d3 d4 d5 ∧ PL F name v
set_option maxHeartbeats 4000000 in
set_option maxRecDepth 100000 in
theorem rest_all (hG : WF G B) (hr : r < cR G) (hp : p < cM G r) (hf : 0 ≤ flow.toInt) (hh : hasF G (nn (G (mA r p))) name) : ∃ d1 d2 d4 d5, (d1 ≤ 1 ∧ d1 ≤ d2 ∧ d2 ≤ 8 ∧ d4 ≤ 1 ∧ d5 ≤ 1) ∧ SNT (restF G r p name flow).2 G r name (restF G r p name flow).1 d1 d2 0 d4 d5 := by
  have h4 := hG.r2
  have h8 := hG.t2
  have m0 := mA_eq r 0
  have m5 := mA_eq r 5
  have hU := WF_uses hG hr hp
  have kU := uses_keep hG hr hp
  have uR : r < cR (usesF G r p) := by unfold cR; rw [uses_lo (by omega)]; exact hr
  have uC : cM (usesF G r p) r = cM G r := uses_c
  have uL : ∀ i, i < 165 → usesF G r p i = G i := fun i hi => uses_lo (by omega)
  have u0 : usesF G r p (mA r 0) = G (mA r p) := uses_map (q := 0) (j := 0) (by omega)
  have uV : VM G r → VM (usesF G r p) r := VM_sub kU.2.2 uL hG hr
  unfold restF
  dsimp only
  rw [← u0] at hh
  generalize hU' : usesF G r p = U at *
  have wU := hU.router uR
  obtain ⟨m1, m2, -, -⟩ := wU.2.2.1 0 (by omega)
  have hV : WF (plusF U (165 + 6 * r + 5)) B := WF_cnt (r := r) hU (by omega) (fun i hi => plus_o (by omega))
  have vR : r < cR (plusF U (165 + 6 * r + 5)) := by unfold cR; rw [plus_o (by omega)]; exact uR
  have vC : cM (plusF U (165 + 6 * r + 5)) r = cM G r := by unfold cM; rw [plus_o (by omega)]; exact uC
  have hD := WF_drop hV vR (p := 0) (by omega)
  have kD := drops_keep hV vR (p := 0) (by omega)
  have dR : r < cR (dropsF (plusF U (165 + 6 * r + 5)) r 0) := by unfold cR; rw [drops_lo (by omega)]; exact vR
  have dL : ∀ i, i < 165 → dropsF (plusF U (165 + 6 * r + 5)) r 0 i = G i := fun i hi => by rw [drops_lo hi, plus_o (by omega), uL i hi]
  have eT : cT U = cT G := by unfold cT; rw [uL 2 (by omega)]
  by_cases hA : isAtF U (nn (U (mA r 0))) (choF U (mA r 0 + 4) flow)
  · rw [if_pos hA]
    refine ⟨0, 0, 0, 0, by omega, ?_, ?_, ?_, ?_⟩
    · dsimp only
      split
      · exact kU.1
      · exact kU.1.trans (fun i a b => if_neg (by omega))
    · intro hv
      have hv := uV hv
      dsimp only
      split
      · exact hv
      · have hK : cM (fun i => if i = mA r 0 + 3 then nI 1 else U i) r = cM U r := by unfold cM; dsimp only; rw [if_neg (by omega)]
        intro q hq
        have mq := mA_eq r q
        dsimp only
        rw [if_neg (by omega), if_neg (by omega)]
        have hq5 := wU.2.1
        have hm := wU.2.2.1 q (by omega)
        rw [if_neg (by have := hm.2.1; omega)]
        exact hv q (by omega)
    · dsimp only
      split
      · exact UPC.rf kU.2.1
      · exact UPC.rf (fun j a b => (if_neg (by omega)).trans (kU.2.1 j a b))
    · refine PL_lo hG uL (Or.inl ⟨nn (U (mA r 0)), m2, hA.2, ?_, ?_⟩)
      · have z1 := uL (29 + 17 * nn (U (mA r 0))) (by omega)
        have z2 := uL (29 + 17 * nn (U (mA r 0)) + 1) (by omega)
        unfold hasF at hh ⊢
        rw [z1, z2]
        exact hh
      · rcases hA.1 with ⟨e1, e2⟩ | ⟨e1, e2⟩ | ⟨e1, e2⟩
        · exact ⟨0, by omega, e1, e2⟩
        · exact ⟨1, by omega, e1, e2⟩
        · exact ⟨2, by omega, e1, e2⟩
  · rw [if_neg hA]
    obtain ⟨a1, a2, a3, a4⟩ := asks_ok (name := name) hD dR
    obtain ⟨b1, b2, -, -, -, b6, -⟩ := asks_all (name := name) hD dR
    obtain ⟨d, hd1, hd2, hup⟩ := asks_upc (name := name) hD dR
    have ac := asks_PL (flow := flow) (name := name) hD dR hf
    have oD : OUT (dropsF (plusF U (165 + 6 * r + 5)) r 0) G r := (kU.1.trans (plus_out (by omega) (by omega))).trans kD.1
    have vD : VM G r → VM (dropsF (plusF U (165 + 6 * r + 5)) r 0) r := fun hv => VM_sub kD.2.2 (fun i hi => drops_lo hi) hV vR (plus_VM hU uR (by omega) (by omega) (uV hv))
    have cD : UPC (dropsF (plusF U (165 + 6 * r + 5)) r 0) G r 0 0 0 0 1 := ((UPC.rf kU.2.1).trans UPC.plus5).trans (UPC.rf kD.2.1)
    generalize hAs : asksF (dropsF (plusF U (165 + 6 * r + 5)) r 0) r name = A at *
    obtain ⟨ab, aG⟩ := A
    cases ab with
    | true => exact ⟨1, d, 0, 1, by omega, oD.trans b1, fun hv => b2 (vD hv), by have := cD.trans hup; rw [Nat.zero_add, Nat.zero_add] at this; exact this, PL_lo hG dL (ac rfl)⟩
    | false =>
      have wA : WF aG B := a1
      have aR : r < cR aG := by rw [cR_of a2]; exact dR
      refine ⟨1, d, 1, 1, by omega, (oD.trans b1).trans (plus_out (by omega) (by omega)), fun hv => plus_VM wA aR (by omega) (by omega) (b2 (vD hv)), ?_, PL_lo hG dL (Or.inr ⟨b6 rfl, rfl⟩)⟩
      have := (cD.trans hup).trans UPC.plus4
      rw [Nat.zero_add, Nat.zero_add] at this
      exact this
theorem takeN_has : ∀ n b, takeN F r name n = some b → hasF F (nn (F (mA r b))) name := by
  intro n
  induction n with
  | zero => intro b h; cases h
  | succ n ih =>
    intro b h
    unfold takeN at h
    split at h
    · rename_i hc
      cases h
      exact hc.1
    · exact ih b h
set_option maxHeartbeats 4000000 in
set_option maxRecDepth 100000 in
theorem send_all (hw : WF F B) (hr : r < cR F) (hf : 0 ≤ flow.toInt) : ∃ d1 d2 d4 d5, (d1 ≤ 2 ∧ d1 ≤ d2 ∧ d2 ≤ 16 ∧ d4 ≤ 1 ∧ d5 ≤ 1) ∧ SNT (sendF F r name flow).2 F r name (sendF F r name flow).1 d1 d2 1 d4 d5 := by
  have h4 := hw.r2
  have hw1 : WF (plusF F (165 + 6 * r + 3)) B := WF_cnt (r := r) hw (by omega) (fun i hi => plus_o (by omega))
  have hr1 : r < cR (plusF F (165 + 6 * r + 3)) := by unfold cR; rw [plus_o (by omega)]; exact hr
  obtain ⟨e1, e2, e3⟩ := end_ok (cM (plusF F (165 + 6 * r + 3)) r) _ (Nat.le_refl _) hw1 hr1
  have ke := end_keep (cM (plusF F (165 + 6 * r + 3)) r) _ (Nat.le_refl _) hw1 hr1
  have hl1 : ∀ i, i < 165 → plusF F (165 + 6 * r + 3) i = F i := fun i hi => plus_o (by omega)
  have o2 : OUT (endF r (cM (plusF F (165 + 6 * r + 3)) r) (plusF F (165 + 6 * r + 3))) F r := (plus_out (by omega) (by omega)).trans ke.1
  have v2 : VM F r → VM (endF r (cM (plusF F (165 + 6 * r + 3)) r) (plusF F (165 + 6 * r + 3))) r := fun hv => VM_sub ke.2.2 e2 hw1 hr1 (plus_VM hw hr (by omega) (by omega) hv)
  have c2 : UPC (endF r (cM (plusF F (165 + 6 * r + 3)) r) (plusF F (165 + 6 * r + 3))) F r 0 0 1 0 0 := UPC.plus3.trans (UPC.rf ke.2.1)
  unfold sendF
  dsimp only
  generalize hF1 : plusF F (165 + 6 * r + 3) = F1 at *
  generalize hF2 : endF r (cM F1 r) F1 = F2 at *
  have hr2 : r < cR F2 := by rw [cR_of e2]; exact hr1
  have hl2 : ∀ i, i < 165 → F2 i = F i := fun i hi => (e2 i hi).trans (hl1 i hi)
  obtain ⟨a1, a2, a3, a4⟩ := asks_ok (name := name) e1 hr2
  obtain ⟨b1, b2, -, -, -, b6, b7⟩ := asks_all (name := name) e1 hr2
  obtain ⟨d, hd1, hd2, hup⟩ := asks_upc (name := name) e1 hr2
  have aR : r < cR (asksF F2 r name).2 := by rw [cR_of a2]; exact hr2
  have aC := asked_cM (F := F2) (name := name) (r := r) (by omega)
  have h0 : (asksF F2 r name).1 = true → hasF (asksF F2 r name).2 (nn ((asksF F2 r name).2 (mA r 0))) name := by
    intro ht
    obtain ⟨k, ho, ek, -⟩ := b7 ht
    have hk := ansF_lt ho
    have h8 := e1.t2
    have hh := (ansN_up _ _ ho).2
    rw [ek, show nn (nI k) = k from nI_cl (by omega)]
    unfold hasF at hh ⊢
    rw [a2 _ (by omega), a2 _ (by omega)]
    exact hh
  generalize hAs : asksF F2 r name = A at *
  obtain ⟨ab, aG⟩ := A
  have al : ∀ i, i < 165 → aG i = F i := fun i hi => (a2 i hi).trans (hl2 i hi)
  have go : ∀ H p d0 e0, WF H B → r < cR H → p < cM H r → (∀ i, i < 165 → H i = F i) → hasF H (nn (H (mA r p))) name → OUT H F r → (VM F r → VM H r) → UPC H F r d0 e0 1 0 0 → (d0 ≤ 1 ∧ d0 ≤ e0 ∧ e0 ≤ 8) → ∃ d1 d2 d4 d5, (d1 ≤ 2 ∧ d1 ≤ d2 ∧ d2 ≤ 16 ∧ d4 ≤ 1 ∧ d5 ≤ 1) ∧ SNT (restF H r p name flow).2 F r name (restF H r p name flow).1 d1 d2 1 d4 d5 := by
    intro H p d0 e0 g1 g2 g3 g4 g5 g6 g7 g8 g9
    obtain ⟨d1, d2, d4, d5, hd, t1, t2, t3, t4⟩ := rest_all (name := name) (flow := flow) g1 g2 g3 hf g5
    refine ⟨d0 + d1, e0 + d2, d4, d5, by omega, g6.trans t1, fun hv => t2 (g7 hv), ?_, PL_lo hw g4 t4⟩
    have := g8.trans t3
    rw [Nat.zero_add, Nat.zero_add] at this
    exact this
  have cA : UPC aG F r 1 d 1 0 0 := by
    have := c2.trans hup
    rw [Nat.zero_add, Nat.zero_add] at this
    exact this
  cases ho : takeN F2 r name (cM F2 r) with
  | none =>
    cases ab with
    | true => exact go aG 0 1 d a1 aR (a3 rfl) al (h0 rfl) (o2.trans b1) (fun hv => b2 (v2 hv)) cA (by omega)
    | false => exact ⟨1, d, 1, 0, by omega, (o2.trans b1).trans (plus_out (by omega) (by omega)), fun hv => plus_VM a1 aR (by omega) (by omega) (b2 (v2 hv)), cA.trans UPC.plus4, PL_lo hw hl2 (Or.inr ⟨b6 rfl, rfl⟩)⟩
  | some p =>
    have hp := takeN_lt _ _ ho
    have hh := takeN_has _ _ ho
    dsimp only
    by_cases hm : F2 (mA r p + 3) = nI 1
    · rw [if_pos hm]
      cases ab with
      | true => exact go aG 0 1 d a1 aR (a3 rfl) al (h0 rfl) (o2.trans b1) (fun hv => b2 (v2 hv)) cA (by omega)
      | false =>
        have e4 : aG = askedF F2 r name := a4 rfl
        have hpA : p < cM aG r := by rw [e4, aC]; exact hp
        have kd := drops_keep a1 aR hpA
        have wd := WF_drop a1 aR hpA
        have rd : r < cR (dropsF aG r p) := by unfold cR; rw [drops_lo (by omega)]; exact aR
        exact ⟨1, d, 1, 0, by omega, ((o2.trans b1).trans kd.1).trans (plus_out (by omega) (by omega)), fun hv => plus_VM wd rd (by omega) (by omega) (VM_sub kd.2.2 (fun i hi => drops_lo hi) a1 aR (b2 (v2 hv))), (cA.trans (UPC.rf kd.2.1)).trans UPC.plus4, PL_lo hw hl2 (Or.inr ⟨b6 rfl, rfl⟩)⟩
    · rw [if_neg hm]
      exact go F2 p 0 0 e1 hr2 hp hl2 hh o2 v2 c2 (by omega)
end SND2
