/-! THE STEP, whole; the stretch; the method -/
theorem virt_all : ∀ q ∈ mlT, (mRow q.2.2.1).2.2.2.2.2.2 = false → (mRow q.2.2.1).2.2.2.2.1 < 10 := by decide +kernel
theorem virt_lt {o a b n : Nat} (q : Nat) (h : (o, a, b, n) ∈ mlT) (hs : (mRow b).2.2.2.2.2.2 = decide (¬ (0 : Nat) = 0)) : (mRow b).2.2.2.2.1 < 10 := virt_all _ h hs
theorem inv_split {call : Nat → List MV → St → (Option MV → St → Prop) → Prop} {n w b d : Nat} {st : List MV} {z : St} {kk : List MV → St → Prop} {cs : List (Nat × Nat)} (h : (match cs with
      | (n, w) :: _ => (match popL n [] st with
        | some (as, st) => boolW (Nat.ble st.length 8) (match Nat.beq d 0 with
          | true => (match as with
            | .inr (q, _) :: _ => boolW (Nat.beq q w) (call b as z (fun r s => kk (pushW r st) s))
            | _ => False)
          | false => call b as z (fun r s => kk (pushW r st) s))
        | none => False)
      | [] => False)) (hcs : cs = [(n, w)]) : ∃ as st', st = as.reverse ++ st' ∧ as.length = n ∧ st'.length ≤ 8 ∧ call b as z (fun r s => kk (pushW r st') s) ∧ (d = 0 → ∃ i as', as = .inr (w, i) :: as') := by
  subst hcs
  have h : (match popL n [] st with
        | some (as, st) => boolW (Nat.ble st.length 8) (match Nat.beq d 0 with
          | true => (match as with
            | .inr (q, _) :: _ => boolW (Nat.beq q w) (call b as z (fun r s => kk (pushW r st) s))
            | _ => False)
          | false => call b as z (fun r s => kk (pushW r st) s))
        | none => False) := h
  cases hp : popL n [] st with
  | none => rw [hp] at h; exact h.elim
  | some pr =>
    obtain ⟨as, st'⟩ := pr
    rw [hp] at h
    obtain ⟨t, e1, e2, e3⟩ := popL_eq _ _ _ _ _ hp
    rw [List.append_nil] at e1
    subst e1
    obtain ⟨hlen, h2⟩ := boolW_t h
    refine ⟨as, st', e2, e3, Nat.le_of_ble_eq_true hlen, ?_⟩
    cases hd0 : Nat.beq d 0 with
    | false =>
      rw [hd0] at h2
      exact ⟨h2, fun e => by rw [e] at hd0; cases hd0⟩
    | true =>
      rw [hd0] at h2
      cases as with
      | nil => exact (h2 : False).elim
      | cons v as' => cases v with
        | inl x => exact (h2 : False).elim
        | inr r =>
          obtain ⟨q, i⟩ := r
          obtain ⟨hq, h3⟩ := boolW_t h2
          have hq := Nat.eq_of_beq_eq_true hq
          subst hq
          exact ⟨h3, fun _ => ⟨i, as', rfl⟩⟩
def idxOk (b a : Nat) : Bool := match b with
  | 0 => decide (a < 4) | 1 => true | 2 => decide (a < 4) | _ => true
section SL
variable {p : Program} {l : Launch} {e : Env} {R : Room} {s : State} {m : MethodId} {args : Array Value} {below : List Frame} {meth : Method} {c : Code} {cells slots : Nat} {QM : State → Prop}
variable {D : va_G} {cA : Nat → ClassId} {ad : Nat × Nat → Nat} {A : Nat → Prop} {L : Nat} {xs : Nat → Int32} {cc : ByteArray} {o nL : Nat} {H : Heap} {locs : List Loc} {lsA : Array Slot} {rest : List Value} {ls : List MV}
theorem s_loadI (F : FrOk p s m args meth c D cA ad A L xs cc o nL) {pc a b d : Nat} {c0 x : Int32} {cs : List (Nat × Nat)} (hm : idxOk b a = true) (hb1 : b ≤ 1) (hd : decode cc pc = .ok (instrOf (pc, (2, a, b, d), c0, cs))) (hg : lsA[a]? = some (.val (.int x)))
    (kk : W p l e R s m args below meth c H locs cells slots QM (F0 m (nextPc (pc, (2, a, b, d), c0, cs)) lsA (.int x :: rest))) : W p l e R s m args below meth c H locs cells slots QM (F0 m pc lsA rest) := by
  obtain ⟨hx, hb, -⟩ := id F
  match b, hm, hb1, hd, kk with
  | 0, hm, _, hd, kk => exact lv_iload_n hx hb hd (Nat.mod_eq_of_lt (of_decide_eq_true hm)) hg kk
  | 1, hm, _, hd, kk => exact lv_iload hx hb hd hg kk
theorem s_loadR (F : FrOk p s m args meth c D cA ad A L xs cc o nL) {pc a b d x : Nat} {c0 : Int32} {cs : List (Nat × Nat)} (hm : idxOk b a = true) (hb1 : 2 ≤ b) (hd : decode cc pc = .ok (instrOf (pc, (2, a, b, d), c0, cs))) (hg : lsA[a]? = some (.val (.ref x)))
    (kk : W p l e R s m args below meth c H locs cells slots QM (F0 m (nextPc (pc, (2, a, b, d), c0, cs)) lsA (.ref x :: rest))) : W p l e R s m args below meth c H locs cells slots QM (F0 m pc lsA rest) := by
  obtain ⟨hx, hb, -⟩ := id F
  match b, hm, hb1, hd, kk with
  | 2, hm, _, hd, kk => exact lv_aload_n hx hb hd (Nat.mod_eq_of_lt (of_decide_eq_true hm)) hg kk
  | n + 3, hm, _, hd, kk => exact lv_aload hx hb hd hg kk
theorem s_storeI (F : FrOk p s m args meth c D cA ad A L xs cc o nL) {pc a b d : Nat} {c0 x : Int32} {cs : List (Nat × Nat)} (ha : a < nL) (hlen : a ≤ ls.length) (hloc : locOk ad nL lsA ls) (hm : idxOk b a = true) (hb1 : b ≤ 1) (hd : decode cc pc = .ok (instrOf (pc, (3, a, b, d), c0, cs)))
    (kk : ∀ lsB, locOk ad nL lsB (setL ls a (.inl x)) → W p l e R s m args below meth c H locs cells slots QM (F0 m (nextPc (pc, (3, a, b, d), c0, cs)) lsB rest)) : W p l e R s m args below meth c H locs cells slots QM (F0 m pc lsA (.int x :: rest)) := by
  obtain ⟨hx, hb, -⟩ := id F
  match b, hm, hb1, hd, kk with
  | 0, hm, _, hd, kk => exact lv_istore_n hx hb hd (Nat.mod_eq_of_lt (of_decide_eq_true hm)) hloc.1 ha rfl (fun lsB hB => kk lsB (loc_set hloc ha hlen (.inl x) rfl hB))
  | 1, hm, _, hd, kk => exact lv_istore hx hb hd hloc.1 ha rfl (fun lsB hB => kk lsB (loc_set hloc ha hlen (.inl x) rfl hB))
theorem s_storeR (F : FrOk p s m args meth c D cA ad A L xs cc o nL) {pc a b d : Nat} {c0 : Int32} {r : Nat × Nat} {cs : List (Nat × Nat)} (ha : a < nL) (hlen : a ≤ ls.length) (hloc : locOk ad nL lsA ls) (hm : idxOk b a = true) (hb1 : 2 ≤ b) (hd : decode cc pc = .ok (instrOf (pc, (3, a, b, d), c0, cs)))
    (kk : ∀ lsB, locOk ad nL lsB (setL ls a (.inr r)) → W p l e R s m args below meth c H locs cells slots QM (F0 m (nextPc (pc, (3, a, b, d), c0, cs)) lsB rest)) : W p l e R s m args below meth c H locs cells slots QM (F0 m pc lsA (.ref (ad r) :: rest)) := by
  obtain ⟨hx, hb, -⟩ := id F
  match b, hm, hb1, hd, kk with
  | 2, hm, _, hd, kk => exact lv_astore_n hx hb hd (Nat.mod_eq_of_lt (of_decide_eq_true hm)) hloc.1 ha rfl (fun lsB hB => kk lsB (loc_set hloc ha hlen (.inr r) rfl hB))
  | n + 3, hm, _, hd, kk => exact lv_astore hx hb hd hloc.1 ha rfl (fun lsB hB => kk lsB (loc_set hloc ha hlen (.inr r) rfl hB))
theorem s_const (F : FrOk p s m args meth c D cA ad A L xs cc o nL) {pc a b d : Nat} {c0 : Int32} {cs : List (Nat × Nat)} (hm : moreOk o nL (pc, (1, a, b, d), c0, cs) = true) (hd : decode cc pc = .ok (instrOf (pc, (1, a, b, d), c0, cs)))
    (kk : W p l e R s m args below meth c H locs cells slots QM (F0 m (nextPc (pc, (1, a, b, d), c0, cs)) lsA (.int c0 :: rest))) : W p l e R s m args below meth c H locs cells slots QM (F0 m pc lsA rest) := by
  obtain ⟨hx, hb, hmlc, hown, hlkk, hT, hK, hA, hX⟩ := id F
  match b, hm, hd, kk with
  | 0, _, hd, kk => exact lv_iconst hx hb hd (Int32_ofInt_toInt c0) kk
  | 1, hm, hd, kk => exact lv_bipush hx hb hd (of_decide_eq_true hm) kk
  | 2, hm, hd, kk => exact lv_sipush hx hb hd (of_decide_eq_true hm) kk
  | n + 4, hm, hd, kk =>
    have hm : (o, a, c0) ∈ [(24, 7, (763049417 : Int32)), (24, 8, 2147483647)] := of_decide_eq_true hm
    have hc : inT (.constant (cnm o) a c0) := by
      rcases List.mem_cons.mp hm with q | hm
      · cases q; exact ck_7
      rcases List.mem_cons.mp hm with q | hm
      · cases q; exact ck_8
      cases hm
    exact lv_ldc hx hb hown (hT.use hc) hd kk
  | 3, hm, hd, kk =>
    have hm : (o, a, c0) ∈ [(25, 265, (1431655765 : Int32)), (25, 266, 858993459), (25, 267, 252645135)] := of_decide_eq_true hm
    have hc : inT (.constant (cnm o) a c0) := by
      rcases List.mem_cons.mp hm with q | hm
      · cases q; exact ck_265
      rcases List.mem_cons.mp hm with q | hm
      · cases q; exact ck_266
      rcases List.mem_cons.mp hm with q | hm
      · cases q; exact ck_267
      cases hm
    exact lv_ldcw hx hb hown (hT.use hc) hd kk
end SL
section SM
variable {p : Program} {l : Launch} {e : Env} {R : Room} {s : State} {m : MethodId} {args : Array Value} {below : List Frame} {meth : Method} {c : Code} {cells slots : Nat} {QM : State → Prop}
variable {D : va_G} {cA : Nat → ClassId} {ad : Nat × Nat → Nat} {A : Nat → Prop} {L : Nat} {xs : Nat → Int32} {cc : ByteArray} {o nL : Nat}
set_option maxHeartbeats 4000000 in
theorem step_sound (F : FrOk p s m args meth c D cA ad A L xs cc o nL) {call : Nat → List MV → St → (Option MV → St → Prop) → Prop} {ret : Nat} {Q : Option MV → St → Prop} {X : Nat → List MV → List MV → St → Prop} {k : List Ent → List MV → List MV → St → Prop} {j : Nat → List MV → List MV → St → Prop}
    (hcall : ∀ b as z Q', call b as z Q' → (∀ v ∈ as, okV v) → as.length = (mRow b).2.2.2.2.2.1 → b < 123 → ∃ f, f + 1 ≤ R.frames ∧ 38 * f + 38 ≤ R.locals ∧ MetC l D cA ad A L xs f b as z Q')
    (hR0 : ∀ v z H locs lsA pc, retW ret v (Q (some (.inl v)) z) → Hp D cA ad z H → va_S A s.heap H locs → decode cc pc = .ok (.ireturn, 1) → W p l e R s m args below meth c H locs cells slots QM (F0 m pc lsA [.int v]))
    (hR1 : ∀ z H locs lsA pc, ret = 2 → Q none z → Hp D cA ad z H → va_S A s.heap H locs → decode cc pc = .ok (.return_, 1) → W p l e R s m args below meth c H locs cells slots QM (F0 m pc lsA []))
    (hmin : 1 ≤ R.frames ∧ 21 ≤ R.locals)
    (hXX : ∀ pc ls st z, X pc ls st z → XwP p l e R s m args below meth c cells slots QM D cA ad A nL pc ls st z) (hcs : cells ≤ R.cells ∧ slots ≤ R.slots) :
    ∀ (pc op a b d : Nat) (c0 : Int32) (cs : List (Nat × Nat)) (es : List Ent) (ls st : List MV) (z : St), entOk o nL cc (pc, (op, a, b, d), c0, cs) = true →
    (∀ ls st z, k es ls st z → XwP p l e R s m args below meth c cells slots QM D cA ad A nL (nextPc (pc, (op, a, b, d), c0, cs)) ls st z) →
    (∀ t ls st z, j t ls st z → XwP p l e R s m args below meth c cells slots QM D cA ad A nL t ls st z) →
    stepW call L xs ret Q X k j ((pc, (op, a, b, d), c0, cs) :: es) ls st z → XwP p l e R s m args below meth c cells slots QM D cA ad A nL pc ls st z := by
  intro pc op a b d c0 cs es ls st z hok hk hj h hls hst H locs lsA hH hS hloc
  obtain ⟨hx, hb, hmlc, hown, hlkk, hT, hK, hA, hX⟩ := id F
  have hsz : lsA.size = nL := hloc.1.1
  obtain ⟨hdec, hmore⟩ : (op = 0 ∨ decode cc pc = .ok (instrOf (pc, (op, a, b, d), c0, cs))) ∧ moreOk o nL (pc, (op, a, b, d), c0, cs) = true := by
    unfold entOk at hok
    rw [Bool.and_eq_true, Bool.or_eq_true, decide_eq_true_eq, decide_eq_true_eq] at hok
    exact hok
  match op, hdec, hmore, hk, h with
  | 0, _, _, _, h => exact hXX _ _ _ _ h (by rw [takeL_eq]; exact fun v hv => hls v (List.mem_of_mem_take hv)) hst H locs lsA hH hS (loc_take hloc a)
  | 1, hdec, hmore, hk, h =>
    have hd := hdec.resolve_left (by decide)
    exact s_const F hmore hd (hk _ _ _ h hls (okV_cons trivial hst) H locs lsA hH hS hloc)
  | 2, hdec, hmore, hk, h =>
    have hd := hdec.resolve_left (by decide)
    cases hv : getL ls a with
    | none =>
      have h : (match getL ls a with | some (.inl x) => boolW (Nat.ble b 1) (k es ls (.inl x :: st) z) | some (.inr r) => boolW (Nat.ble 2 b) (k es ls (.inr r :: st) z) | none => False) := h
      rw [hv] at h
      exact h.elim
    | some v =>
      have hg := loc_get hloc hv
      cases v with
      | inl x =>
        have h : (match getL ls a with | some (.inl x) => boolW (Nat.ble b 1) (k es ls (.inl x :: st) z) | some (.inr r) => boolW (Nat.ble 2 b) (k es ls (.inr r :: st) z) | none => False) := h
        rw [hv] at h
        obtain ⟨hb1, h⟩ := boolW_t h
        have hb1 := Nat.le_of_ble_eq_true hb1
        exact s_loadI F hmore hb1 hd hg (hk _ _ _ h hls (okV_cons (v := .inl x) trivial hst) H locs lsA hH hS hloc)
      | inr r =>
        have h : (match getL ls a with | some (.inl x) => boolW (Nat.ble b 1) (k es ls (.inl x :: st) z) | some (.inr r) => boolW (Nat.ble 2 b) (k es ls (.inr r :: st) z) | none => False) := h
        rw [hv] at h
        obtain ⟨hb1, h⟩ := boolW_t h
        have hb1 := Nat.le_of_ble_eq_true hb1
        exact s_loadR F hmore hb1 hd hg (hk _ _ _ h hls (okV_cons (okV_getL hls hv) hst) H locs lsA hH hS hloc)
  | 3, hdec, hmore, hk, h =>
    have hd := hdec.resolve_left (by decide)
    have hmore : (decide (a < nL) && idxOk b a) = true := hmore
    rw [Bool.and_eq_true] at hmore
    have ha : a < nL := of_decide_eq_true hmore.1
    have hmore := hmore.2
    cases st with
    | nil => exact (h : False).elim
    | cons v st => cases v with
      | inl x =>
        obtain ⟨hb1, h⟩ := boolW_t h
        rw [Bool.and_eq_true] at hb1
        have hlen := Nat.le_of_ble_eq_true hb1.2
        have hb1 := Nat.le_of_ble_eq_true hb1.1
        exact s_storeI F ha hlen hloc hmore hb1 hd (fun lsB hB => hk _ _ _ h (setL_ok (v := .inl x) hls trivial a) (okV_tail hst) H locs lsB hH hS hB)
      | inr r =>
        obtain ⟨hb1, h⟩ := boolW_t h
        rw [Bool.and_eq_true] at hb1
        have hlen := Nat.le_of_ble_eq_true hb1.2
        have hb1 := Nat.le_of_ble_eq_true hb1.1
        exact s_storeR F ha hlen hloc hmore hb1 hd (fun lsB hB => hk _ _ _ h (setL_ok hls (okV_head hst) a) (okV_tail hst) H locs lsB hH hS hB)
  | 4, hdec, hmore, hk, h =>
    have hd := hdec.resolve_left (by decide)
    cases st with
    | nil => exact (h : False).elim
    | cons v1 st => cases v1 with
      | inr r => exact (h : False).elim
      | inl y => cases st with
        | nil => exact (h : False).elim
        | cons v2 st => cases v2 with
          | inr r => exact (h : False).elim
          | inl x =>
            have h : binW a x y (fun v => k es ls (.inl v :: st) z) := h
            refine s_bin (k := fun v => k es ls (.inl v :: st) z) F hd h (fun v hv => ?_)
            exact hk _ _ _ hv hls (okV_cons trivial (okV_tail (okV_tail hst))) H locs lsA hH hS hloc
  | 5, hdec, hmore, hk, h =>
    have hd := hdec.resolve_left (by decide)
    have ha : a < nL := of_decide_eq_true hmore
    have h : (match getL ls a with | some (.inl x) => k es (setL ls a (.inl (x + c0))) st z | _ => False) := h
    cases hv : getL ls a with
    | none => rw [hv] at h; exact h.elim
    | some v => cases v with
      | inr r => rw [hv] at h; exact h.elim
      | inl x =>
        rw [hv] at h
        have hlen : a < ls.length := by
          rw [getL_eq] at hv
          exact (List.getElem?_eq_some_iff.mp hv).1
        have hmem : (a, Value.int x) ∈ enumL 0 (ls.map (trv ad)) := mem_enumL.mpr ⟨Nat.zero_le _, by rw [getL_eq] at hv; simp [hv, trv]⟩
        obtain ⟨kx, hkx⟩ := List.getElem?_of_mem hmem
        refine lv_iinc hx hb hd hloc.1 hkx (by rw [Int32_ofInt_toInt]) ha rfl (fun lsB hB => ?_)
        exact hk _ _ _ h (setL_ok (v := .inl (x + c0)) hls trivial a) hst H locs lsB hH hS (loc_set hloc ha (by omega) (.inl (x + c0)) rfl hB)
  | 6, hdec, hmore, hk, h =>
    have hd := hdec.resolve_left (by decide)
    cases st with
    | nil => exact (h : False).elim
    | cons v1 st => cases v1 with
      | inr r => exact (h : False).elim
      | inl x => exact s_if F (of_decide_eq_true hmore) hd (fun q => hk _ _ _ (h.1 q) hls (okV_tail hst) H locs lsA hH hS hloc) (fun q => hj _ _ _ _ (h.2 q) hls (okV_tail hst) H locs lsA hH hS hloc)
  | 7, hdec, hmore, hk, h =>
    have hd := hdec.resolve_left (by decide)
    cases st with
    | nil => exact (h : False).elim
    | cons v1 st => cases v1 with
      | inr r => exact (h : False).elim
      | inl y => cases st with
        | nil => exact (h : False).elim
        | cons v2 st => cases v2 with
          | inr r => exact (h : False).elim
          | inl x => exact s_icmp F (of_decide_eq_true hmore) hd (fun q => hk _ _ _ (h.1 q) hls (okV_tail (okV_tail hst)) H locs lsA hH hS hloc) (fun q => hj _ _ _ _ (h.2 q) hls (okV_tail (okV_tail hst)) H locs lsA hH hS hloc)
  | 8, hdec, hmore, hk, h =>
    have hd := hdec.resolve_left (by decide)
    exact lv_goto hx hb hd int_tgt (hj _ _ _ _ h hls hst H locs lsA hH hS hloc)
  | 9, hdec, hmore, hk, h =>
    have hd := hdec.resolve_left (by decide)
    have hfl : (o, a, b, d) ∈ flT := of_decide_eq_true hmore
    have hb11 := (flT_lt _ hfl).1
    cases st with
    | nil => exact (h : False).elim
    | cons v1 st => cases v1 with
      | inl r => exact (h : False).elim
      | inr r =>
        obtain ⟨q, i⟩ := r
        have h' := boolW_t h; clear h; obtain ⟨hq, hz⟩ := h'
        have hq := Nat.eq_of_beq_eq_true hq
        subst hq
        have hi : i < cntK q := okR_obj (okV_head hst) (Nat.lt_trans hb11 (by decide))
        exact s_get F hfl hi hH hd (hk _ _ _ hz hls (okV_cons (okV_fv hi) (okV_tail hst)) H locs lsA hH hS hloc)
  | 10, hdec, hmore, hk, h =>
    have hd := hdec.resolve_left (by decide)
    have hfl : (o, a, b, d) ∈ flT := of_decide_eq_true hmore
    have hb11 := (flT_lt _ hfl).1
    cases st with
    | nil => exact (h : False).elim
    | cons v1 st => cases v1 with
      | inr r => exact (h : False).elim
      | inl x => cases st with
        | nil => exact (h : False).elim
        | cons v2 st => cases v2 with
          | inl r => exact (h : False).elim
          | inr r =>
            obtain ⟨q, i⟩ := r
            have h' := boolW_t h; clear h; obtain ⟨hq, hz⟩ := h'
            have hq := Nat.eq_of_beq_eq_true hq
            subst hq
            have hi : i < cntK q := okR_obj (okV_head (okV_tail hst)) (Nat.lt_trans hb11 (by decide))
            have h : (match lk q d i with | none => (match Nat.beq q 2 && Nat.beq d 5 with | true => (x = 0 ∨ x = 1) ∧ k es ls st (putV z q i d x) | false => k es ls st (putV z q i d x)) | some _ => False) := hz
            cases hl : lk q d i with
            | some r => rw [hl] at h; exact h.elim
            | none =>
              rw [hl] at h
              have h : (match Nat.beq q 2 && Nat.beq d 5 with | true => (x = 0 ∨ x = 1) ∧ k es ls st (putV z q i d x) | false => k es ls st (putV z q i d x)) := h
              cases hbb : Nat.beq q 2 && Nat.beq d 5 with
              | true =>
                rw [hbb] at h
                exact s_put F hfl hi hl (fun _ => h.1) hH hS hd (fun H1 locs1 hH1 hS1 => hk _ _ _ h.2 hls (okV_tail (okV_tail hst)) H1 locs1 lsA hH1 hS1 hloc)
              | false =>
                rw [hbb] at h
                exact s_put F hfl hi hl (fun hc => by rw [hc.1, hc.2] at hbb; cases hbb) hH hS hd (fun H1 locs1 hH1 hS1 => hk _ _ _ h hls (okV_tail (okV_tail hst)) H1 locs1 lsA hH1 hS1 hloc)
  | 11, hdec, hmore, hk, h =>
    have hd := hdec.resolve_left (by decide)
    cases st with
    | nil => exact (h : False).elim
    | cons v1 st => cases v1 with
      | inr r => exact (h : False).elim
      | inl i => cases st with
        | nil => exact (h : False).elim
        | cons v2 st => cases v2 with
          | inl r => exact (h : False).elim
          | inr r =>
            obtain ⟨q, n⟩ := r
            have hst2 := okV_tail (okV_tail hst)
            have hqn := okV_head (okV_tail hst)
            have h : (match Nat.beq q 24 with
              | true => boolW (Nat.beq a 0) (inA i L ∧ k es ls (.inl (xs i.toNatClampNeg) :: st) z)
              | false => (match akind q with
                | 0 => boolW (Nat.beq a 0) (inA i (alen q) ∧ k es ls (.inl (z.1 q n i.toNatClampNeg) :: st) z)
                | 1 => boolW (Nat.beq a 1) (inA i (alen q) ∧ k es ls (.inl (z.1 q n i.toNatClampNeg) :: st) z)
                | 2 => boolW (Nat.beq a 1) (inA i (alen q) ∧ k es ls (.inl (z.1 q n i.toNatClampNeg) :: st) z)
                | 3 => boolW (Nat.beq a 2) (inA i (alen q) ∧ k es ls (.inr (el z.2 q n i.toNatClampNeg) :: st) z)
                | _ => False)) := h
            cases hq : Nat.beq q 24 with
            | true =>
              rw [hq] at h
              have h' := boolW_t h; clear h; obtain ⟨ha, hin, hz⟩ := h'
              have ha := Nat.eq_of_beq_eq_true ha
              have hq := Nat.eq_of_beq_eq_true hq
              subst ha; subst hq
              have hn : n = 0 := by
                rcases hqn with h9 | h9
                · exact absurd h9 (Nat.not_lt_zero n)
                · exact congrArg Prod.snd h9
              subst hn
              exact s_sld F hin hS hd (hk _ _ _ hz hls (okV_cons (v := .inl _) trivial hst2) H locs lsA hH hS hloc)
            | false =>
              rw [hq] at h
              have hq24 : q ≠ 24 := fun e => by rw [e] at hq; cases hq
              have hcnt : n < cntK q := by
                rcases hqn with h9 | h9
                · exact h9
                · exact absurd (congrArg Prod.fst h9) hq24
              have h : (match akind q with
                | 0 => boolW (Nat.beq a 0) (inA i (alen q) ∧ k es ls (.inl (z.1 q n i.toNatClampNeg) :: st) z)
                | 1 => boolW (Nat.beq a 1) (inA i (alen q) ∧ k es ls (.inl (z.1 q n i.toNatClampNeg) :: st) z)
                | 2 => boolW (Nat.beq a 1) (inA i (alen q) ∧ k es ls (.inl (z.1 q n i.toNatClampNeg) :: st) z)
                | 3 => boolW (Nat.beq a 2) (inA i (alen q) ∧ k es ls (.inr (el z.2 q n i.toNatClampNeg) :: st) z)
                | _ => False) := h
              match hak : akind q, h with
              | 0, h =>
                have h' := boolW_t h; clear h; obtain ⟨ha, hin, hz⟩ := h'
                have ha := Nat.eq_of_beq_eq_true ha
                subst ha
                exact s_ild F hcnt hak hin hH hd (hk _ _ _ hz hls (okV_cons (v := .inl _) trivial hst2) H locs lsA hH hS hloc)
              | 1, h =>
                have h' := boolW_t h; clear h; obtain ⟨ha, hin, hz⟩ := h'
                have ha := Nat.eq_of_beq_eq_true ha
                subst ha
                exact s_zld F hcnt hak hin hH hd (hk _ _ _ hz hls (okV_cons (v := .inl _) trivial hst2) H locs lsA hH hS hloc)
              | 2, h =>
                have h' := boolW_t h; clear h; obtain ⟨ha, hin, hz⟩ := h'
                have ha := Nat.eq_of_beq_eq_true ha
                subst ha
                exact s_bld F hcnt hak hin hH hd (hk _ _ _ hz hls (okV_cons (v := .inl _) trivial hst2) H locs lsA hH hS hloc)
              | 3, h =>
                have h' := boolW_t h; clear h; obtain ⟨ha, hin, hz⟩ := h'
                have ha := Nat.eq_of_beq_eq_true ha
                subst ha
                exact s_qld F hcnt hak hin hH hd (hk _ _ _ hz hls (okV_cons (okR_el hH.2 hcnt hak (inA_lt hin)) hst2) H locs lsA hH hS hloc)
              | w + 4, h => exact (h : False).elim
  | 12, hdec, hmore, hk, h =>
    have hd := hdec.resolve_left (by decide)
    cases st with
    | nil => exact (h : False).elim
    | cons v0 st => cases st with
      | nil => cases v0 <;> exact (h : False).elim
      | cons v1 st => cases v1 with
        | inr r => cases v0 <;> exact (h : False).elim
        | inl i => cases st with
          | nil => cases v0 <;> exact (h : False).elim
          | cons v2 st => cases v2 with
            | inl r => cases v0 <;> exact (h : False).elim
            | inr r =>
              obtain ⟨q, n⟩ := r
              have hst2 := okV_tail (okV_tail (okV_tail hst))
              have hqn := okV_head (okV_tail (okV_tail hst))
              have hqn2 : q ≠ 24 → n < cntK q := fun hq24 => by
                rcases hqn with h9 | h9
                · exact h9
                · exact absurd (congrArg Prod.fst h9) hq24
              cases v0 with
              | inr w =>
                obtain ⟨w, y⟩ := w
                have h' := boolW_t h; clear h; obtain ⟨hb1, hin, hz⟩ := h'
                rw [Bool.and_eq_true, Bool.and_eq_true] at hb1
                have e1 := Nat.eq_of_beq_eq_true hb1.1
                have e2 := Nat.eq_of_beq_eq_true hb1.2.1
                have e3 := Nat.eq_of_beq_eq_true hb1.2.2
                subst e1; subst e2; subst e3
                have hy : y < 200 := okR_obj (okV_head hst) (by decide)
                exact s_qst F (hqn2 (by decide)) hy hin hH hS hd (fun H1 locs1 hH1 hS1 => hk _ _ _ hz hls hst2 H1 locs1 lsA hH1 hS1 hloc)
              | inl x =>
                have h : (match akind q with
                  | 0 => boolW (Nat.beq a 0) (inA i (alen q) ∧ k es ls st (putV z q n i.toNatClampNeg x))
                  | 1 => boolW (Nat.beq a 1) (inA i (alen q) ∧ (x = 0 ∨ x = 1) ∧ k es ls st (putV z q n i.toNatClampNeg x))
                  | 2 => boolW (Nat.beq a 1) (inA i (alen q) ∧ x.toInt8.toInt32 = x ∧ k es ls st (putV z q n i.toNatClampNeg x))
                  | _ => False) := h
                match hak : akind q, h with
                | 0, h =>
                  have h' := boolW_t h; clear h; obtain ⟨ha, hin, hz⟩ := h'
                  have ha := Nat.eq_of_beq_eq_true ha
                  subst ha
                  exact s_ist F (hqn2 (fun e => by rw [e] at hak; cases hak)) hak hin hH hS hd (fun H1 locs1 hH1 hS1 => hk _ _ _ hz hls hst2 H1 locs1 lsA hH1 hS1 hloc)
                | 1, h =>
                  have h' := boolW_t h; clear h; obtain ⟨ha, hin, hv, hz⟩ := h'
                  have ha := Nat.eq_of_beq_eq_true ha
                  subst ha
                  exact s_zst F (hqn2 (fun e => by rw [e] at hak; cases hak)) hak hin hv hH hS hd (fun H1 locs1 hH1 hS1 => hk _ _ _ hz hls hst2 H1 locs1 lsA hH1 hS1 hloc)
                | 2, h =>
                  have h' := boolW_t h; clear h; obtain ⟨ha, hin, hv, hz⟩ := h'
                  have ha := Nat.eq_of_beq_eq_true ha
                  subst ha
                  exact s_bst F (hqn2 (fun e => by rw [e] at hak; cases hak)) hak hin hv hH hS hd (fun H1 locs1 hH1 hS1 => hk _ _ _ hz hls hst2 H1 locs1 lsA hH1 hS1 hloc)
                | w + 3, h => exact (h : False).elim
  | 13, hdec, hmore, hk, h =>
    have hd := hdec.resolve_left (by decide)
    have hmore : (decide ((o, a, b, (if d = 2 then 1 else 0)) ∈ mlT) && (decide (cs = [((mRow b).2.2.2.2.2.1, (mRow b).2.2.2.2.1)]) && (decide ((mRow b).2.2.2.2.2.2 = decide (¬ d = 0)) && decide (b ∉ initL)))) = true := hmore
    rw [Bool.and_eq_true, Bool.and_eq_true, Bool.and_eq_true] at hmore
    have hml := of_decide_eq_true hmore.1
    have hcs1 := of_decide_eq_true hmore.2.1
    have hsta := of_decide_eq_true hmore.2.2.1
    have hni := of_decide_eq_true hmore.2.2.2
    have hd' : decode cc pc = .ok (if d = 0 then Instr.invokevirtual a else Instr.invokestatic a, 3) := by
      match d, hd with
      | 0, hd => exact hd
      | n + 1, hd => exact hd
    have hnx : nextPc (pc, (13, a, b, d), c0, cs) = pc + 3 := by
      match d with
      | 0 => rfl
      | n + 1 => rfl
    obtain ⟨as, st', e2, e3, hlen, hc, hrv⟩ := inv_split (call := call) (b := b) (d := d) (st := st) (z := z) (kk := fun st s => k es ls st s) h hcs1
    have hokt : ∀ v ∈ as, okV v := fun v hv => hst v (by rw [e2]; exact List.mem_append_left _ (List.mem_reverse.mpr hv))
    have hoks : ∀ v ∈ st', okV v := fun v hv => hst v (by rw [e2]; exact List.mem_append_right _ hv)
    obtain ⟨f, hf1, hf2, hM⟩ := hcall b as z _ hc hokt e3 (mlT_lt _ hml)
    rw [e2]
    refine s_call F hml hni hsta e3 (fun e => ?_) hM hf1 hf2 hcs hlen hH hS hsz hd' (fun r z' H1 locs1 hq hH1 hS1 => ?_)
    · obtain ⟨i, as', e4⟩ := hrv e
      have h11 := virt_lt 0 hml (by rw [hsta, e])
      refine ⟨i, as', e4, h11, ?_⟩
      rw [e4] at hokt
      exact okR_obj (okV_head hokt) (Nat.lt_trans h11 (by decide))
    · rw [← hnx]
      cases r with
      | none => exact hk _ _ _ hq hls hoks H1 locs1 lsA hH1 hS1 hloc
      | some x => exact hk _ _ _ hq hls (okV_cons (v := .inl x) trivial hoks) H1 locs1 lsA hH1 hS1 hloc
  | 14, hdec, hmore, hk, h =>
    have hd := hdec.resolve_left (by decide)
    match a, hd, h with
    | 0, hd, h =>
      cases st with
      | nil => exact (h : False).elim
      | cons v st => cases v with
        | inr r => cases st <;> exact (h : False).elim
        | inl x => cases st with
          | cons v2 st => exact (h : False).elim
          | nil => exact hR0 _ _ _ _ _ _ h hH hS hd
    | n + 1, hd, h =>
      cases st with
      | cons v2 st => exact (h : False).elim
      | nil =>
        obtain ⟨hr, h⟩ := boolW_t h
        exact hR1 _ _ _ _ _ (Nat.eq_of_beq_eq_true hr) h hH hS hd
  | 15, hdec, hmore, hk, h =>
    have hd := hdec.resolve_left (by decide)
    cases st with
    | nil => exact (h : False).elim
    | cons v st => exact lv_dup hx hb hd (trv_cat ad v) (hk _ _ _ h hls (okV_cons (okV_head hst) hst) H locs lsA hH hS hloc)
  | 16, hdec, hmore, hk, h =>
    have hd := hdec.resolve_left (by decide)
    cases st with
    | nil => exact (h : False).elim
    | cons v st => cases st with
      | nil => exact (h : False).elim
      | cons w st => exact lv_dup2_11 hx hb hd (trv_cat ad v) (trv_cat ad w) (hk _ _ _ h hls (okV_cons (okV_head hst) (okV_cons (okV_head (okV_tail hst)) hst)) H locs lsA hH hS hloc)
  | 17, hdec, hmore, hk, h =>
    have hd := hdec.resolve_left (by decide)
    cases st with
    | nil => exact (h : False).elim
    | cons v st => cases v with
      | inr r => exact (h : False).elim
      | inl x => exact lv_i2b hx hb hd rfl (hk _ _ _ h hls (okV_cons trivial (okV_tail hst)) H locs lsA hH hS hloc)
  | 18, hdec, hmore, hk, h =>
    have hd := hdec.resolve_left (by decide)
    cases st with
    | nil => exact (h : False).elim
    | cons v st => cases v with
      | inr r => exact (h : False).elim
      | inl x => exact s_switch (k := fun t => j t ls st z) F hmore hd h (fun t ht => hj _ _ _ _ ht hls (okV_tail hst) H locs lsA hH hS hloc)
  | 19, hdec, hmore, hk, h =>
    have hd := hdec.resolve_left (by decide)
    cases st with
    | nil => exact (h : False).elim
    | cons v st => cases v with
      | inl r => exact (h : False).elim
      | inr r =>
        obtain ⟨q, n⟩ := r
        have h' := boolW_t h; clear h; obtain ⟨hq, hz⟩ := h'
        have hq := Nat.eq_of_beq_eq_true hq
        subst hq
        have hn : n = 0 := by
          rcases okV_head hst with h9 | h9
          · exact absurd h9 (Nat.not_lt_zero n)
          · exact congrArg Prod.snd h9
        subst hn
        exact s_slen F hS hd (hk _ _ _ hz hls (okV_cons trivial (okV_tail hst)) H locs lsA hH hS hloc)
  | 20, hdec, hmore, hk, h =>
    have hd := hdec.resolve_left (by decide)
    have ho : (o, a) = (7, 22) := of_decide_eq_true hmore
    have ho1 : o = 7 := congrArg Prod.fst ho
    have ho2 : a = 22 := congrArg Prod.snd ho
    subst ho1; subst ho2
    cases st with
    | nil => exact (h : False).elim
    | cons v1 st => cases v1 with
      | inr r => exact (h : False).elim
      | inl y => cases st with
        | nil => exact (h : False).elim
        | cons v2 st => cases v2 with
          | inr r => exact (h : False).elim
          | inl x =>
            obtain ⟨hlen, h⟩ := boolW_t h
            have hlen := Nat.le_of_ble_eq_true hlen
            exact va_mmin hx hb (by rw [hmlc, hsz]) hown (hT.use mmin_ok.1) (hT.use mmin_ok.2.1) (hT.use mmin_ok.2.2.1) (hT.use mmin_ok.2.2.2) hmin.1 (by rw [cat_sum]; have := hmin.2; omega) hcs.1 hcs.2 hd (hk _ _ _ h hls (okV_cons trivial (okV_tail (okV_tail hst))) H locs lsA hH hS hloc)
  | n + 21, _, _, _, h => exact (h : False).elim
end SM
