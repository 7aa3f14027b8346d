/-! arrays -/
theorem vp_of_inA {i : Int32} {n : Nat} (h : inA i n) : vp_in i n := by
  obtain ⟨h1, h2⟩ := h
  rintro (q | q)
  · rw [Int32.lt_iff_toInt_lt, Int32.toInt_zero] at q
    omega
  · have e : i.toNatClampNeg = i.toInt.toNat := rfl
    omega
theorem inA_lt {i : Int32} {n : Nat} (h : inA i n) : i.toNatClampNeg < n := Nat.not_le.mp fun q => vp_of_inA h (Or.inr q)
theorem ak_ge {q : Nat} (h : akind q < 9) : ¬ q < 11 := by
  intro hq
  have : ∀ q, q < 11 → akind q = 9 := by decide
  have := this q hq
  omega
theorem cell_arr {cA : Nat → ClassId} {ad : Nat × Nat → Nat} {z : St} {q n : Nat} (h : akind q < 3) : cellD cA ad z (q, n) = .inl (cA (atyK q), alen q, .inl (z.1 q n)) := by
  unfold cellD
  have h1 : ¬ q < 10 := fun e => ak_ge (q := q) (by omega) (by omega)
  have h2 : ¬ akind q = 3 := by omega
  rw [if_neg h1, if_neg h2]
theorem cell_refs {cA : Nat → ClassId} {ad : Nat × Nat → Nat} {z : St} {q n : Nat} (h : akind q = 3) : cellD cA ad z (q, n) = .inl (cA (atyK q), alen q, .inr (.inr (.inr (.inr (fun j => some (ad (el z.2 q n j))))))) := by
  unfold cellD
  have h1 : ¬ q < 10 := fun e => ak_ge (q := q) (by omega) (by omega)
  rw [if_neg h1, if_pos h]
theorem ak_cases {q : Nat} (h : akind q < 9) : 11 ≤ q ∧ q < 24 := by
  rcases Nat.lt_or_ge q 24 with a | a
  · have := ak_ge h
    omega
  · exfalso
    have : akind q = 9 := by unfold akind; split <;> first | rfl | omega
    omega
theorem aty0 : ∀ q, q < 24 → akind q = 0 → atyK q = 0 := by decide
theorem aty1 : ∀ q, q < 24 → akind q = 1 → atyK q = 1 := by decide
theorem aty2 : ∀ q, q < 24 → akind q = 2 → atyK q = 2 := by decide
theorem aty3 : ∀ q, q < 24 → akind q = 3 → 3 ≤ atyK q ∧ atyK q < 8 := by decide
theorem tys3 {cA : Nat → ClassId} : ∀ t, 3 ≤ t → t < 8 → ∃ C, (tysA cA)[t]? = some (cA t, .object C) := by
  intro t h1 h2
  match t, h1, h2 with
  | 3, _, _ => exact ⟨_, rfl⟩
  | 4, _, _ => exact ⟨_, rfl⟩
  | 5, _, _ => exact ⟨_, rfl⟩
  | 6, _, _ => exact ⟨_, rfl⟩
  | 7, _, _ => exact ⟨_, rfl⟩
section SA
variable {p : Program} {l : Launch} {e : Env} {R : Room} {s : State} {m : MethodId} {args : Array Value} {below : List Frame} {meth : Method} {c : Code} {cells slots : Nat} {QM : State → Prop}
variable {D : va_G} {cA : Nat → ClassId} {ad : Nat × Nat → Nat} {A : Nat → Prop} {L : Nat} {xs : Nat → Int32} {cc : ByteArray} {o nL : Nat} {rest : List Value} {pc : Nat} {lsA : Array Slot} {H : Heap} {locs : List Loc} {z : St}
theorem s_ild (F : FrOk p s m args meth c D cA ad A L xs cc o nL) {q n : Nat} {i : Int32} (hq : n < cntK q) (hk : akind q = 0) (hin : inA i (alen q)) (hH : Hp D cA ad z H) (hd : decode cc pc = .ok (.iaload, 1))
    (kk : W p l e R s m args below meth c H locs cells slots QM (F0 m (pc + 1) lsA (.int (z.1 q n i.toNatClampNeg) :: rest))) : W p l e R s m args below meth c H locs cells slots QM (F0 m pc lsA (.int i :: .ref (ad (q, n)) :: rest)) := by
  obtain ⟨hx, hb, hml, hown, hlk, hT, hK, hA, hX⟩ := id F
  obtain ⟨k, hk1⟩ := smW_get (cA := cA) (ad := ad) z (r := (q, n)) hq
  rw [cell_arr (by omega), aty0 q (ak_cases (by omega)).2 hk] at hk1
  exact va_iald (D := D) (cl := vwCl) hx hb hK hH.1 k 0 hk1 rfl (vp_of_inA hin) hd kk
theorem s_zld (F : FrOk p s m args meth c D cA ad A L xs cc o nL) {q n : Nat} {i : Int32} (hq : n < cntK q) (hk : akind q = 1) (hin : inA i (alen q)) (hH : Hp D cA ad z H) (hd : decode cc pc = .ok (.baload, 1))
    (kk : W p l e R s m args below meth c H locs cells slots QM (F0 m (pc + 1) lsA (.int (z.1 q n i.toNatClampNeg) :: rest))) : W p l e R s m args below meth c H locs cells slots QM (F0 m pc lsA (.int i :: .ref (ad (q, n)) :: rest)) := by
  obtain ⟨hx, hb, hml, hown, hlk, hT, hK, hA, hX⟩ := id F
  obtain ⟨k, hk1⟩ := smW_get (cA := cA) (ad := ad) z (r := (q, n)) hq
  rw [cell_arr (by omega), aty1 q (ak_cases (by omega)).2 hk] at hk1
  exact va_zald (D := D) (cl := vwCl) hx hb hK hH.1 k 1 hk1 rfl (vp_of_inA hin) hd kk
theorem s_bld (F : FrOk p s m args meth c D cA ad A L xs cc o nL) {q n : Nat} {i : Int32} (hq : n < cntK q) (hk : akind q = 2) (hin : inA i (alen q)) (hH : Hp D cA ad z H) (hd : decode cc pc = .ok (.baload, 1))
    (kk : W p l e R s m args below meth c H locs cells slots QM (F0 m (pc + 1) lsA (.int (z.1 q n i.toNatClampNeg) :: rest))) : W p l e R s m args below meth c H locs cells slots QM (F0 m pc lsA (.int i :: .ref (ad (q, n)) :: rest)) := by
  obtain ⟨hx, hb, hml, hown, hlk, hT, hK, hA, hX⟩ := id F
  obtain ⟨k, hk1⟩ := smW_get (cA := cA) (ad := ad) z (r := (q, n)) hq
  rw [cell_arr (by omega), aty2 q (ak_cases (by omega)).2 hk] at hk1
  exact va_bald (D := D) (cl := vwCl) hx hb hK hH.1 k 2 hk1 rfl (vp_of_inA hin) hd kk
theorem s_qld (F : FrOk p s m args meth c D cA ad A L xs cc o nL) {q n : Nat} {i : Int32} (hq : n < cntK q) (hk : akind q = 3) (hin : inA i (alen q)) (hH : Hp D cA ad z H) (hd : decode cc pc = .ok (.aaload, 1))
    (kk : W p l e R s m args below meth c H locs cells slots QM (F0 m (pc + 1) lsA (.ref (ad (el z.2 q n i.toNatClampNeg)) :: rest))) : W p l e R s m args below meth c H locs cells slots QM (F0 m pc lsA (.int i :: .ref (ad (q, n)) :: rest)) := by
  obtain ⟨hx, hb, hml, hown, hlk, hT, hK, hA, hX⟩ := id F
  obtain ⟨k, hk1⟩ := smW_get (cA := cA) (ad := ad) z (r := (q, n)) hq
  rw [cell_refs hk] at hk1
  obtain ⟨t1, t2⟩ := aty3 q (ak_cases (by omega)).2 hk
  obtain ⟨C, hC⟩ := tys3 (cA := cA) _ t1 t2
  exact va_aldq (D := D) (cl := vwCl) hx hb hK hH.1 k (atyK q) hk1 hC (vp_of_inA hin) hd kk
theorem cell_putA {q n k : Nat} {x : Int32} (h : akind q < 3) : cellD cA ad (putV z q n k x) (q, n) = .inl (cA (atyK q), alen q, .inl (upd (z.1 q n) k x)) := by
  rw [cell_arr h]
  congr 4
  funext d
  by_cases hd : d = k <;> simp [putV, upd, hd]
theorem s_ist (F : FrOk p s m args meth c D cA ad A L xs cc o nL) {q n : Nat} {i x : Int32} (hq : n < cntK q) (hk : akind q = 0) (hin : inA i (alen q)) (hH : Hp D cA ad z H) (hS : va_S A s.heap H locs) (hd : decode cc pc = .ok (.iastore, 1))
    (kk : ∀ (H1 : Heap) (locs1 : List Loc), Hp D cA ad (putV z q n i.toNatClampNeg x) H1 → va_S A s.heap H1 locs1 → W p l e R s m args below meth c H1 locs1 cells slots QM (F0 m (pc + 1) lsA rest)) : W p l e R s m args below meth c H locs cells slots QM (F0 m pc lsA (.int x :: .int i :: .ref (ad (q, n)) :: rest)) := by
  obtain ⟨hx, hb, hml, hown, hlk, hT, hK, hA, hX⟩ := id F
  obtain ⟨k, hk1⟩ := smW_get (cA := cA) (ad := ad) z (r := (q, n)) hq
  have hk0 := hk1
  have e0 := aty0 q (ak_cases (by omega)).2 hk
  rw [cell_arr (by omega), e0] at hk1
  refine va_iast (D := D) (cl := vwCl) hx hb hK hH.1 (smW_D hA z) hS k 0 hk1 rfl (vp_of_inA hin) hd (fun H1 locs1 hP hD hS1 => ?_)
  refine kk H1 locs1 ⟨?_, hH.2⟩ hS1
  rw [← smW_set hA hk0 hq (cell_putA (by omega)) (fun r' hr => cell_putV_ne r' hr), e0]
  exact hP
theorem s_zst (F : FrOk p s m args meth c D cA ad A L xs cc o nL) {q n : Nat} {i x : Int32} (hq : n < cntK q) (hk : akind q = 1) (hin : inA i (alen q)) (hv : x = 0 ∨ x = 1) (hH : Hp D cA ad z H) (hS : va_S A s.heap H locs) (hd : decode cc pc = .ok (.bastore, 1))
    (kk : ∀ (H1 : Heap) (locs1 : List Loc), Hp D cA ad (putV z q n i.toNatClampNeg x) H1 → va_S A s.heap H1 locs1 → W p l e R s m args below meth c H1 locs1 cells slots QM (F0 m (pc + 1) lsA rest)) : W p l e R s m args below meth c H locs cells slots QM (F0 m pc lsA (.int x :: .int i :: .ref (ad (q, n)) :: rest)) := by
  obtain ⟨hx, hb, hml, hown, hlk, hT, hK, hA, hX⟩ := id F
  obtain ⟨k, hk1⟩ := smW_get (cA := cA) (ad := ad) z (r := (q, n)) hq
  have hk0 := hk1
  have e0 := aty1 q (ak_cases (by omega)).2 hk
  rw [cell_arr (by omega), e0] at hk1
  have hn : vp_nar .boolean x = x := by rcases hv with rfl | rfl <;> decide
  refine va_zast (D := D) (cl := vwCl) hx hb hK hH.1 (smW_D hA z) hS k 1 hk1 rfl (vp_of_inA hin) hd (fun H1 locs1 hP hD hS1 => ?_)
  refine kk H1 locs1 ⟨?_, hH.2⟩ hS1
  rw [hn] at hP
  rw [← smW_set hA hk0 hq (cell_putA (by omega)) (fun r' hr => cell_putV_ne r' hr), e0]
  exact hP
theorem s_bst (F : FrOk p s m args meth c D cA ad A L xs cc o nL) {q n : Nat} {i x : Int32} (hq : n < cntK q) (hk : akind q = 2) (hin : inA i (alen q)) (hv : x.toInt8.toInt32 = x) (hH : Hp D cA ad z H) (hS : va_S A s.heap H locs) (hd : decode cc pc = .ok (.bastore, 1))
    (kk : ∀ (H1 : Heap) (locs1 : List Loc), Hp D cA ad (putV z q n i.toNatClampNeg x) H1 → va_S A s.heap H1 locs1 → W p l e R s m args below meth c H1 locs1 cells slots QM (F0 m (pc + 1) lsA rest)) : W p l e R s m args below meth c H locs cells slots QM (F0 m pc lsA (.int x :: .int i :: .ref (ad (q, n)) :: rest)) := by
  obtain ⟨hx, hb, hml, hown, hlk, hT, hK, hA, hX⟩ := id F
  obtain ⟨k, hk1⟩ := smW_get (cA := cA) (ad := ad) z (r := (q, n)) hq
  have hk0 := hk1
  have e0 := aty2 q (ak_cases (by omega)).2 hk
  rw [cell_arr (by omega), e0] at hk1
  have hn : vp_nar .byte x = x := hv
  refine va_bast (D := D) (cl := vwCl) hx hb hK hH.1 (smW_D hA z) hS k 2 hk1 rfl (vp_of_inA hin) hd (fun H1 locs1 hP hD hS1 => ?_)
  refine kk H1 locs1 ⟨?_, hH.2⟩ hS1
  rw [hn] at hP
  rw [← smW_set hA hk0 hq (cell_putA (by omega)) (fun r' hr => cell_putV_ne r' hr), e0]
  exact hP
theorem el_putP {n k y c i j : Nat} (h : (c, i) ≠ (14, n)) : el (putP z n k y).2 c i j = el z.2 c i j := by
  unfold el putP
  split <;> first
    | rfl
    | (rename_i e; have : ¬ i = n := fun q => h (by rw [q]); simp [this])
theorem cell_putP_ne {n k y : Nat} (r' : Nat × Nat) (h : r' ≠ (14, n)) : cellD cA ad (putP z n k y) r' = cellD cA ad z r' := by
  obtain ⟨c', i'⟩ := r'
  have e2 : (putP z n k y).1 = z.1 := rfl
  have e3 : (fun k' => trv ad (fv (putP z n k y) c' i' k')) = (fun k' => trv ad (fv z c' i' k')) := by
    funext k'
    unfold fv
    rw [e2]
  have e4 : (fun j => some (ad (el (putP z n k y).2 c' i' j))) = (fun j => some (ad (el z.2 c' i' j))) := by
    funext j
    rw [el_putP h]
  unfold cellD
  simp only [e2, e3, e4]
theorem s_qst (F : FrOk p s m args meth c D cA ad A L xs cc o nL) {n y : Nat} {i : Int32} (hq : n < 40) (hy : y < 200) (hin : inA i 5) (hH : Hp D cA ad z H) (hS : va_S A s.heap H locs) (hd : decode cc pc = .ok (.aastore, 1))
    (kk : ∀ (H1 : Heap) (locs1 : List Loc), Hp D cA ad (putP z n i.toNatClampNeg y) H1 → va_S A s.heap H1 locs1 → W p l e R s m args below meth c H1 locs1 cells slots QM (F0 m (pc + 1) lsA rest)) : W p l e R s m args below meth c H locs cells slots QM (F0 m pc lsA (.ref (ad (2, y)) :: .int i :: .ref (ad (14, n)) :: rest)) := by
  obtain ⟨hx, hb, hml, hown, hlk, hT, hK, hA, hX⟩ := id F
  obtain ⟨k, hk1⟩ := smW_get (cA := cA) (ad := ad) z (r := (14, n)) hq
  obtain ⟨k2, hk2⟩ := smW_get (cA := cA) (ad := ad) z (r := (2, y)) hy
  have hk0 := hk1
  rw [cell_refs rfl] at hk1
  rw [cell_obj (by decide)] at hk2
  refine va_astq (D := D) (cl := vwCl) (ci := 2) (r := (RX2, TX2, 6)) hx hb hK hH.1 (smW_D hA z) hS k 6 k2 hk1 rfl hk2 rfl (vp_of_inA hin) hd (fun H1 locs1 hP hD hS1 => ?_)
  refine kk H1 locs1 ⟨?_, fun i' j' h1 h2 => ?_⟩ hS1
  · rw [← smW_set (z' := putP z n i.toNatClampNeg y) hA hk0 hq (e := _) ?_ (fun r' hr => cell_putP_ne r' hr)]
    · exact hP
    · rw [cell_refs rfl]
      congr 7
      funext j
      by_cases hj : j = i.toNatClampNeg
      · subst hj; simp [el, putP, va_up]
      · simp [el, putP, va_up, hj]
  · show (if i' = n ∧ j' = i.toNatClampNeg then y else z.2 i' j') < 200
    split
    · exact hy
    · exact hH.2 i' j' h1 h2
theorem s_sld (F : FrOk p s m args meth c D cA ad A L xs cc o nL) {i : Int32} (hin : inA i L) (hS : va_S A s.heap H locs) (hd : decode cc pc = .ok (.iaload, 1))
    (kk : W p l e R s m args below meth c H locs cells slots QM (F0 m (pc + 1) lsA (.int (xs i.toNatClampNeg) :: rest))) : W p l e R s m args below meth c H locs cells slots QM (F0 m pc lsA (.int i :: .ref (ad (24, 0)) :: rest)) := by
  obtain ⟨hx, hb, hml, hown, hlk, hT, hK, hA, hX, hbl, hbA⟩ := id F
  exact va_sld hx hb hX hbl hbA hS (vp_of_inA hin) hd kk
theorem s_slen (F : FrOk p s m args meth c D cA ad A L xs cc o nL) (hS : va_S A s.heap H locs) (hd : decode cc pc = .ok (.arraylength, 1))
    (kk : W p l e R s m args below meth c H locs cells slots QM (F0 m (pc + 1) lsA (.int (Int32.ofNat L) :: rest))) : W p l e R s m args below meth c H locs cells slots QM (F0 m pc lsA (.ref (ad (24, 0)) :: rest)) := by
  obtain ⟨hx, hb, hml, hown, hlk, hT, hK, hA, hX, hbl, hbA⟩ := id F
  exact va_slen hx hb hX hbl hbA hS hd kk
end SA
