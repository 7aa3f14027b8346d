/-! a whole step -/
theorem Int32_ofInt_toInt (x : Int32) : Int32.ofInt x.toInt = x := Int32.ofInt_toInt x
section SW
variable {p : Program} {l : Launch} {e : Env} {R : Room} {s : State} {m : MethodId} {args : Array Value} {below : List Frame} {meth : Method} {c : Code} {cells slots : Nat} {QM : State → Prop}
variable {D : va_G} {cA : Nat → ClassId} {ad : Nat × Nat → Nat} {A : Nat → Prop} {L : Nat} {xs : Nat → Int32} {cc : ByteArray} {o nL : Nat} {pc : Nat} {lsA : Array Slot} {H : Heap} {locs : List Loc} {z : St} {rest : List Value} {st : List MV} {ls : List MV}
theorem s_load (F : FrOk p s m args meth c D cA ad A L xs cc o nL) {a b : Nat} {v : MV} (hm : (match b with | 0 => decide (a < 4) | 1 => true | 2 => decide (a < 4) | _ => true) = true) (hd : decode cc pc = .ok (instrOf (pc, (2, a, b, 0), 0, []))) (hl : locOk ad nL lsA ls) (hv : getL ls a = some v) (hi : (b = 0 ∨ b = 1) → ∃ x, v = .inl x) (hr : ¬ (b = 0 ∨ b = 1) → ∃ r, v = .inr r)
    (kk : W p l e R s m args below meth c H locs cells slots QM (F0 m (nextPc (pc, (2, a, b, 0), 0, [])) lsA (trv ad v :: rest))) : W p l e R s m args below meth c H locs cells slots QM (F0 m pc lsA rest) := by
  obtain ⟨hx, hb, -⟩ := id F
  have hg := loc_get hl hv
  match b, hm, hd, hi, hr, kk with
  | 0, hm, hd, hi, _, kk =>
    obtain ⟨x, rfl⟩ := hi (Or.inl rfl)
    exact lv_iload_n hx hb hd (Nat.mod_eq_of_lt (of_decide_eq_true hm)) hg kk
  | 1, hm, hd, hi, _, kk =>
    obtain ⟨x, rfl⟩ := hi (Or.inr rfl)
    exact lv_iload hx hb hd hg kk
  | 2, hm, hd, _, hr, kk =>
    obtain ⟨x, rfl⟩ := hr (by omega)
    exact lv_aload_n hx hb hd (Nat.mod_eq_of_lt (of_decide_eq_true hm)) hg kk
  | n + 3, hm, hd, _, hr, kk =>
    obtain ⟨x, rfl⟩ := hr (by omega)
    exact lv_aload hx hb hd hg kk
theorem s_store (F : FrOk p s m args meth c D cA ad A L xs cc o nL) {a b : Nat} {v : MV} (ha : a < nL) (hm : (match b with | 0 => decide (a < 4) | 1 => true | 2 => decide (a < 4) | _ => true) = true) (hd : decode cc pc = .ok (instrOf (pc, (3, a, b, 0), 0, []))) (hl : locOk ad nL lsA ls) (hlen : a ≤ ls.length) (hi : (b = 0 ∨ b = 1) → ∃ x, v = .inl x) (hr : ¬ (b = 0 ∨ b = 1) → ∃ r, v = .inr r)
    (kk : ∀ lsB, locOk ad nL lsB (setL ls a v) → W p l e R s m args below meth c H locs cells slots QM (F0 m (nextPc (pc, (3, a, b, 0), 0, [])) lsB rest)) : W p l e R s m args below meth c H locs cells slots QM (F0 m pc lsA (trv ad v :: rest)) := by
  obtain ⟨hx, hb, -⟩ := id F
  match b, hm, hd, hi, hr, kk with
  | 0, hm, hd, hi, _, kk =>
    obtain ⟨x, rfl⟩ := hi (Or.inl rfl)
    exact lv_istore_n hx hb hd (Nat.mod_eq_of_lt (of_decide_eq_true hm)) hl.1 ha rfl (fun lsB hB => kk lsB (loc_set hl ha hlen _ rfl hB))
  | 1, hm, hd, hi, _, kk =>
    obtain ⟨x, rfl⟩ := hi (Or.inr rfl)
    exact lv_istore hx hb hd hl.1 ha rfl (fun lsB hB => kk lsB (loc_set hl ha hlen _ rfl hB))
  | 2, hm, hd, _, hr, kk =>
    obtain ⟨x, rfl⟩ := hr (by omega)
    exact lv_astore_n hx hb hd (Nat.mod_eq_of_lt (of_decide_eq_true hm)) hl.1 ha rfl (fun lsB hB => kk lsB (loc_set hl ha hlen _ rfl hB))
  | n + 3, hm, hd, _, hr, kk =>
    obtain ⟨x, rfl⟩ := hr (by omega)
    exact lv_astore hx hb hd hl.1 ha rfl (fun lsB hB => kk lsB (loc_set hl ha hlen _ rfl hB))
theorem s_bin (F : FrOk p s m args meth c D cA ad A L xs cc o nL) {a : Nat} {x y : Int32} {k : Int32 → Prop} (hd : decode cc pc = .ok (instrOf (pc, (4, a, 0, 0), 0, []))) (h : binW a x y k)
    (kk : ∀ v, k v → W p l e R s m args below meth c H locs cells slots QM (F0 m (nextPc (pc, (4, a, 0, 0), 0, [])) lsA (.int v :: rest))) : W p l e R s m args below meth c H locs cells slots QM (F0 m pc lsA (.int y :: .int x :: rest)) := by
  obtain ⟨hx, hb, -⟩ := id F
  match a, hd, h, kk with
  | 0, hd, h, kk => exact lv_iadd hx hb hd (kk _ h)
  | 1, hd, h, kk => exact lv_isub hx hb hd (kk _ h)
  | 2, hd, h, kk => exact lv_imul hx hb hd (kk _ h)
  | 3, hd, h, kk => exact lv_idiv hx hb hd h.1 (kk _ h.2)
  | 4, hd, h, kk => exact lv_irem hx hb hd h.1 (kk _ h.2)
  | 5, hd, h, kk => exact lv_iand hx hb hd (kk _ h)
  | 6, hd, h, kk => exact lv_iushr hx hb hd rfl (kk _ h)
  | 7, hd, h, kk => exact lv_ixor hx hb hd (kk _ h)
  | 8, hd, h, kk => exact lv_ishr hx hb hd (kk _ h)
  | n + 9, hd, h, kk => exact lv_ishl hx hb hd (kk _ h)
theorem toInt_lt {x y : Int32} : x < y ↔ x.toInt < y.toInt := Int32.lt_iff_toInt_lt
theorem toInt_le {x y : Int32} : x ≤ y ↔ x.toInt ≤ y.toInt := Int32.le_iff_toInt_le
theorem s_if (F : FrOk p s m args meth c D cA ad A L xs cc o nL) {a b : Nat} {x : Int32} (hb6 : b < 6) (hd : decode cc pc = .ok (.ifCond (cndOf b) ((a : Int) - (pc : Int)), 3))
    (kf : cmpF b x 0 → W p l e R s m args below meth c H locs cells slots QM (F0 m (pc + 3) lsA rest)) (kt : cmpT b x 0 → W p l e R s m args below meth c H locs cells slots QM (F0 m a lsA rest)) : W p l e R s m args below meth c H locs cells slots QM (F0 m pc lsA (.int x :: rest)) := by
  obtain ⟨hx, hb, -⟩ := id F
  match b, hb6, hd, kf, kt with
  | 0, _, hd, kf, kt => exact lv_if_eq hx hb hd int_tgt (fun h => kt h) (fun h => kf h)
  | 1, _, hd, kf, kt => exact lv_if_ne hx hb hd int_tgt (fun h => kt h) (fun h => kf h)
  | 2, _, hd, kf, kt => exact lv_if_lt hx hb hd int_tgt (fun h => kt (toInt_lt.mp h)) (fun h => kf (Int.not_lt.mp fun q => h (toInt_lt.mpr q)))
  | 3, _, hd, kf, kt => exact lv_if_ge hx hb hd int_tgt (fun h => kt (toInt_le.mp h)) (fun h => kf (Int.not_le.mp fun q => h (toInt_le.mpr q)))
  | 4, _, hd, kf, kt => exact lv_if_gt hx hb hd int_tgt (fun h => kt (toInt_lt.mp h)) (fun h => kf (Int.not_lt.mp fun q => h (toInt_lt.mpr q)))
  | 5, _, hd, kf, kt => exact lv_if_le hx hb hd int_tgt (fun h => kt (toInt_le.mp h)) (fun h => kf (Int.not_le.mp fun q => h (toInt_le.mpr q)))
theorem s_icmp (F : FrOk p s m args meth c D cA ad A L xs cc o nL) {a b : Nat} {x y : Int32} (hb6 : b < 6) (hd : decode cc pc = .ok (.if_icmp (cndOf b) ((a : Int) - (pc : Int)), 3))
    (kf : cmpF b x y → W p l e R s m args below meth c H locs cells slots QM (F0 m (pc + 3) lsA rest)) (kt : cmpT b x y → W p l e R s m args below meth c H locs cells slots QM (F0 m a lsA rest)) : W p l e R s m args below meth c H locs cells slots QM (F0 m pc lsA (.int y :: .int x :: rest)) := by
  obtain ⟨hx, hb, -⟩ := id F
  match b, hb6, hd, kf, kt with
  | 0, _, hd, kf, kt => exact lv_icmp_eq hx hb hd int_tgt (fun h => kt h) (fun h => kf h)
  | 1, _, hd, kf, kt => exact lv_icmp_ne hx hb hd int_tgt (fun h => kt h) (fun h => kf h)
  | 2, _, hd, kf, kt => exact lv_icmp_lt hx hb hd int_tgt (fun h => kt (toInt_lt.mp h)) (fun h => kf (Int.not_lt.mp fun q => h (toInt_lt.mpr q)))
  | 3, _, hd, kf, kt => exact lv_icmp_ge hx hb hd int_tgt (fun h => kt (toInt_le.mp h)) (fun h => kf (Int.not_le.mp fun q => h (toInt_le.mpr q)))
  | 4, _, hd, kf, kt => exact lv_icmp_gt hx hb hd int_tgt (fun h => kt (toInt_lt.mp h)) (fun h => kf (Int.not_lt.mp fun q => h (toInt_lt.mpr q)))
  | 5, _, hd, kf, kt => exact lv_icmp_le hx hb hd int_tgt (fun h => kt (toInt_le.mp h)) (fun h => kf (Int.not_le.mp fun q => h (toInt_le.mpr q)))
end SW
/-! switches -/
theorem ofNat_toInt {n : Nat} (h : n < 1000) : (Int32.ofNat n).toInt = (n : Int) := nI_toInt (by omega)
theorem swW_mem {x : Int32} {k : Nat → Prop} {d : Nat} : ∀ {cs : List (Nat × Nat)}, swW x k d cs → (∃ q ∈ cs, x = Int32.ofNat q.1 ∧ k q.2) ∨ ((∀ q ∈ cs, ¬ x = Int32.ofNat q.1) ∧ k d)
  | [], h => Or.inr ⟨fun q hq => (List.not_mem_nil hq).elim, h⟩
  | (v, t) :: cs, h => by
    by_cases hx : x = Int32.ofNat v
    · exact Or.inl ⟨(v, t), List.mem_cons_self, hx, h.1 hx⟩
    · rcases swW_mem (h.2 hx) with ⟨q, hq, h1⟩ | ⟨h1, h2⟩
      · exact Or.inl ⟨q, List.mem_cons_of_mem _ hq, h1⟩
      · refine Or.inr ⟨fun q hq => ?_, h2⟩
        rcases List.mem_cons.mp hq with rfl | hq
        · exact hx
        · exact h1 q hq
theorem sw_look {x : Int32} {k : Nat → Prop} {d pc : Nat} : ∀ {cs : List (Nat × Nat)}, swW x k d cs → (∀ q ∈ cs, q.1 < 1000) → ∃ t : Nat, Op.lookupswitch.offset (cs.map fun q => ((q.1 : Int), (q.2 : Int) - (pc : Int))) ((d : Int) - (pc : Int)) x.toInt = (t : Int) - (pc : Int) ∧ k t
  | [], h, _ => ⟨d, rfl, h⟩
  | (v, t) :: cs, h, hs => by
    by_cases hx : x = Int32.ofNat v
    · refine ⟨t, ?_, h.1 hx⟩
      rw [List.map_cons, Op.lookupswitch.offset_cons, if_pos]
      rw [hx]
      exact (ofNat_toInt (hs _ List.mem_cons_self)).symm
    · obtain ⟨t', h1, h2⟩ := sw_look (pc := pc) (h.2 hx) (fun q hq => hs q (List.mem_cons_of_mem _ hq))
      refine ⟨t', ?_, h2⟩
      rw [List.map_cons, Op.lookupswitch.offset_cons, if_neg]
      · exact h1
      · intro q
        apply hx
        apply Int32.toInt_inj.mp
        rw [ofNat_toInt (hs _ List.mem_cons_self)]
        exact q.symm
theorem sw_tab {x : Int32} {k : Nat → Prop} {d pc lo : Nat} {cs : List (Nat × Nat)} (h : swW x k d cs) (hs : ∀ q ∈ cs, q.1 < 1000) (hc : cs.map (fun q => q.1) = List.range' lo cs.length) :
    (∃ t : Nat, k t ∧ (lo : Int) ≤ x.toInt ∧ x.toInt < (lo : Int) + (cs.length : Int) ∧ (cs.map fun q => (q.2 : Int) - (pc : Int)).toArray[(x.toInt - (lo : Int)).toNat]? = some ((t : Int) - (pc : Int))) ∨ (k d ∧ (x.toInt < (lo : Int) ∨ (lo : Int) + (cs.length : Int) ≤ x.toInt)) := by
  have at' : ∀ (i : Nat) (q : Nat × Nat), cs[i]? = some q → q.1 = lo + i := by
    intro i q hq
    have h1 : (cs.map (fun q => q.1))[i]? = some q.1 := by rw [List.getElem?_map, hq]; rfl
    have hl : i < cs.length := (List.getElem?_eq_some_iff.mp hq).1
    rw [hc, List.getElem?_range' hl] at h1
    have := Option.some.inj h1
    omega
  rcases swW_mem h with ⟨q, hq, h1, h2⟩ | ⟨h1, h2⟩
  · left
    obtain ⟨i, hi⟩ := List.getElem?_of_mem hq
    have e1 := at' i q hi
    have e2 : x.toInt = (q.1 : Int) := by rw [h1]; exact ofNat_toInt (hs q hq)
    have hl : i < cs.length := (List.getElem?_eq_some_iff.mp hi).1
    refine ⟨q.2, h2, by omega, by omega, ?_⟩
    have e3 : (x.toInt - (lo : Int)).toNat = i := by omega
    rw [e3, List.getElem?_toArray, List.getElem?_map, hi]
    rfl
  · right
    refine ⟨h2, ?_⟩
    apply Classical.byContradiction
    intro hn
    have g1 : (lo : Int) ≤ x.toInt := by omega
    have g2 : x.toInt < (lo : Int) + (cs.length : Int) := by omega
    have hi : (x.toInt - (lo : Int)).toNat < cs.length := by omega
    have e1 := at' _ _ (List.getElem?_eq_getElem hi)
    have hm : cs[(x.toInt - (lo : Int)).toNat] ∈ cs := List.getElem_mem hi
    apply h1 _ hm
    apply Int32.toInt_inj.mp
    rw [ofNat_toInt (hs _ hm)]
    omega
section SX
variable {p : Program} {l : Launch} {e : Env} {R : Room} {s : State} {m : MethodId} {args : Array Value} {below : List Frame} {meth : Method} {c : Code} {cells slots : Nat} {QM : State → Prop}
variable {D : va_G} {cA : Nat → ClassId} {ad : Nat × Nat → Nat} {A : Nat → Prop} {L : Nat} {xs : Nat → Int32} {cc : ByteArray} {o nL : Nat} {pc : Nat} {lsA : Array Slot} {H : Heap} {locs : List Loc} {z : St} {rest : List Value} {st : List MV} {ls : List MV}
theorem last_range {cs : List (Nat × Nat)} {lo : Nat} (hc : cs.map (fun q => q.1) = List.range' lo cs.length) (hne : cs ≠ []) : ((cs.getLast?).getD (0, 0)).1 + 1 = lo + cs.length := by
  have hl : 0 < cs.length := List.length_pos_iff.mpr hne
  rw [List.getLast?_eq_getElem?]
  have hi : cs.length - 1 < cs.length := by omega
  have h1 : (cs.map (fun q => q.1))[cs.length - 1]? = some (cs[cs.length - 1]).1 := by rw [List.getElem?_map, List.getElem?_eq_getElem hi]; rfl
  rw [hc, List.getElem?_range' hi] at h1
  have := Option.some.inj h1
  rw [List.getElem?_eq_getElem hi]
  simp only [Option.getD_some]
  omega
theorem s_switch (F : FrOk p s m args meth c D cA ad A L xs cc o nL) {a b d : Nat} {cs : List (Nat × Nat)} {x : Int32} {k : Nat → Prop} (hm : moreOk o nL (pc, (18, a, b, d), 0, cs) = true) (hd : decode cc pc = .ok (instrOf (pc, (18, a, b, d), 0, cs))) (h : swW x k a cs)
    (kk : ∀ t, k t → W p l e R s m args below meth c H locs cells slots QM (F0 m t lsA rest)) : W p l e R s m args below meth c H locs cells slots QM (F0 m pc lsA (.int x :: rest)) := by
  obtain ⟨hx, hb, -⟩ := id F
  match d, hm, hd with
  | 0, hm, hd =>
    have hm : ((decide (cs.map (fun q => q.1) = (List.range' (cs.head?.getD (0, 0)).1 cs.length)) && decide (cs ≠ [])) && cs.all (fun q => decide (q.1 < 1000))) = true := hm
    rw [Bool.and_eq_true, Bool.and_eq_true, decide_eq_true_eq, decide_eq_true_eq, List.all_eq_true] at hm
    obtain ⟨⟨h1, h2⟩, h3⟩ := hm
    have h3 : ∀ q ∈ cs, q.1 < 1000 := fun q hq => of_decide_eq_true (h3 q hq)
    have hlast := last_range h1 h2
    rcases sw_tab (pc := pc) h h3 h1 with ⟨t, g1, g2, g3, g4⟩ | ⟨g1, g2⟩
    · exact lv_tableIn hx hb hd (by omega) (by omega) g4 int_tgt (kk t g1)
    · exact lv_tableOut hx hb hd (by omega) int_tgt (kk a g1)
  | n + 1, hm, hd =>
    have hm : (((cs.map fun q => ((q.1 : Int), (q.2 : Int) - (pc : Int))).zip ((cs.map fun q => ((q.1 : Int), (q.2 : Int) - (pc : Int))).drop 1)).all (fun (a, next) => a.1 < next.1) && cs.all (fun q => decide (q.1 < 1000))) = true := hm
    rw [Bool.and_eq_true] at hm
    have h3 : ∀ q ∈ cs, q.1 < 1000 := fun q hq => of_decide_eq_true (List.all_eq_true.mp hm.2 q hq)
    obtain ⟨t, g1, g2⟩ := sw_look (pc := pc) h h3
    exact lv_lookup hx hb hd hm.1 g1 int_tgt (kk t g2)
end SX
