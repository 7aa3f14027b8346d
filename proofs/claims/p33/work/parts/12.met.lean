/-! stretches, bodies, methods -/
theorem fromPc_spec : ∀ (code : List Ent) (t : Nat), (∃ pre, code = pre ++ fromPc code t) ∧ ∀ e ∈ (fromPc code t).head?, e.1 = t
  | [], t => ⟨⟨[], rfl⟩, fun e h => by cases h⟩
  | e :: es, t => by
    show (∃ pre, e :: es = pre ++ (match Nat.beq e.1 t with | true => e :: es | false => fromPc es t)) ∧ ∀ e' ∈ (match Nat.beq e.1 t with | true => e :: es | false => fromPc es t).head?, e'.1 = t
    cases h : Nat.beq e.1 t with
    | true =>
      refine ⟨⟨[], rfl⟩, fun e' he => ?_⟩
      have : e' = e := by
        simp only [List.head?_cons, Option.mem_def, Option.some.injEq] at he
        exact he.symm
      rw [this]
      exact Nat.eq_of_beq_eq_true h
    | false =>
      obtain ⟨⟨pre, h1⟩, h2⟩ := fromPc_spec es t
      refine ⟨⟨e :: pre, ?_⟩, h2⟩
      rw [List.cons_append]
      exact congrArg (e :: ·) h1
theorem chain_suf : ∀ {pre : List Ent} {e f : Ent} {es : List Ent}, chainOk (pre ++ e :: f :: es) = true → f.1 = nextPc e
  | [], e, f, es, h => by
    have h : ((f.1 == nextPc e) && chainOk (f :: es)) = true := h
    rw [Bool.and_eq_true] at h
    exact of_decide_eq_true (by simpa using h.1)
  | [g], e, f, es, h => by
    have h : ((e.1 == nextPc g) && chainOk (e :: f :: es)) = true := h
    rw [Bool.and_eq_true] at h
    exact chain_suf (pre := []) h.2
  | g :: g2 :: pre, e, f, es, h => by
    have h : ((g2.1 == nextPc g) && chainOk (g2 :: (pre ++ e :: f :: es))) = true := h
    rw [Bool.and_eq_true] at h
    exact chain_suf (pre := g2 :: pre) h.2
theorem behind_spec {code es : List Ent} {t : Nat} (hc : chainOk code = true) (hs : ∃ pre, code = pre ++ es) (hh : ∀ e ∈ es.head?, e.1 = t) : (∃ pre, code = pre ++ behind es) ∧ ∀ e ∈ (behind es).head?, e.1 = t := by
  match es, hs, hh with
  | [], hs, hh => exact ⟨hs, hh⟩
  | (pc, (0, a), c) :: es, ⟨pre, hp⟩, hh =>
    refine ⟨⟨pre ++ [(pc, (0, a), c)], by rw [hp]; simp [behind]⟩, fun e he => ?_⟩
    have hpc : pc = t := hh _ rfl
    match es, he, hp with
    | f :: es, he, hp =>
      have : e = f := by
        simp only [behind, List.head?_cons, Option.mem_def, Option.some.injEq] at he
        exact he.symm
      rw [this]
      rw [hp] at hc
      have := chain_suf hc
      rw [this, ← hpc]
      rfl
  | (pc, (n + 1, a), c) :: es, hs, hh => exact ⟨hs, hh⟩
theorem lv_args_enum : ∀ (vs : List Value) (k : Nat), (∀ v ∈ vs, v.category = 1) → lv_args k vs = enumL k vs
  | [], k, _ => rfl
  | v :: vs, k, h => by
    have h1 : v.category = 1 := h v List.mem_cons_self
    show (k, v) :: lv_args (if v.category = 2 then k + 2 else k + 1) vs = (k, v) :: enumL (k + 1) vs
    rw [if_neg (by rw [h1]; decide), lv_args_enum vs (k + 1) (fun w hw => h w (List.mem_cons_of_mem _ hw))]
theorem lg_sl_len : ∀ (vs : List Value), (∀ v ∈ vs, v.category = 1) → (lg_sl vs).length = vs.length
  | [], _ => rfl
  | v :: vs, h => by
    have h1 : v.category = 1 := h v List.mem_cons_self
    have ih := lg_sl_len vs (fun w hw => h w (List.mem_cons_of_mem _ hw))
    unfold lg_sl at ih ⊢
    rw [List.flatMap_cons, List.length_append, ih, if_neg (by rw [h1]; decide)]
    simp only [List.length_cons, List.length_nil]
    omega
theorem trv_cats (ad : Nat × Nat → Nat) (as : List MV) : ∀ v ∈ as.map (trv ad), v.category = 1 := fun v hv => by
  obtain ⟨w, -, rfl⟩ := List.mem_map.mp hv
  exact trv_cat ad w
section SN
variable {p : Program} {l : Launch} {e : Env} {R : Room} {s : State} {m : MethodId} {args : Array Value} {below : List Frame} {meth : Method} {c : Code} {cells slots : Nat} {QM : State → Prop}
variable {D : va_G} {cA : Nat → ClassId} {ad : Nat × Nat → Nat} {A : Nat → Prop} {L : Nat} {xs : Nat → Int32} {cc : ByteArray} {o nL : Nat}
theorem wp_sound (F : FrOk p s m args meth c D cA ad A L xs cc o nL) {call : Nat → List MV → St → (Option MV → St → Prop) → Prop} {ret : Nat} {Q : Option MV → St → Prop} {X : Nat → List MV → List MV → St → Prop}
    (hcall : ∀ b as z Q', call b as z Q' → (∀ v ∈ as, okV v) → as.length = (mRow b).2.2.2.2.2.1 → b < 123 → ∃ f, f + 1 ≤ R.frames ∧ 38 * f + 38 ≤ R.locals ∧ MetC l D cA ad A L xs f b as z Q')
    (hR0 : ∀ v z H locs lsA pc, retW ret v (Q (some (.inl v)) z) → Hp D cA ad z H → va_S A s.heap H locs → decode cc pc = .ok (.ireturn, 1) → W p l e R s m args below meth c H locs cells slots QM (F0 m pc lsA [.int v]))
    (hR1 : ∀ z H locs lsA pc, ret = 2 → Q none z → Hp D cA ad z H → va_S A s.heap H locs → decode cc pc = .ok (.return_, 1) → W p l e R s m args below meth c H locs cells slots QM (F0 m pc lsA []))
    (hmin : 1 ≤ R.frames ∧ 21 ≤ R.locals)
    (hXX : ∀ pc ls st z, X pc ls st z → XwP p l e R s m args below meth c cells slots QM D cA ad A nL pc ls st z) (hcs : cells ≤ R.cells ∧ slots ≤ R.slots)
    {code : List Ent} (hall : code.all (entOk o nL cc) = true) (hch : chainOk code = true) :
    ∀ (n : Nat) (es : List Ent), (∃ pre, code = pre ++ es) → ∀ (ls st : List MV) (z : St), wp call L xs ret Q X code n es ls st z → ∀ pc, (∀ e ∈ es.head?, e.1 = pc) → XwP p l e R s m args below meth c cells slots QM D cA ad A nL pc ls st z := by
  intro n
  induction n with
  | zero => intro es _ ls st z h; exact (h : False).elim
  | succ n ih =>
    intro es hs ls st z h pc hpc
    have h : stepW call L xs ret Q X (wp call L xs ret Q X code n) (fun t ls st s => wp call L xs ret Q X code n (fromPc code t) ls st s) es ls st z := h
    match es, hs, hpc, h with
    | [], _, _, h => exact (h : False).elim
    | (pc0, (op, a, b, d), c0, cs) :: es, ⟨pre, hp⟩, hpc, h =>
      have e1 : pc0 = pc := hpc _ rfl
      subst e1
      refine step_sound F hcall hR0 hR1 hmin hXX hcs pc0 op a b d c0 cs es ls st z ?_ (fun ls st z hk => ?_) (fun t ls st z hj => ?_) h
      · exact List.all_eq_true.mp hall _ (by rw [hp]; exact List.mem_append_right _ List.mem_cons_self)
      · refine ih es ⟨pre ++ [(pc0, (op, a, b, d), c0, cs)], by rw [hp]; simp⟩ ls st z hk _ (fun f hf => ?_)
        match es, hf, hp with
        | f' :: es, hf, hp =>
          have : f = f' := by
            simp only [List.head?_cons, Option.mem_def, Option.some.injEq] at hf
            exact hf.symm
          rw [this]
          rw [hp] at hch
          exact chain_suf hch
      · obtain ⟨h1, h2⟩ := fromPc_spec code t
        exact ih _ h1 ls st z hj t h2
theorem body_sound (F : FrOk p s m args meth c D cA ad A L xs cc o nL) {call : Nat → List MV → St → (Option MV → St → Prop) → Prop} {ret : Nat} {Q : Option MV → St → Prop}
    (hcall : ∀ b as z Q', call b as z Q' → (∀ v ∈ as, okV v) → as.length = (mRow b).2.2.2.2.2.1 → b < 123 → ∃ f, f + 1 ≤ R.frames ∧ 38 * f + 38 ≤ R.locals ∧ MetC l D cA ad A L xs f b as z Q')
    (hR0 : ∀ v z H locs lsA pc, retW ret v (Q (some (.inl v)) z) → Hp D cA ad z H → va_S A s.heap H locs → decode cc pc = .ok (.ireturn, 1) → W p l e R s m args below meth c H locs cells slots QM (F0 m pc lsA [.int v]))
    (hR1 : ∀ z H locs lsA pc, ret = 2 → Q none z → Hp D cA ad z H → va_S A s.heap H locs → decode cc pc = .ok (.return_, 1) → W p l e R s m args below meth c H locs cells slots QM (F0 m pc lsA []))
    (hmin : 1 ≤ R.frames ∧ 21 ≤ R.locals) (hcs : cells ≤ R.cells ∧ slots ≤ R.slots)
    {code : List Ent} (hall : code.all (entOk o nL cc) = true) (hch : chainOk code = true) {pc : Nat} {ls st : List MV} {z : St} (h : bodyW call L xs ret Q code pc ls st z) :
    XwP p l e R s m args below meth c cells slots QM D cA ad A nL pc ls st z := by
  refine h (XwP p l e R s m args below meth c cells slots QM D cA ad A nL) (fun n pc ls st z hw => ?_)
  obtain ⟨h1, h2⟩ := fromPc_spec code pc
  obtain ⟨h3, h4⟩ := behind_spec hch h1 h2
  exact wp_sound F hcall hR0 hR1 hmin (fun _ _ _ _ q => q) hcs hall hch n _ h3 ls st z hw pc h4
end SN
theorem nargs_le : ∀ r ∈ mTab, r.2.2.2.2.2.1 ≤ r.2.2.1 := by decide +kernel
theorem mRow_mem {m : Nat} (h : m < 128) : mRow m ∈ mTab := by
  have h : m < mTab.length := h
  unfold mRow
  rw [List.getD_eq_getElem?_getD, List.getElem?_eq_getElem h]
  exact List.getElem_mem h
/-- EVERY METHOD of the small machine is one of the machine -/
theorem wpM_sound {l : Launch} {D : va_G} {cA : Nat → ClassId} {ad : Nat × Nat → Nat} {A : Nat → Prop} {L : Nat} {xs : Nat → Int32} (hA : adOk ad A) (hbA : ¬ A (ad (24, 0))) :
    ∀ (f b : Nat) (as : List MV) (z : St) (Q : Option MV → St → Prop), wpM L xs codT retT f b as z Q → (∀ v ∈ as, okV v) → as.length = (mRow b).2.2.2.2.2.1 → b < 123 → MetC l D cA ad A L xs f b as z Q := by
  intro f
  induction f with
  | zero => intro b as z Q h; exact (h : False).elim
  | succ f ih =>
    intro b as z Q h hok hlen hb123
    obtain ⟨k1, k2, k3, k4, k5, k6⟩ := mh_all _ (mRow_mem (m := b) (by omega))
    obtain ⟨d1, d2, d3, -⟩ := md_all b hb123
    have hnl := nargs_le _ (mRow_mem (m := b) (by omega))
    refine va_MetF (cc := (mRow b).2.1) (maxL := (mRow b).2.2.1) (ret := (mRow b).2.2.2.1) k3 rfl ?_
    intro p e s m args below meth c s₁ B hml hv
    obtain ⟨rfl, hH, hK, hT, hX⟩ := hv
    have hx := B.exec
    have hbt := B.bytes
    have hr := B.returns
    have hlocks := B.notSynchronized
    have hown : s.vm.findClass (cnm (mRow b).2.2.2.2.1) = some m.cls := by rw [k4]; exact findClass_of_methodNamed B.named
    have hbl : ad (24, 0) < s.heap.size := by
      obtain ⟨scr, h1, -⟩ := hX
      exact (Array.getElem?_eq_some_iff.mp h1).1
    have F : FrOk p s m (as.map (trv ad)).toArray meth c D cA ad A L xs (mRow b).2.1 (mRow b).2.2.2.2.1 (mRow b).2.2.1 := ⟨hx, hbt, hml, hown, hlocks, hT, hK, hA, hX, hbl, hbA⟩
    have hcat := trv_cats ad as
    have hll : (lg_sl (as.map (trv ad))).length ≤ (mRow b).2.2.1 := by rw [lg_sl_len _ hcat, List.length_map]; omega
    have hl := lv_entry (as.map (trv ad)) (n := (mRow b).2.2.1) hll
    rw [lv_args_enum _ _ hcat] at hl
    rw [lg_entry_eq]
    have hbody := h (wpM L xs codT retT f) (fun _ _ _ _ q => q)
    refine body_sound (cells := 0) (slots := 0) (QM := MQ below (QcM D cA ad A L xs Q) (as.map (trv ad)).toArray s 0 0 A) F (fun b' as' z' Q' hc hok' hlen' hb' => ?_) (fun v z' H locs lsA pc hret hH' hS' hd => ?_) (fun z' H locs lsA pc hret hq hH' hS' hd => ?_) ⟨?_, ?_⟩ ⟨Nat.le_refl _, Nat.le_refl _⟩ d1 d2 hbody hok (fun v hv => by cases hv) s.heap [] _ hH va_S.rf ⟨hl, by omega⟩
    · refine ⟨f, Nat.le_refl _, ?_, ih b' as' z' Q' hc hok' hlen' hb'⟩
      show 38 * f + 38 ≤ 38 * (f + 1)
      omega
    · have hq : ∀ t : State, t.heap = H → s.WarmedH t.vm → Q (some (.inl v)) z' → QcM D cA ad A L xs Q (as.map (trv ad)).toArray s (.returned (some (.int v))) t := fun t ht hW hq => ⟨⟨some v, z', rfl, hq, rep_at F hH' hS' t ht hW⟩, hS'.F ht⟩
      rw [← d3] at hret
      match hrt : (mRow b).2.2.2.1, hret with
      | some .int, hret => exact W.iret hx hbt (hr.trans hrt) (fun t ht hW => hq t ht hW hret) hS'.2.2 hd
      | some .boolean, hret => exact W.zret hx hbt (hr.trans hrt) (by rcases hret.1 with q | q <;> rw [q] <;> rfl) (fun t ht hW => hq t ht hW hret.2) hS'.2.2 hd
      | none, hret => exact (hret : False).elim
      | some .byte, hret => exact (hret : False).elim
      | some .char, hret => exact (hret : False).elim
      | some .short, hret => exact (hret : False).elim
      | some .long, hret => exact (hret : False).elim
      | some .float, hret => exact (hret : False).elim
      | some .double, hret => exact (hret : False).elim
      | some (.object _), hret => exact (hret : False).elim
      | some (.array _), hret => exact (hret : False).elim
    · rw [← d3] at hret
      match hrt : (mRow b).2.2.2.1, hret with
      | none, _ => exact W.vret hx hbt (hr.trans hrt) (fun t ht hW => ⟨⟨none, z', rfl, hq, rep_at F hH' hS' t ht hW⟩, hS'.F ht⟩) hS'.2.2 hd
      | some t, hret => exact absurd hret (by cases t <;> (intro q; cases q))
    · show 1 ≤ f + 1
      omega
    · show 21 ≤ 38 * (f + 1)
      omega
