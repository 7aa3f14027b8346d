/-! THE MAKING: methods -/
section MK4
variable {p : Program} {l : Launch} {e : Env} {R : Room} {s : State} {m : MethodId} {args : Array Value} {below : List Frame} {meth : Method} {c : Code} {QM : State → Prop}
variable {D : va_G} {cA : Nat → ClassId} {A : Nat → Prop} {cc : ByteArray} {o nL N0 : Nat} {ini : Bool}
theorem cgo_sound (F : FrI p s m args meth c D cA A cc o nL N0 ini) {call : Nat → List MV → List CE → Nat → Option (List CE)} {mc ms n0 : Nat} {σ' τ : List CE}
    (hcall : ∀ b as σ n σ2, call b as σ n = some σ2 → ∃ f, f + 1 ≤ R.frames ∧ 38 * f + 38 ≤ R.locals ∧ MetI l D cA A N0 f b as n (σ ++ τ) (σ2 ++ τ))
    (hR : ∀ H locs lsA pc, HpK D cA N0 (n0 + mc) (σ' ++ τ) H → va_S A s.heap H locs → decode cc pc = .ok (.return_, 1) → W p l e R s m args below meth c H locs mc ms QM (F0 m pc lsA []))
    (hmin : 1 ≤ R.frames ∧ 21 ≤ R.locals) (hmc : mc ≤ R.cells ∧ ms ≤ R.slots) {code : List Ent} (hall : code.all (entOk o nL cc) = true) (hch : chainOk code = true) :
    ∀ (n : Nat) (es : List Ent), (∃ pre, code = pre ++ es) → ∀ (ls st : List MV) (σ : List CE) (ce sl : Nat), cgo call o ini mc ms n0 code n es ls st σ ce sl = some σ' → ce ≤ mc ∧ sl ≤ ms → ∀ pc, (∀ e ∈ es.head?, e.1 = pc) → XwK p l e R s m args below meth c QM D cA A τ nL N0 n0 pc ls st σ ce sl := by
  intro n
  induction n with
  | zero => intro es _ ls st σ ce sl h; exact no_some h
  | succ n ih =>
    intro es hs ls st σ ce sl h hcs pc hpc
    have h : stepC call o ini mc ms n0 (cgo call o ini mc ms n0 code n) (fun t ls st σ ce sl => cgo call o ini mc ms n0 code n (fromPc code t) ls st σ ce sl) es ls st σ ce sl = some σ' := h
    match es, hs, hpc, h with
    | [], _, _, h => exact no_some h
    | (pc0, (op, a, b, d), c0, cs) :: es, ⟨pre, hp⟩, hpc, h =>
      have e1 : pc0 = pc := hpc _ rfl
      subst e1
      refine stepC_sound F hcall hR hmin hmc pc0 op a b d c0 cs es ls st σ ce sl ?_ hcs (fun ls st σ ce sl hk hcs => ?_) (fun t ls st σ ce sl hj hcs => ?_) h
      · exact List.all_eq_true.mp hall _ (by rw [hp]; exact List.mem_append_right _ List.mem_cons_self)
      · refine ih es ⟨pre ++ [(pc0, (op, a, b, d), c0, cs)], by rw [hp]; simp⟩ ls st σ ce sl hk hcs _ (fun f hf => ?_)
        match es, hf, hp with
        | f' :: es, hf, hp =>
          have : f = f' := by
            simp only [List.head?_cons, Option.mem_def, Option.some.injEq] at hf
            exact hf.symm
          rw [this]
          rw [hp] at hch
          exact chain_suf hch
      · obtain ⟨h1, h2⟩ := fromPc_spec code t
        exact ih _ h1 ls st σ ce sl hj hcs t h2
end MK4
set_option maxRecDepth 100000 in
theorem init_nm : ∀ b ∈ initL, (mRow b).1.name = "<init>" := by decide +kernel
/-- a method's run over calls that are sound is sound -/
theorem run_sound {l : Launch} {D : va_G} {cA : Nat → ClassId} {A : Nat → Prop} {N0 f : Nat} {τ : List CE} (hA : ∀ q, N0 ≤ q → A q) {call : Nat → List MV → List CE → Nat → Option (List CE)}
    (hcall : ∀ b as σ n σ2, call b as σ n = some σ2 → ∃ f', f' ≤ f ∧ MetI l D cA A N0 f' b as n (σ ++ τ) (σ2 ++ τ)) {fu b n : Nat} {as : List MV} {σ σ' : List CE} (hlen : as.length = (mRow b).2.2.2.2.2.1) (hb123 : b < 123) (hret : retT b = 2)
    (h : cgo call (mRow b).2.2.2.2.1 (decide (b ∈ initL)) (mcT b).1 (mcT b).2 n (codT b) fu (codT b) as [] σ 0 0 = some σ') : MetI l D cA A N0 (f + 1) b as n (σ ++ τ) (σ' ++ τ) := by
  obtain ⟨k1, k2, k3, k4, k5, k6⟩ := mh_all _ (mRow_mem (m := b) (by omega))
  obtain ⟨d1, d2, d3, e0, es0, d4, d5⟩ := md_all b hb123
  have hnl := nargs_le _ (mRow_mem (m := b) (by omega))
  have hrn : (mRow b).2.2.2.1 = none := by
    rw [hret] at d3
    match hrt : (mRow b).2.2.2.1 with
    | none => rfl
    | some t => rw [hrt] at d3; exact absurd d3 (by cases t <;> (intro q; cases q))
  refine va_MetF (cc := (mRow b).2.1) (maxL := (mRow b).2.2.1) (ret := (mRow b).2.2.2.1) k3 rfl ?_
  intro p e s m args below meth c s₁ B hml hv
  obtain ⟨rfl, hH, hK, hT, hAk⟩ := hv
  have hx := B.exec
  have hbt := B.bytes
  have hr := B.returns
  have hlocks := B.notSynchronized
  have hown : s.vm.findClass (cnm (mRow b).2.2.2.2.1) = some m.cls := by rw [k4]; exact findClass_of_methodNamed B.named
  have hnm : meth.name = (mRow b).1.name := (name_of_methodNamed B.named B.method).1
  have F : FrI p s m (as.map (trv (adK N0))).toArray meth c D cA A (mRow b).2.1 (mRow b).2.2.2.2.1 (mRow b).2.2.1 N0 (decide (b ∈ initL)) := ⟨hx, hbt, hml, hown, hlocks, hT, hK, hAk, hA, fun hi => hnm.trans (init_nm b (of_decide_eq_true hi))⟩
  have hcat := trv_cats (adK N0) as
  have hll : (lg_sl (as.map (trv (adK N0)))).length ≤ (mRow b).2.2.1 := by rw [lg_sl_len _ hcat, List.length_map]; omega
  have hl := lv_entry (as.map (trv (adK N0))) (n := (mRow b).2.2.1) hll
  rw [lv_args_enum _ _ hcat] at hl
  rw [lg_entry_eq]
  refine cgo_sound (R := ({ frames := f + 1, cells := (mcT b).1, slots := (mcT b).2, locals := 38 * (f + 1) } : Room)) (QM := MQ below (va_Qv (fun _ : Unit => True) (fun _ t => RepI D cA N0 (n + (mcT b).1) (σ' ++ τ) t) A) (as.map (trv (adK N0))).toArray s (mcT b).1 (mcT b).2 A) F (fun b' as' σ2 n2 σ3 hc => by
    obtain ⟨f', h1, h2⟩ := hcall b' as' σ2 n2 σ3 hc
    exact ⟨f', Nat.succ_le_succ h1, (by show 38 * f' + 38 ≤ 38 * (f + 1); omega), h2⟩) (fun H locs lsA pc hH' hS' hd => ?_) ⟨?_, ?_⟩ ⟨Nat.le_refl _, Nat.le_refl _⟩ d1 d2 fu (codT b) ⟨[], rfl⟩ as [] σ 0 0 h ⟨Nat.zero_le _, Nat.zero_le _⟩ 0 ?_ s.heap [] _ hH va_S.rf ⟨hl, by omega⟩
  · exact W.vret hx hbt (hr.trans hrn) (fun t ht hW => ⟨⟨(), rfl, trivial, RepI.at F hH' t ht hW⟩, hS'.F ht⟩) hS'.2.2 hd
  · show 1 ≤ f + 1
    omega
  · show 21 ≤ 38 * (f + 1)
    omega
  · intro e1 he1
    rw [d4] at he1
    have : e0 = e1 := by
      simp only [List.head?_cons, Option.mem_def, Option.some.injEq] at he1
      exact he1
    rw [← this]
    exact d5
theorem cex_sound {l : Launch} {D : va_G} {cA : Nat → ClassId} {A : Nat → Prop} {N0 : Nat} {τ : List CE} (hA : ∀ q, N0 ≤ q → A q) :
    ∀ (f b : Nat) (as : List MV) (σ : List CE) (n : Nat) (σ' : List CE), cex f b as σ n = some σ' → MetI l D cA A N0 f b as n (σ ++ τ) (σ' ++ τ) := by
  intro f
  induction f with
  | zero => intro b as σ n σ' h; exact no_some h
  | succ f ih =>
    intro b as σ n σ' h
    replace h := ite_some h
    obtain ⟨⟨hlen, hb123, hret⟩, h⟩ := h
    obtain ⟨fu, h⟩ : ∃ fu, cgo (cex f) (mRow b).2.2.2.2.1 (decide (b ∈ initL)) (mcT b).1 (mcT b).2 n (codT b) fu (codT b) as [] σ 0 0 = some σ' := ⟨_, h⟩
    exact run_sound hA (fun b as σ n σ2 hc => ⟨f, Nat.le_refl _, ih b as σ n σ2 hc⟩) hlen hb123 hret h
