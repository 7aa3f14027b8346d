/-! THE REFERENCE: server, share, map -/
section REF17
variable {L : Nat} {xs : Nat → Int32} {f i k r q c j n B b w : Nat} {x y v a z l name flow place : Int32} {s : St} {F G F' : Fm} {Q : Option MV → St → Prop} {p : Nat → Bool}
theorem ofN (m : Nat) : Int32.ofNat m = nI m := by unfold nI; rfl
theorem iN_of {a : Int32} {j n : Nat} (hq : a = Int32.ofNat j) (hj : j < n) (hn : n < 1000) : iN a n := by
  rw [hq, ofN]
  exact iN_k hj hn
end REF17
