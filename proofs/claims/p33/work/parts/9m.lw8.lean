section LW8
variable {L : Nat} {xs : Nat → Int32} {f n B r : Nat} {name flow : Int32} {s : St} {F G : Fm} {QL : Option LV → St → Prop}
theorem w_isSent (hI : IV s F G n B) (hB : 1 ≤ B) (hB2 : B < 999990) (hr2 : r < 1000) (hn : iN name 256) (hf : iN flow 100) (h : ∀ s' G' n', IV s' F G' n' (B + 1) → QL (some (.inl (.inl (nI 1)))) s') : wpL L xs codT colT retT (f + 9) m_L_isSent [.inl (.inr (9, 0)), .inl (.inl (nI r)), .inl (.inl name), .inl (.inl flow)] s QL := by
  sorry
end LW8
