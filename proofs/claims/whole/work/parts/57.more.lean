theorem tr_tso {x : Int32} {lo hi : Int} (h : ∀ k : Int, lo ≤ k → k ≤ hi → ¬ x = Int32.ofInt k) : x.toInt < lo ∨ hi < x.toInt := by
  rcases Int.lt_or_le x.toInt lo with h1 | h1
  · exact Or.inl h1
  · rcases Int.lt_or_le hi x.toInt with h2 | h2
    · exact Or.inr h2
    · exact absurd (Int32.ofInt_toInt x).symm (h _ h1 h2)
theorem tr_lso2 {x : Int32} {k1 k2 : Int32} {o1 o2 df : Int} (h1 : ¬ x = k1) (h2 : ¬ x = k2) : Op.lookupswitch.offset (#[(k1.toInt, o1), (k2.toInt, o2)] : Array (Int × Int)).toList df x.toInt = df := by
  show (if k1.toInt = x.toInt then o1 else if k2.toInt = x.toInt then o2 else df) = df
  rw [if_neg (fun h => h1 (Int32.toInt_inj.mp h.symm)), if_neg (fun h => h2 (Int32.toInt_inj.mp h.symm))]
