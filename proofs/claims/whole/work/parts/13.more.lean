def tr_b2 {α β γ : Type} (o : Option (α × β)) (f : α → β → Option γ) : Option γ := o.bind fun q => f q.1 q.2
theorem tr_okb2 {α β γ : Type} {o : Option (α × β)} {f : α → β → Option γ} {P : γ → Prop} (h : tr_ok (tr_b2 o f) P) : ∃ a b, o = some (a, b) ∧ tr_ok (f a b) P := by
  obtain ⟨c, hc, hP⟩ := h
  unfold tr_b2 at hc
  cases ho : o with
  | none => rw [ho] at hc; cases hc
  | some q => rw [ho] at hc; exact ⟨q.1, q.2, rfl, c, hc, hP⟩
theorem tr_tso {x : Int32} {lo hi : Int} (h : ∀ k : Int, lo ≤ k → k ≤ hi → ¬ x = Int32.ofInt k) : x.toInt < lo ∨ hi < x.toInt := by
  rcases Int.lt_or_le x.toInt lo with h1 | h1
  · exact Or.inl h1
  · rcases Int.lt_or_le hi x.toInt with h2 | h2
    · exact Or.inr h2
    · exact absurd (Int32.ofInt_toInt x).symm (h _ h1 h2)
theorem tr_lso2 {x : Int32} {k1 k2 : Int32} {o1 o2 df : Int} (h1 : ¬ x = k1) (h2 : ¬ x = k2) : Op.lookupswitch.offset (#[(k1.toInt, o1), (k2.toInt, o2)] : Array (Int × Int)).toList df x.toInt = df := by
  show (if k1.toInt = x.toInt then o1 else if k2.toInt = x.toInt then o2 else df) = df
  rw [if_neg (fun h => h1 (Int32.toInt_inj.mp h.symm)), if_neg (fun h => h2 (Int32.toInt_inj.mp h.symm))]
