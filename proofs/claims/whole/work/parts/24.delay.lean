/-! a delay that spreads: what walks have to spare, and how late each is -/
def spq (n : Nat) (w : Nat → Int) (p : Int) (at_ : Nat) : Nat → Nat → Int
  | 0, v => if v = at_ then 0 else 1000000
  | r + 1, v => itr (fun i a => if spq n w p at_ r i ≠ 1000000 ∧ w (6 * i + v) ≠ -9 then min a (spq n w p at_ r i + spr n w p i v) else a) n 1000000
theorem spq_s (n : Nat) (w : Nat → Int) (p : Int) (at_ r v : Nat) : spq n w p at_ (r + 1) v = itr (fun i a => if spq n w p at_ r i ≠ 1000000 ∧ w (6 * i + v) ≠ -9 then min a (spq n w p at_ r i + spr n w p i v) else a) n 1000000 := rfl
def lat (n : Nat) (w : Nat → Int) (p : Int) (at_ : Nat) (d : Int) : Nat → Nat → Int
  | 0, v => if v = at_ then d else 0
  | r + 1, v => if v < n then itr (fun i a => max a (if w (6 * i + v) = -9 then 0 else lat n w p at_ d r i - spr n w p i v)) n 0 else 0
theorem lat_s (n : Nat) (w : Nat → Int) (p : Int) (at_ : Nat) (d : Int) (r v : Nat) : lat n w p at_ d (r + 1) v = if v < n then itr (fun i a => max a (if w (6 * i + v) = -9 then 0 else lat n w p at_ d r i - spr n w p i v)) n 0 else 0 := rfl
section DELAY
variable {n : Nat} {w : Nat → Int} {p : Int} {at_ : Nat} {d : Int}
theorem sprN (hw : okn n w) (hk : kept n w p) {i v : Nat} (hi : i < n) (hv : v < n) (he : w (6 * i + v) ≠ -9) : 0 ≤ spr n w p i v ∧ spr n w p i v ≤ 100 := spr_nn hw hk (by simp [eP, eB]; exact ⟨hi, hv, he⟩)
theorem spq_b (hw : okn n w) (hk : kept n w p) : ∀ r v, v < n → (spq n w p at_ r v = 1000000 ∨ (0 ≤ spq n w p at_ r v ∧ spq n w p at_ r v ≤ 100 * r)) := by
  intro r
  induction r with
  | zero => intro v _; unfold spq; split <;> omega
  | succ r ih =>
    intro v hv
    rw [spq_s]
    refine itr_ind (fun (_ : Nat) (a : Int) => a = 1000000 ∨ (0 ≤ a ∧ a ≤ 100 * (r + 1 : Nat))) n (Or.inl rfl) (fun i a hi ha => ?_)
    by_cases c : spq n w p at_ r i ≠ 1000000 ∧ w (6 * i + v) ≠ -9
    · rw [if_pos c]
      have h1 := ih i hi
      have h2 := sprN hw hk hi hv c.2
      omega
    · rw [if_neg c]
      exact ha
theorem lat_b (hw : okn n w) (hk : kept n w p) (hd : 0 ≤ d ∧ d ≤ 30) : ∀ r v, 0 ≤ lat n w p at_ d r v ∧ lat n w p at_ d r v ≤ 30 := by
  intro r
  induction r with
  | zero => intro v; unfold lat; split <;> omega
  | succ r ih =>
    intro v
    rw [lat_s]
    by_cases hv : v < n
    · rw [if_pos hv]
      refine itr_ind (fun (_ : Nat) (a : Int) => 0 ≤ a ∧ a ≤ 30) n (by omega) (fun i a hi ha => ?_)
      by_cases c : w (6 * i + v) = -9
      · rw [if_pos c]; omega
      · rw [if_neg c]
        have h1 := ih i
        have h2 := sprN hw hk hi hv c
        omega
    · rw [if_neg hv]; omega
/-- how late each is: the delay less what the best walk has to spare -/
theorem lat_spq (hw : okn n w) (hk : kept n w p) (hd : 0 ≤ d ∧ d ≤ 30) : ∀ r v, r ≤ 40 → v < n → lat n w p at_ d r v = max 0 (d - spq n w p at_ r v) := by
  intro r
  induction r with
  | zero =>
    intro v _ _
    unfold lat spq
    by_cases e : v = at_
    · rw [if_pos e, if_pos e]; omega
    · rw [if_neg e, if_neg e]; omega
  | succ r ih =>
    intro v hr hv
    rw [lat_s, spq_s, if_pos hv]
    -- both go through the waits side by side
    have key : ∀ m, m ≤ n → itr (fun i a => max a (if w (6 * i + v) = -9 then 0 else lat n w p at_ d r i - spr n w p i v)) m 0 = max 0 (d - itr (fun i a => if spq n w p at_ r i ≠ 1000000 ∧ w (6 * i + v) ≠ -9 then min a (spq n w p at_ r i + spr n w p i v) else a) m 1000000) := by
      intro m
      induction m with
      | zero => intro _; simp only [itr]; omega
      | succ m ihm =>
        intro hm
        simp only [itr]
        rw [ihm (by omega)]
        generalize itr (fun i a => if spq n w p at_ r i ≠ 1000000 ∧ w (6 * i + v) ≠ -9 then min a (spq n w p at_ r i + spr n w p i v) else a) m 1000000 = acc
        by_cases c : w (6 * m + v) = -9
        · rw [if_pos c, if_neg (fun q => q.2 c)]; omega
        · rw [if_neg c]
          have h1 := ih m (by omega) (by omega)
          have h2 := sprN hw hk (show m < n by omega) hv c
          rw [h1]
          by_cases c2 : spq n w p at_ r m = 1000000
          · rw [if_neg (fun q => q.1 c2), c2]; omega
          · rw [if_pos ⟨c2, c⟩]; omega
    exact key n (Nat.le_refl _)
end DELAY
