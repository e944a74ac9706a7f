/-! the pace of some departures -/
def isPace (n : Nat) (w : Nat → Int) (som : Nat → Bool) (P : Int) : Prop :=
  (P = -1 ∧ ∀ x b, ring (eP (eB n w)) x b → ¬ ∀ y ∈ x :: b, som y = true) ∨
  (0 ≤ P ∧ P ≤ 540 ∧ (∀ x b, ring (eP (eB n w)) x b → (∀ y ∈ x :: b, som y = true) → 60 * wsm (wN w) x (b ++ [x]) ≤ P * (b.length + 1 : Nat)) ∧ ∃ x b, ring (eP (eB n w)) x b ∧ (∀ y ∈ x :: b, som y = true) ∧ 60 * wsm (wN w) x (b ++ [x]) = P * (b.length + 1 : Nat))
theorem isPace_one {n : Nat} {w : Nat → Int} {som : Nat → Bool} {P P' : Int} (h : isPace n w som P) (h' : isPace n w som P') : P = P' := by
  rcases h with ⟨h1, h2⟩ | ⟨h1, h2, h3, x, b, h4, h5, h6⟩
  · rcases h' with ⟨g1, g2⟩ | ⟨g1, g2, g3, y, c, g4, g5, g6⟩
    · omega
    · exact absurd g5 (h2 y c g4)
  · rcases h' with ⟨g1, g2⟩ | ⟨g1, g2, g3, y, c, g4, g5, g6⟩
    · exact absurd h5 (g2 x b h4)
    · have k1 := h3 y c g4 g5
      have k2 := g3 x b h4 h5
      rw [g6] at k1
      rw [h6] at k2
      have k3 : P' ≤ P := Int.le_of_mul_le_mul_right k1 (by omega)
      have k4 : P ≤ P' := Int.le_of_mul_le_mul_right k2 (by omega)
      omega
theorem pac_isPace {n : Nat} {w : Nat → Int} (hw : okn n w) {som : Nat → Bool} (hs : ∀ y, y < n → som y = true) : isPace n w som (pac n w) := by
  rcases pac_all hw with ⟨h1, h2⟩ | ⟨h1, h2, h3, x, b, h4, h5⟩
  · exact Or.inl ⟨h1, fun x b h => absurd h (h2 x b)⟩
  · have g := (mem_ringsL.mp h4).1
    exact Or.inr ⟨h1, h2, fun x b h _ => h3 x b h, x, b, g, fun y hy => hs y (ring_lt g y hy), h5⟩
/-- what the reference holds behind its look is the pace -/
theorem rF_pace {h : tr_H} {n : Nat} {w : Nat → Int} (hw : okn n w) {som : Nat → Bool} (hF : rF h w (ringsL (eB n w) n som)) : ∃ (P S B : Int), isPace n w som P ∧ h.1 0 18 = iI S ∧ h.1 0 19 = iI B ∧ ((P = -1 ∧ B = 0) ∨ (0 ≤ P ∧ P ≤ 540 ∧ 1 ≤ B ∧ B ≤ 6 ∧ 0 ≤ S ∧ S ≤ 60 ∧ 60 * S = P * B)) := by
  have h6 := hw.2.1
  obtain ⟨-, S, B, rwt, cw, cd, f2, f3, -, -, -, f7, -, f9⟩ := hF
  rcases f9 with ⟨g1, g2, -, -⟩ | ⟨g1, ⟨⟨x, b⟩, q1, q2, q3⟩, g3, -, -⟩
  · refine ⟨-1, S, B, Or.inl ⟨rfl, fun x b h1 h2 => ?_⟩, f2, f3, Or.inl ⟨rfl, g2⟩⟩
    obtain ⟨x', b', k1, -⟩ := ring_in (n := n) (som := som) h1 (fun y hy => ⟨ring_lt h1 y hy, h2 y hy⟩) (wN w)
    rw [g1] at k1
    cases k1
  · have r := mem_ringsL.mp q1
    obtain ⟨P, p1, p2, p3, x0, b0, p4, p5⟩ := ex_pace hw som ⟨x, b, r.1, fun y hy => (r.2 y hy).2.2⟩
    have r0 := mem_ringsL.mp p4
    have hl := ring_len r.1
    have hl0 := ring_len r0.1
    -- the best that is held has the greatest mean
    have k1 := g3 (x0, b0) p4
    have k2 := p3 x b r.1 (fun y hy => (r.2 y hy).2.2)
    have q2' : wsm (wN w) x (b ++ [x]) = S := q2
    have q3' : ((b.length + 1 : Nat) : Int) = B := q3
    rw [q2', q3'] at k2
    have k1' : wsm (wN w) x0 (b0 ++ [x0]) * B ≤ S * ((b0.length + 1 : Nat) : Int) := k1
    have hm : (0 : Int) < ((b0.length + 1 : Nat) : Int) := by omega
    have k3 : P * B ≤ 60 * S := by
      have e1 : P * ((b0.length + 1 : Nat) : Int) * B ≤ 60 * (S * ((b0.length + 1 : Nat) : Int)) := by
        rw [← p5, Int.mul_assoc]
        exact Int.mul_le_mul_of_nonneg_left k1' (by omega)
      have e2 : P * B * ((b0.length + 1 : Nat) : Int) ≤ 60 * S * ((b0.length + 1 : Nat) : Int) := by
        have a1 : P * B * ((b0.length + 1 : Nat) : Int) = P * ((b0.length + 1 : Nat) : Int) * B := by rw [Int.mul_assoc, Int.mul_comm B, ← Int.mul_assoc]
        rw [a1, Int.mul_assoc 60 S]
        exact e1
      exact Int.le_of_mul_le_mul_right e2 hm
    refine ⟨P, S, B, Or.inr ⟨p1, p2, p3, x0, b0, r0.1, fun y hy => (r0.2 y hy).2.2, p5⟩, f2, f3, Or.inr ⟨p1, p2, g1, f7.2.2.2, f7.1, f7.2.1, by omega⟩⟩
theorem B_mul {B : Int} (h1 : 1 ≤ B) (h2 : B ≤ 6) : 60 / B * B = 60 ∧ 10 ≤ 60 / B ∧ 60 / B ≤ 60 := by
  rcases (show B = 1 ∨ B = 2 ∨ B = 3 ∨ B = 4 ∨ B = 5 ∨ B = 6 by omega) with rfl | rfl | rfl | rfl | rfl | rfl <;> decide
theorem SB_pace {P S B : Int} (h1 : 1 ≤ B) (h2 : B ≤ 6) (h : 60 * S = P * B) : 60 / B * S = P := by
  have e := (B_mul h1 h2).1
  have k : 60 / B * S * B = P * B := by
    rw [Int.mul_assoc, Int.mul_comm S B, ← Int.mul_assoc, e]
    exact h
  exact Int.eq_of_mul_eq_mul_right (by omega) k
theorem r_sixt {p n mask : Nat} {w : Nat → Int} (hmask : mask < 64) {h : tr_H} (hP : tP h p n w) : ∃ (P : Int) (h' : tr_H), f_X8_sixtiethsOf p (iI mask) h = some (iI P, h') ∧ mR h h' ∧ isPace n w (fun k => mask.testBit k) P := by
  obtain ⟨h', k1, k2, k3⟩ := r_findRings hmask hP
  obtain ⟨P, S, B, g1, g2, g3, g4⟩ := rF_pace hP.2.1 k3
  refine ⟨P, h', ?_, k2, g1⟩
  unfold f_X8_sixtiethsOf
  rw [k1, tr_bn_some, g3, g2]
  rcases g4 with ⟨c1, c2⟩ | ⟨c1, c2, c3, c4, c5, c6, c7⟩
  · rw [c1, c2, if_pos (show iI 0 = 0 from rfl)]
    rfl
  · have e1 := SB_pace c3 c4 c7
    have e2 := iI_div (a := 60) (b := B) (by omega) (by omega) (by omega) (by omega)
    rw [if_neg (by rw [iI_0, iI_eq (by omega) (by omega) (by omega) (by omega)]; omega)]
    unfold tr_bd
    dsimp only
    rw [tr_nzI (by omega) (by omega) (by omega), iI_60, e2, iI_mul, e1]
theorem m63 : ∀ y : Nat, y < 6 → (63 : Nat).testBit y = true := by decide
theorem r_find {p n : Nat} {w : Nat → Int} {h : tr_H} (hP : tP h p n w) : ∃ (S B : Int) (h' : tr_H), f_X8_find p h = some h' ∧ mR h h' ∧ rF h' w (ringsL (eB n w) n (fun k => (63 : Nat).testBit k)) ∧ h'.1 0 18 = iI S ∧ h'.1 0 19 = iI B ∧ ((pac n w = -1 ∧ B = 0) ∨ (0 ≤ pac n w ∧ pac n w ≤ 540 ∧ 1 ≤ B ∧ B ≤ 6 ∧ 0 ≤ S ∧ S ≤ 60 ∧ 60 * S = pac n w * B)) := by
  have h6 := hP.2.1.2.1
  obtain ⟨h', k1, k2, k3⟩ := r_findRings (mask := 63) (by decide) hP
  obtain ⟨P, S, B, g1, g2, g3, g4⟩ := rF_pace hP.2.1 k3
  have e := isPace_one g1 (pac_isPace hP.2.1 (fun y hy => m63 y (by omega)))
  rw [e] at g4
  refine ⟨S, B, h', ?_, k2, k3, g2, g3, g4⟩
  unfold f_X8_find
  rw [show (63 : Int32) = iI (63 : Nat) from rfl, k1]
  rfl
theorem r_isPeriod {p n : Nat} {w : Nat → Int} {h : tr_H} (hP : tP h p n w) {d : Int} (d1 : 0 ≤ d) (d2 : d ≤ 100) : ∃ h', f_X8_isPeriod p (iI d) h = some (if pac n w ≤ 60 * d then 1 else 0, h') ∧ mR h h' := by
  obtain ⟨S, B, h', k1, k2, -, g2, g3, g4⟩ := r_find hP
  refine ⟨h', ?_, k2⟩
  unfold f_X8_isPeriod
  rw [k1, tr_bn_some, g3, g2]
  rcases g4 with ⟨c1, c2⟩ | ⟨c1, c2, c3, c4, c5, c6, c7⟩
  · rw [c2, if_pos (show iI 0 = 0 from rfl), if_pos (by omega)]
  · have m1 : 0 ≤ d * B := Int.mul_nonneg d1 (by omega)
    have m2 : d * B ≤ 100 * 6 := Int.mul_le_mul d2 c4 (by omega) (by omega)
    rw [if_neg (by rw [iI_0, iI_eq (by omega) (by omega) (by omega) (by omega)]; omega), iI_mul]
    have e : d * B < S ↔ ¬ pac n w ≤ 60 * d := by
      constructor
      · intro q1 q2
        have : pac n w * B ≤ 60 * d * B := Int.mul_le_mul_of_nonneg_right q2 (by omega)
        rw [← c7, Int.mul_assoc] at this
        omega
      · intro q
        apply Classical.byContradiction
        intro q2
        apply q
        have : pac n w * B ≤ 60 * d * B := by rw [← c7, Int.mul_assoc]; omega
        exact Int.le_of_mul_le_mul_right this (by omega)
    by_cases c : pac n w ≤ 60 * d
    · rw [if_pos c, if_neg (by rw [iI_lt (by omega) (by omega) (by omega) (by omega)]; intro q; exact e.mp q c)]
    · rw [if_neg c, if_pos (by rw [iI_lt (by omega) (by omega) (by omega) (by omega)]; exact e.mpr c)]
