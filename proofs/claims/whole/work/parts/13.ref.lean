/-! the reference's page, and its small methods -/
def cvn (z : Int) : Int := if z = -9 then 0 else z + 1
def pagI (p : Nat) : Prop := p = 2 ∨ p = 3 ∨ p = 4
def tP (h : tr_H) (p n : Nat) (w : Nat → Int) : Prop := pagI p ∧ okn n w ∧ h.1 p 0 = iI n ∧ ∀ c, c < 36 → h.1 p (1 + c) = iI (cvn (w c))
theorem cvn_b {n : Nat} {w : Nat → Int} (h : okn n w) {c : Nat} (hc : c < 36) : 0 ≤ cvn (w c) ∧ cvn (w c) ≤ 10 ∧ (cvn (w c) = 0 ↔ w c = -9) ∧ (w c ≠ -9 → cvn (w c) = w c + 1) := by
  have := (h.2.2 c hc).1
  unfold cvn
  split
  · omega
  · omega
theorem r_minutesOf {h : tr_H} {p n : Nat} {w : Nat → Int} (hP : tP h p n w) {i j : Nat} (hi : i < 6) (hj : j < 6) : f_X8_minutesOf p (iI i) (iI j) h = some (iI (cvn (w (6 * i + j)) - 1)) := by
  have g := hP.2.2.2 (6 * i + j) (by omega)
  unfold f_X8_minutesOf
  have e1 : (1 + 6 * (i : Int) + (j : Int)).toNat = 1 + (6 * i + j) := by omega
  simp (disch := omega) only [iI_0, iI_1, iI_2, iI_3, iI_4, iI_5, iI_6, iI_7, iI_8, iI_9, iI_10, iI_11, iI_12, iI_14, iI_20, iI_30, iI_31, iI_36, iI_37, iI_40, iI_48, iI_60, iI_63, iI_64, iI_78, iI_100, iI_255, iI_481, iI_1000000, iI_m1, iI_m2, iI_m3, iI_m4, iI_m9, iI_m1000000, iI_add, iI_sub, iI_mul, iI_neg, iI_lt, iI_le, iI_eq, iI_cl, tr_bd, tr_bn_some, tr_b2_some, tr_gdI, tr_nzI, if_pos, if_neg, ↓reduceIte, e1, g]
theorem r_isThere {h : tr_H} {p n : Nat} {w : Nat → Int} (hP : tP h p n w) {i j : Nat} (hi : i < 6) (hj : j < 6) : f_X8_isThere p (iI i) (iI j) h = some (if w (6 * i + j) = -9 then 0 else 1) := by
  have b := cvn_b hP.2.1 (c := 6 * i + j) (by omega)
  unfold f_X8_isThere
  rw [r_minutesOf hP hi hj]
  by_cases c : w (6 * i + j) = -9
  · simp (disch := omega) only [iI_0, iI_1, iI_2, iI_3, iI_4, iI_5, iI_6, iI_7, iI_8, iI_9, iI_10, iI_11, iI_12, iI_14, iI_20, iI_30, iI_31, iI_36, iI_37, iI_40, iI_48, iI_60, iI_63, iI_64, iI_78, iI_100, iI_255, iI_481, iI_1000000, iI_m1, iI_m2, iI_m3, iI_m4, iI_m9, iI_m1000000, iI_add, iI_sub, iI_mul, iI_neg, iI_lt, iI_le, iI_eq, iI_cl, tr_bd, tr_bn_some, tr_b2_some, tr_gdI, tr_nzI, if_pos, if_neg, ↓reduceIte, c]
    rfl
  · have := b.2.2.2 c
    simp (disch := omega) only [iI_0, iI_1, iI_2, iI_3, iI_4, iI_5, iI_6, iI_7, iI_8, iI_9, iI_10, iI_11, iI_12, iI_14, iI_20, iI_30, iI_31, iI_36, iI_37, iI_40, iI_48, iI_60, iI_63, iI_64, iI_78, iI_100, iI_255, iI_481, iI_1000000, iI_m1, iI_m2, iI_m3, iI_m4, iI_m9, iI_m1000000, iI_add, iI_sub, iI_mul, iI_neg, iI_lt, iI_le, iI_eq, iI_cl, tr_bd, tr_bn_some, tr_b2_some, tr_gdI, tr_nzI, if_pos, if_neg, ↓reduceIte, c]
theorem r_noDep {h : tr_H} {n : Nat} {w : Nat → Int} (hP : tP h 3 n w) (x : Int32) : f_X8_noDeparture x h = some (if 0 ≤ x.toInt ∧ x.toInt < n then 0 else 1) := by
  have h6 := hP.2.1.2.1
  have h1 := hP.2.1.1
  unfold f_X8_noDeparture
  have e0 : (0 : Int32).toNatClampNeg = 0 := rfl
  rw [e0, hP.2.2.1, iI_1, iI_sub, r_in, Int32.toInt_toInt64, Int32.toInt_toInt64, iI_in (by omega) (by omega)]
  have e1 : (0 : Int64).toInt = 0 := by decide
  rw [e1]
  by_cases c : 0 ≤ x.toInt ∧ x.toInt < n
  · rw [if_pos c, if_pos (by omega)]
    rfl
  · rw [if_neg c, if_neg (by omega)]
    rfl
theorem r_has {m k : Nat} (hm : m < 64) (hk : k < 6) : f_X8_has (iI m) (iI k) = some (if m.testBit k then 1 else 0) := by
  unfold f_X8_has
  have h := has32 m hm k hk
  by_cases c : m.testBit k = true
  · rw [if_pos (h.mpr c), if_pos c]
  · rw [if_neg (fun q => c (h.mp q)), if_neg c]
theorem r_waits {h : tr_H} {p n : Nat} {w : Nat → Int} (hP : tP h p n w) : f_X8_waits p h = some (iI (nwt w)) := by
  obtain ⟨-, h1, h2, h3⟩ := hP
  unfold f_X8_waits
  have key := tr_seq (f := fun q => f_X8_waits_L4 h p q.1 q.2) (fun k => (iI (cnt (fun c => decide (w c ≠ -9)) k), iI ((1 + k : Nat)))) (lo := 0) (hi := 36) (r := iI (nwt w)) (by omega) ?_ ?_
  · rw [show ((0 : Int32), (1 : Int32)) = (iI (cnt (fun c => decide (w c ≠ -9)) 0 : Nat), iI ((1 + 0 : Nat))) from rfl, key]
    rfl
  · intro k _ hk
    have hb := cvn_b h1 hk
    have hc := cnt_le (fun c => decide (w c ≠ -9)) k
    have h4 := h3 k hk
    show f_X8_waits_L4 h p (iI (cnt (fun c => decide (w c ≠ -9)) k)) (iI ((1 + k : Nat))) = _
    unfold f_X8_waits_L4
    have e1 : (((1 + k : Nat)) : Int).toNat = 1 + k := by omega
    by_cases e : w k = -9
    · have := hb.2.2.1.mpr e
      simp (disch := omega) only [iI_0, iI_1, iI_2, iI_3, iI_4, iI_5, iI_6, iI_7, iI_8, iI_9, iI_10, iI_11, iI_12, iI_14, iI_20, iI_30, iI_31, iI_36, iI_37, iI_40, iI_48, iI_60, iI_63, iI_64, iI_78, iI_100, iI_255, iI_481, iI_1000000, iI_m1, iI_m2, iI_m3, iI_m4, iI_m9, iI_m1000000, iI_add, iI_sub, iI_mul, iI_neg, iI_lt, iI_le, iI_eq, iI_cl, tr_bd, tr_bn_some, tr_b2_some, tr_gdI, tr_nzI, if_pos, if_neg, ↓reduceIte, e1, h4]
      simp [cnt, e]
      congr 1
    · have := hb.2.2.2 e
      simp (disch := omega) only [iI_0, iI_1, iI_2, iI_3, iI_4, iI_5, iI_6, iI_7, iI_8, iI_9, iI_10, iI_11, iI_12, iI_14, iI_20, iI_30, iI_31, iI_36, iI_37, iI_40, iI_48, iI_60, iI_63, iI_64, iI_78, iI_100, iI_255, iI_481, iI_1000000, iI_m1, iI_m2, iI_m3, iI_m4, iI_m9, iI_m1000000, iI_add, iI_sub, iI_mul, iI_neg, iI_lt, iI_le, iI_eq, iI_cl, tr_bd, tr_bn_some, tr_b2_some, tr_gdI, tr_nzI, if_pos, if_neg, ↓reduceIte, e1, h4]
      simp [cnt, e]
      congr 1
  · show f_X8_waits_L4 h p (iI (cnt (fun c => decide (w c ≠ -9)) 36)) (iI ((1 + 36 : Nat))) = _
    unfold f_X8_waits_L4
    simp (disch := omega) only [iI_0, iI_1, iI_2, iI_3, iI_4, iI_5, iI_6, iI_7, iI_8, iI_9, iI_10, iI_11, iI_12, iI_14, iI_20, iI_30, iI_31, iI_36, iI_37, iI_40, iI_48, iI_60, iI_63, iI_64, iI_78, iI_100, iI_255, iI_481, iI_1000000, iI_m1, iI_m2, iI_m3, iI_m4, iI_m9, iI_m1000000, iI_add, iI_sub, iI_mul, iI_neg, iI_lt, iI_le, iI_eq, iI_cl, tr_bd, tr_bn_some, tr_b2_some, tr_gdI, tr_nzI, if_pos, if_neg, ↓reduceIte]
    rfl
