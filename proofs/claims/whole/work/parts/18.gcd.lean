/-! fractions in least terms -/
theorem half_mod {b r : Nat} (h1 : 0 < r) (h2 : r < b) : b % r ≤ b / 2 := by
  by_cases c : r ≤ b / 2
  · have := Nat.mod_lt b h1
    omega
  · have e : b % r = b - r := by
      rw [Nat.mod_eq_sub_mod (by omega), Nat.mod_eq_of_lt (by omega)]
    omega
theorem c_gcd : ∀ (j a b i : Nat), a < 2147483648 → b < 2147483648 → b < 2 ^ j → i + 2 * j + 1 ≤ 64 → tr_lp (fun q => f_X7_commonDivisor_L7 q.1 q.2.1 q.2.2) (iI a, iI b, iI i) = some (iI (Nat.gcd a b)) := by
  intro j
  induction j with
  | zero =>
    intro a b i ha hb hj hi
    obtain rfl : b = 0 := by simpa using hj
    apply tr_lp_out
    show f_X7_commonDivisor_L7 (iI a) (iI (0 : Nat)) (iI i) = _
    unfold f_X7_commonDivisor_L7
    simp (disch := omega) only [iI_0, iI_1, iI_2, iI_3, iI_4, iI_5, iI_6, iI_7, iI_8, iI_9, iI_10, iI_11, iI_12, iI_14, iI_20, iI_30, iI_31, iI_36, iI_37, iI_40, iI_48, iI_60, iI_63, iI_64, iI_78, iI_100, iI_255, iI_481, iI_1000000, iI_m1, iI_m2, iI_m3, iI_m4, iI_m9, iI_m1000000, iI_add, iI_sub, iI_mul, iI_neg, iI_lt, iI_le, iI_eq, iI_cl, tr_bd, tr_bn_some, tr_b2_some, tr_gdI, tr_nzI, if_pos, if_neg, ↓reduceIte]
    simp
  | succ j ih =>
    intro a b i ha hb hj hi
    by_cases hb0 : b = 0
    · subst hb0
      apply tr_lp_out
      show f_X7_commonDivisor_L7 (iI a) (iI (0 : Nat)) (iI i) = _
      unfold f_X7_commonDivisor_L7
      simp (disch := omega) only [iI_0, iI_1, iI_2, iI_3, iI_4, iI_5, iI_6, iI_7, iI_8, iI_9, iI_10, iI_11, iI_12, iI_14, iI_20, iI_30, iI_31, iI_36, iI_37, iI_40, iI_48, iI_60, iI_63, iI_64, iI_78, iI_100, iI_255, iI_481, iI_1000000, iI_m1, iI_m2, iI_m3, iI_m4, iI_m9, iI_m1000000, iI_add, iI_sub, iI_mul, iI_neg, iI_lt, iI_le, iI_eq, iI_cl, tr_bd, tr_bn_some, tr_b2_some, tr_gdI, tr_nzI, if_pos, if_neg, ↓reduceIte]
      simp
    · have step : ∀ (a b i : Nat), a < 2147483648 → b < 2147483648 → 0 < b → i < 64 → f_X7_commonDivisor_L7 (iI a) (iI b) (iI i) = some (.inl (iI b, iI ((a % b : Nat)), iI ((i + 1 : Nat)))) := by
        intro a b i ha hb hb0 hi
        unfold f_X7_commonDivisor_L7
        have e1 := iI_rem (a := (a : Int)) (b := (b : Int)) (by omega) (by omega) (by omega) (by omega)
        rw [if_neg (by rw [iI_64, iI_le (by omega) (by omega) (by omega) (by omega)]; omega), if_neg (by rw [iI_0, iI_eq (by omega) (by omega) (by omega) (by omega)]; omega), tr_nzI (by omega) (by omega) (by omega), e1]
        unfold tr_bd
        rw [iI_1, iI_add]
        rfl
      have hr : a % b < b := Nat.mod_lt _ (by omega)
      rw [tr_lp_go (s' := (iI b, iI ((a % b : Nat)), iI ((i + 1 : Nat)))) (step a b i ha hb (by omega) (by omega))]
      by_cases hr0 : a % b = 0
      · rw [Nat.gcd_comm, Nat.gcd_rec, hr0]
        apply tr_lp_out
        show f_X7_commonDivisor_L7 (iI b) (iI (0 : Nat)) (iI ((i + 1 : Nat))) = _
        unfold f_X7_commonDivisor_L7
        simp (disch := omega) only [iI_0, iI_1, iI_2, iI_3, iI_4, iI_5, iI_6, iI_7, iI_8, iI_9, iI_10, iI_11, iI_12, iI_14, iI_20, iI_30, iI_31, iI_36, iI_37, iI_40, iI_48, iI_60, iI_63, iI_64, iI_78, iI_100, iI_255, iI_481, iI_1000000, iI_m1, iI_m2, iI_m3, iI_m4, iI_m9, iI_m1000000, iI_add, iI_sub, iI_mul, iI_neg, iI_lt, iI_le, iI_eq, iI_cl, tr_bd, tr_bn_some, tr_b2_some, tr_gdI, tr_nzI, if_pos, if_neg, ↓reduceIte]
        simp
      · rw [tr_lp_go (s' := (iI ((a % b : Nat)), iI ((b % (a % b) : Nat)), iI ((i + 1 + 1 : Nat)))) (step b (a % b) (i + 1) hb (by omega) (by omega) (by omega))]
        have h2 := half_mod (b := b) (r := a % b) (by omega) hr
        rw [ih (a % b) (b % (a % b)) (i + 1 + 1) (by omega) (by omega) (by rw [Nat.pow_succ] at hj; omega) (by omega)]
        rw [Nat.gcd_comm a b, Nat.gcd_rec b a, Nat.gcd_rec (a % b) b, Nat.gcd_comm (a % b)]
/-- the class's fraction -/
theorem c_told {a b : Nat} {u : Int32} (ha : a < 2147483648) (hb : b < 2 ^ 25) (hb0 : 0 < b) : f_X7_told (iI a) (iI b) u = some (iI (if u = 0 then (b / Nat.gcd a b : Nat) else (a / Nat.gcd a b : Nat))) := by
  have hg := Nat.gcd_pos_of_pos_right a hb0
  have hgb : Nat.gcd a b ≤ b := Nat.gcd_le_right a hb0
  unfold f_X7_told f_X7_commonDivisor
  rw [show ((iI a), (iI b), (0 : Int32)) = (iI a, iI b, iI (0 : Nat)) from rfl, c_gcd 25 a b 0 ha (by omega) hb (by omega), tr_bn_some]
  unfold f_X7_commonDivisor_E34
  have e1 : tr_max 1 (iI (Nat.gcd a b : Nat)) = iI (Nat.gcd a b : Nat) := by
    rw [iI_1, tr_maxI (by omega) (by omega) (by omega) (by omega)]
    congr 1
    omega
  rw [e1, tr_bn_some]
  by_cases c : u = 0
  · rw [if_pos c, if_pos c, tr_nzI (by omega) (by omega) (by omega), iI_div (by omega) (by omega) (by omega) (by omega)]
    rfl
  · rw [if_neg c, if_neg c, tr_nzI (by omega) (by omega) (by omega), iI_div (by omega) (by omega) (by omega) (by omega)]
    rfl
/-- the reference's -/
theorem r_gcd : ∀ (b a : Nat), a < 2147483648 → b < 2147483648 → tr_lp (fun q => f_X8_divisor_L13 q.1 q.2) (iI a, iI b) = some (iI (Nat.gcd a b)) := by
  intro b
  induction b using Nat.strongRecOn with
  | ind b ih =>
    intro a ha hb
    by_cases hb0 : b = 0
    · subst hb0
      apply tr_lp_out
      show f_X8_divisor_L13 (iI a) (iI (0 : Nat)) = _
      unfold f_X8_divisor_L13
      simp (disch := omega) only [iI_0, iI_1, iI_2, iI_3, iI_4, iI_5, iI_6, iI_7, iI_8, iI_9, iI_10, iI_11, iI_12, iI_14, iI_20, iI_30, iI_31, iI_36, iI_37, iI_40, iI_48, iI_60, iI_63, iI_64, iI_78, iI_100, iI_255, iI_481, iI_1000000, iI_m1, iI_m2, iI_m3, iI_m4, iI_m9, iI_m1000000, iI_add, iI_sub, iI_mul, iI_neg, iI_lt, iI_le, iI_eq, iI_cl, tr_bd, tr_bn_some, tr_b2_some, tr_gdI, tr_nzI, if_pos, if_neg, ↓reduceIte]
      simp
    · have hr : a % b < b := Nat.mod_lt _ (by omega)
      have step : f_X8_divisor_L13 (iI a) (iI b) = some (.inl (iI b, iI ((a % b : Nat)))) := by
        unfold f_X8_divisor_L13
        have e1 := iI_rem (a := (a : Int)) (b := (b : Int)) (by omega) (by omega) (by omega) (by omega)
        rw [if_neg (by rw [iI_0, iI_eq (by omega) (by omega) (by omega) (by omega)]; omega), tr_nzI (by omega) (by omega) (by omega), e1]
        rfl
      rw [tr_lp_go (s' := (iI b, iI ((a % b : Nat)))) step, ih (a % b) hr b hb (by omega), Nat.gcd_comm a b, Nat.gcd_rec b a, Nat.gcd_comm (a % b)]
theorem r_fraction {a b : Nat} {u : Int32} (ha : a < 2147483648) (hb : b < 2147483648) (hb0 : 0 < b) : f_X8_fraction (iI a) (iI b) u = some (iI (if u = 0 then (b / Nat.gcd a b : Nat) else (a / Nat.gcd a b : Nat))) := by
  have hg := Nat.gcd_pos_of_pos_right a hb0
  have hgb : Nat.gcd a b ≤ b := Nat.gcd_le_right a hb0
  have hd : f_X8_divisor (iI a) (iI b) = some (iI (Nat.gcd a b)) := by
    unfold f_X8_divisor
    simp (disch := omega) only [iI_0, iI_1, iI_2, iI_3, iI_4, iI_5, iI_6, iI_7, iI_8, iI_9, iI_10, iI_11, iI_12, iI_14, iI_20, iI_30, iI_31, iI_36, iI_37, iI_40, iI_48, iI_60, iI_63, iI_64, iI_78, iI_100, iI_255, iI_481, iI_1000000, iI_m1, iI_m2, iI_m3, iI_m4, iI_m9, iI_m1000000, iI_add, iI_sub, iI_mul, iI_neg, iI_lt, iI_le, iI_eq, iI_cl, tr_bd, tr_bn_some, tr_b2_some, tr_gdI, tr_nzI, if_pos, if_neg, ↓reduceIte]
    unfold f_X8_divisor_J10
    rw [r_gcd b a ha hb]
    rfl
  unfold f_X8_fraction
  rw [hd, tr_bn_some]
  by_cases c : u = 0
  · rw [if_pos c, if_pos c, tr_nzI (by omega) (by omega) (by omega), iI_div (by omega) (by omega) (by omega) (by omega)]
    rfl
  · rw [if_neg c, if_neg c, tr_nzI (by omega) (by omega) (by omega), iI_div (by omega) (by omega) (by omega) (by omega)]
    rfl
/-- equal fractions have equal least terms -/
theorem frac_eq {a b c d : Nat} (hb : 0 < b) (hd : 0 < d) (h : a * d = c * b) : a / Nat.gcd a b = c / Nat.gcd c d ∧ b / Nat.gcd a b = d / Nat.gcd c d := by
  have g1 := Nat.gcd_pos_of_pos_right a hb
  have g2 := Nat.gcd_pos_of_pos_right c hd
  obtain ⟨a', ea⟩ := Nat.gcd_dvd_left a b
  obtain ⟨b', eb⟩ := Nat.gcd_dvd_right a b
  obtain ⟨c', ec⟩ := Nat.gcd_dvd_left c d
  obtain ⟨d', ed⟩ := Nat.gcd_dvd_right c d
  have h1 : a / Nat.gcd a b = a' := by
    apply Nat.div_eq_of_eq_mul_right g1
    exact ea
  have h2 : b / Nat.gcd a b = b' := by
    apply Nat.div_eq_of_eq_mul_right g1
    exact eb
  have h3 : c / Nat.gcd c d = c' := by
    apply Nat.div_eq_of_eq_mul_right g2
    exact ec
  have h4 : d / Nat.gcd c d = d' := by
    apply Nat.div_eq_of_eq_mul_right g2
    exact ed
  have k1 : Nat.gcd a' b' = 1 := by
    rw [← h1, ← h2]
    exact Nat.coprime_div_gcd_div_gcd (by omega)
  have k2 : Nat.gcd c' d' = 1 := by
    rw [← h3, ← h4]
    exact Nat.coprime_div_gcd_div_gcd (by omega)
  rw [h1, h2, h3, h4]
  clear h1 h2 h3 h4
  generalize Nat.gcd a b = G1 at g1 ea eb
  generalize Nat.gcd c d = G2 at g2 ec ed
  have k3 : a' * d' = c' * b' := by
    have e1 : G1 * a' * (G2 * d') = G2 * c' * (G1 * b') := by rw [← ea, ← ed, ← ec, ← eb]; exact h
    have e2 : G1 * G2 * (a' * d') = G1 * G2 * (c' * b') := by
      rw [Nat.mul_mul_mul_comm G1 a' G2 d', Nat.mul_mul_mul_comm G2 c' G1 b', Nat.mul_comm G2 G1] at e1
      exact e1
    exact Nat.eq_of_mul_eq_mul_left (Nat.mul_pos g1 g2) e2
  have d1 : a' ∣ c' := (Nat.Coprime.dvd_of_dvd_mul_right k1 ⟨d', k3.symm⟩)
  have d2 : c' ∣ a' := (Nat.Coprime.dvd_of_dvd_mul_right k2 ⟨b', k3⟩)
  have e3 : a' = c' := Nat.dvd_antisymm d1 d2
  have d3 : b' ∣ d' := (Nat.Coprime.dvd_of_dvd_mul_left (Nat.Coprime.symm k1) ⟨c', by rw [k3, Nat.mul_comm]⟩)
  have d4 : d' ∣ b' := (Nat.Coprime.dvd_of_dvd_mul_left (Nat.Coprime.symm k2) ⟨a', by rw [← k3, Nat.mul_comm]⟩)
  exact ⟨e3, Nat.dvd_antisymm d3 d4⟩
