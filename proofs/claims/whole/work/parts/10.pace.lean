/-! the pace by the class's tables is that of the slowest ring -/
def sx (m : Nat) : Int := 60 / (m : Int)
theorem sx_f0 {m : Nat} (h1 : 1 ≤ m) (h2 : m ≤ 6) : tr_f0 m = iI (sx m) := by
  rcases (show m = 1 ∨ m = 2 ∨ m = 3 ∨ m = 4 ∨ m = 5 ∨ m = 6 by omega) with rfl | rfl | rfl | rfl | rfl | rfl <;> decide
theorem sx_mul {m : Nat} (h1 : 1 ≤ m) (h2 : m ≤ 6) : sx m * m = 60 ∧ 10 ≤ sx m ∧ sx m ≤ 60 := by
  rcases (show m = 1 ∨ m = 2 ∨ m = 3 ∨ m = 4 ∨ m = 5 ∨ m = 6 by omega) with rfl | rfl | rfl | rfl | rfl | rfl <;> decide
theorem sx_le {m : Nat} (h1 : 1 ≤ m) (h2 : m ≤ 6) {X P : Int} : X * sx m ≤ P ↔ 60 * X ≤ P * m := by
  have e : ∀ Y : Int, 60 * Y = Y * sx m * m := fun Y => by
    rw [Int.mul_assoc, (sx_mul h1 h2).1, Int.mul_comm]
  rw [e X]
  have hm : (0 : Int) < m := by omega
  constructor
  · intro h; exact Int.mul_le_mul_of_nonneg_right h (by omega)
  · intro h; exact Int.le_of_mul_le_mul_right h hm
theorem sx_ge {m : Nat} (h1 : 1 ≤ m) (h2 : m ≤ 6) {X P : Int} : P ≤ X * sx m ↔ P * m ≤ 60 * X := by
  have e : ∀ Y : Int, 60 * Y = Y * sx m * m := fun Y => by
    rw [Int.mul_assoc, (sx_mul h1 h2).1, Int.mul_comm]
  rw [e X]
  have hm : (0 : Int) < m := by omega
  constructor
  · intro h; exact Int.mul_le_mul_of_nonneg_right h (by omega)
  · intro h; exact Int.le_of_mul_le_mul_right h hm
def lmn (n : Nat) (w : Nat → Int) (v : Nat) : Int := if 0 ≤ Rk n w n v then itr (fun k a => min a ((Rk n w n v - Rk n w k v) * sx (n - k))) n 1000000 else -1
def pac (n : Nat) (w : Nat → Int) : Int := itr (fun v a => max a (lmn n w v)) n (-1)
theorem trm_b {n : Nat} {w : Nat → Int} (hw : okn n w) {v k : Nat} (hv : v < n) (hk : k < n) : -4000 ≤ (Rk n w n v - Rk n w k v) * sx (n - k) ∧ (Rk n w n v - Rk n w k v) * sx (n - k) ≤ 4000 := by
  have h6 := hw.2.1
  have b1 := Rk_b hw n v hv
  have b2 := Rk_b hw k v hv
  have b3 := sx_mul (m := n - k) (by omega) (by omega)
  have c1 : -60 ≤ Rk n w n v - Rk n w k v := by omega
  have c2 : Rk n w n v - Rk n w k v ≤ 60 := by omega
  generalize Rk n w n v - Rk n w k v = X at c1 c2
  generalize sx (n - k) = s at b3
  have d1 : X * s ≤ 60 * s := Int.mul_le_mul_of_nonneg_right c2 (by omega)
  have d2 : -60 * s ≤ X * s := Int.mul_le_mul_of_nonneg_right c1 (by omega)
  omega
theorem lmn_b {n : Nat} {w : Nat → Int} (hw : okn n w) {v : Nat} (hv : v < n) : -4000 ≤ lmn n w v ∧ lmn n w v ≤ 1000000 := by
  unfold lmn
  split
  · refine itr_ind (fun (_ : Nat) (a : Int) => -4000 ≤ a ∧ a ≤ 1000000) n (by omega) (fun k a hk ha => ?_)
    have := trm_b hw hv hk
    omega
  · omega
theorem w_leastMean {h : tr_H} {n : Nat} {w : Nat → Int} {v : Nat} (hw : okn n w) (hv : v < n) (hR : ∀ k, k ≤ n → h.1 22 (6 * k + v) = iI (Rk n w k v)) : f_X6_leastMean (iI n) (iI v) h = some (iI (lmn n w v)) := by
  have h6 := hw.2.1
  have b1 := Rk_b hw n v hv
  unfold f_X6_leastMean lmn
  have e1 : ((n : Int) * 6 + (v : Int)).toNat = 6 * n + v := by omega
  have g1 := hR n (Nat.le_refl _)
  by_cases c : 0 ≤ Rk n w n v
  · rw [if_pos c]
    simp (disch := omega) only [iI_0, iI_1, iI_2, iI_3, iI_4, iI_5, iI_6, iI_7, iI_8, iI_9, iI_10, iI_11, iI_12, iI_14, iI_20, iI_30, iI_31, iI_36, iI_37, iI_40, iI_48, iI_60, iI_63, iI_64, iI_78, iI_100, iI_255, iI_481, iI_1000000, iI_m1, iI_m2, iI_m3, iI_m4, iI_m9, iI_m1000000, iI_add, iI_sub, iI_mul, iI_neg, iI_lt, iI_le, iI_eq, iI_cl, tr_bd, tr_bn_some, tr_b2_some, tr_gdI, tr_nzI, if_pos, if_neg, ↓reduceIte, e1, g1]
    have key := tr_seq (f := fun q => f_X6_leastMean_L25 (iI n) (iI v) (iI (Rk n w n v)) h q.1 q.2) (fun m => (iI (itr (fun k a => min a ((Rk n w n v - Rk n w k v) * sx (n - k))) m 1000000), iI m)) (lo := 0) (hi := n) (r := iI (itr (fun k a => min a ((Rk n w n v - Rk n w k v) * sx (n - k))) n 1000000)) (by omega) ?_ ?_
    · have e2 : (iI 1000000, iI 0) = (iI (itr (fun k a => min a ((Rk n w n v - Rk n w k v) * sx (n - k))) 0 1000000), iI (0 : Nat)) := rfl
      rw [e2, key]
      rfl
    · intro m _ hm
      have hb : -4000 ≤ itr (fun k a => min a ((Rk n w n v - Rk n w k v) * sx (n - k))) m 1000000 ∧ itr (fun k a => min a ((Rk n w n v - Rk n w k v) * sx (n - k))) m 1000000 ≤ 1000000 := by
        refine itr_ind (fun (_ : Nat) (a : Int) => -4000 ≤ a ∧ a ≤ 1000000) m (by omega) (fun k a hk ha => ?_)
        have := trm_b hw hv (k := k) (by omega)
        omega
      have b2 := Rk_b hw m v hv
      have b3 := trm_b hw hv hm
      have g2 := hR m (by omega)
      have g3 := sx_f0 (m := n - m) (by omega) (by omega)
      show f_X6_leastMean_L25 (iI n) (iI v) (iI (Rk n w n v)) h _ (iI m) = some (.inl (_, iI ((m + 1 : Nat))))
      simp only [itr]
      generalize itr (fun k a => min a ((Rk n w n v - Rk n w k v) * sx (n - k))) m 1000000 = acc at hb ⊢
      unfold f_X6_leastMean_L25
      have e3 : ((m : Int) * 6 + (v : Int)).toNat = 6 * m + v := by omega
      have e4 : ((n : Int) - (m : Int)).toNat = n - m := by omega
      simp (disch := omega) only [iI_0, iI_1, iI_2, iI_3, iI_4, iI_5, iI_6, iI_7, iI_8, iI_9, iI_10, iI_11, iI_12, iI_14, iI_20, iI_30, iI_31, iI_36, iI_37, iI_40, iI_48, iI_60, iI_63, iI_64, iI_78, iI_100, iI_255, iI_481, iI_1000000, iI_m1, iI_m2, iI_m3, iI_m4, iI_m9, iI_m1000000, iI_add, iI_sub, iI_mul, iI_neg, iI_lt, iI_le, iI_eq, iI_cl, tr_bd, tr_bn_some, tr_b2_some, tr_gdI, tr_nzI, tr_maxI, tr_minI, if_pos, if_neg, ↓reduceIte, e3, e4, g2, g3]
      rfl
    · show f_X6_leastMean_L25 (iI n) (iI v) (iI (Rk n w n v)) h _ (iI n) = _
      unfold f_X6_leastMean_L25
      simp (disch := omega) only [iI_0, iI_1, iI_2, iI_3, iI_4, iI_5, iI_6, iI_7, iI_8, iI_9, iI_10, iI_11, iI_12, iI_14, iI_20, iI_30, iI_31, iI_36, iI_37, iI_40, iI_48, iI_60, iI_63, iI_64, iI_78, iI_100, iI_255, iI_481, iI_1000000, iI_m1, iI_m2, iI_m3, iI_m4, iI_m9, iI_m1000000, iI_add, iI_sub, iI_mul, iI_neg, iI_lt, iI_le, iI_eq, iI_cl, tr_bd, tr_bn_some, tr_b2_some, tr_gdI, tr_nzI, tr_maxI, tr_minI, if_pos, if_neg, ↓reduceIte]
  · rw [if_neg c]
    simp (disch := omega) only [iI_0, iI_1, iI_2, iI_3, iI_4, iI_5, iI_6, iI_7, iI_8, iI_9, iI_10, iI_11, iI_12, iI_14, iI_20, iI_30, iI_31, iI_36, iI_37, iI_40, iI_48, iI_60, iI_63, iI_64, iI_78, iI_100, iI_255, iI_481, iI_1000000, iI_m1, iI_m2, iI_m3, iI_m4, iI_m9, iI_m1000000, iI_add, iI_sub, iI_mul, iI_neg, iI_lt, iI_le, iI_eq, iI_cl, tr_bd, tr_bn_some, tr_b2_some, tr_gdI, tr_nzI, if_pos, if_neg, ↓reduceIte, e1, g1]
theorem w_slowest {h : tr_H} {i n : Nat} {w : Nat → Int} (hN : tN h i n w) : ∃ f, f_X6_slowest i h = some (iI (pac n w), tr_sa h 22 f) := by
  have hw := hN.2.1
  have h6 := hw.2.1
  have hi := hN.1
  have hne : i ≠ 22 ∧ i + 1 ≠ 22 := by unfold netI at hi; omega
  have hsz : ∀ f, (tr_sa h 22 f).1 i 1 = iI n := fun f => by rw [tr_sa_ne _ _ hne.1]; exact hN.2.2.1
  have hNN : ∀ f, tN (tr_sa h 22 f) i n w := fun f => tN_ne hN f hne.1 hne.2
  refine ⟨rowA n w (h.1 22) (n + 1) 0, ?_⟩
  unfold f_X6_slowest
  have k1 := tr_seq (f := fun q => f_X6_slowest_L2 i q.1 q.2) (fun m => (iI m, tr_sa h 22 (rowA n w (h.1 22) 0 m))) (lo := 0) (hi := n) (r := tr_sa h 22 (rowA n w (h.1 22) 0 n)) (by omega) ?_ ?_
  · have e0 : ((0 : Int32), h) = (iI (0 : Nat), tr_sa h 22 (rowA n w (h.1 22) 0 0)) := by
      have : rowA n w (h.1 22) 0 0 = h.1 22 := by
        funext j
        unfold rowA
        rw [if_neg (by omega)]
      rw [this, tr_sa_self]
      rfl
    rw [e0, k1, tr_bn_some]
    unfold f_X6_slowest_E23
    have k2 := tr_seq (f := fun q => f_X6_slowest_L25 i q.1 q.2) (fun m => (iI m, tr_sa h 22 (rowA n w (h.1 22) m 0))) (lo := 1) (hi := n + 1) (r := tr_sa h 22 (rowA n w (h.1 22) (n + 1) 0)) (by omega) ?_ ?_
    · have e1 : ((1 : Int32), tr_sa h 22 (rowA n w (h.1 22) 0 n)) = (iI (1 : Nat), tr_sa h 22 (rowA n w (h.1 22) 1 0)) := by rw [rowA_nx]; rfl
      rw [e1, k2, tr_bn_some]
      unfold f_X6_slowest_E75
      have k3 := tr_seq (f := fun q => f_X6_slowest_L79 (tr_sa h 22 (rowA n w (h.1 22) (n + 1) 0)) i q.1 q.2) (fun m => (iI (itr (fun v a => max a (lmn n w v)) m (-1)), iI m)) (lo := 0) (hi := n) (r := iI (pac n w)) (by omega) ?_ ?_
      · have e2 : ((-1 : Int32), (0 : Int32)) = (iI (itr (fun v a => max a (lmn n w v)) 0 (-1)), iI (0 : Nat)) := by simp only [itr, iI_m1]; rfl
        rw [e2, k3]
        rfl
      · intro m _ hm
        have hb : -4000 ≤ itr (fun v a => max a (lmn n w v)) m (-1) ∧ itr (fun v a => max a (lmn n w v)) m (-1) ≤ 1000000 := by
          refine itr_ind (fun (_ : Nat) (a : Int) => -4000 ≤ a ∧ a ≤ 1000000) m (by omega) (fun k a hk ha => ?_)
          have := lmn_b hw (v := k) (by omega)
          omega
        have b2 := lmn_b hw hm
        have g1 := w_leastMean (h := tr_sa h 22 (rowA n w (h.1 22) (n + 1) 0)) hw hm (fun k hk => by rw [tr_sa_at]; exact rowA_rd hm h6 (by omega))
        show f_X6_slowest_L79 _ i _ (iI m) = some (.inl (_, iI ((m + 1 : Nat))))
        simp only [itr]
        generalize itr (fun v a => max a (lmn n w v)) m (-1) = acc at hb ⊢
        unfold f_X6_slowest_L79
        rw [hsz, g1]
        simp (disch := omega) only [iI_0, iI_1, iI_2, iI_3, iI_4, iI_5, iI_6, iI_7, iI_8, iI_9, iI_10, iI_11, iI_12, iI_14, iI_20, iI_30, iI_31, iI_36, iI_37, iI_40, iI_48, iI_60, iI_63, iI_64, iI_78, iI_100, iI_255, iI_481, iI_1000000, iI_m1, iI_m2, iI_m3, iI_m4, iI_m9, iI_m1000000, iI_add, iI_sub, iI_mul, iI_neg, iI_lt, iI_le, iI_eq, iI_cl, tr_bd, tr_bn_some, tr_b2_some, tr_gdI, tr_nzI, tr_maxI, tr_minI, if_pos, if_neg, ↓reduceIte]
        rfl
      · show f_X6_slowest_L79 _ i _ (iI n) = _
        unfold f_X6_slowest_L79
        rw [hsz]
        simp (disch := omega) only [iI_0, iI_1, iI_2, iI_3, iI_4, iI_5, iI_6, iI_7, iI_8, iI_9, iI_10, iI_11, iI_12, iI_14, iI_20, iI_30, iI_31, iI_36, iI_37, iI_40, iI_48, iI_60, iI_63, iI_64, iI_78, iI_100, iI_255, iI_481, iI_1000000, iI_m1, iI_m2, iI_m3, iI_m4, iI_m9, iI_m1000000, iI_add, iI_sub, iI_mul, iI_neg, iI_lt, iI_le, iI_eq, iI_cl, tr_bd, tr_bn_some, tr_b2_some, tr_gdI, tr_nzI, tr_maxI, tr_minI, if_pos, if_neg, ↓reduceIte]
        rfl
    · intro m hm1 hm
      show f_X6_slowest_L25 i (iI m) _ = some (.inl (iI ((m + 1 : Nat)), _))
      unfold f_X6_slowest_L25
      rw [hsz]
      have k4 := tr_seq (f := fun q => f_X6_slowest_L35 i (iI m) q.1 q.2) (fun t => (iI t, tr_sa h 22 (rowA n w (h.1 22) m t))) (lo := 0) (hi := n) (r := tr_sa h 22 (rowA n w (h.1 22) m n)) (by omega) ?_ ?_
      · have e3 : ((0 : Int32), tr_sa h 22 (rowA n w (h.1 22) m 0)) = (iI (0 : Nat), tr_sa h 22 (rowA n w (h.1 22) m 0)) := rfl
        rw [e3, k4, tr_bn_some, rowA_nx]
        unfold f_X6_slowest_E69
        simp (disch := omega) only [iI_0, iI_1, iI_2, iI_3, iI_4, iI_5, iI_6, iI_7, iI_8, iI_9, iI_10, iI_11, iI_12, iI_14, iI_20, iI_30, iI_31, iI_36, iI_37, iI_40, iI_48, iI_60, iI_63, iI_64, iI_78, iI_100, iI_255, iI_481, iI_1000000, iI_m1, iI_m2, iI_m3, iI_m4, iI_m9, iI_m1000000, iI_add, iI_sub, iI_mul, iI_neg, iI_lt, iI_le, iI_eq, iI_cl, tr_bd, tr_bn_some, tr_b2_some, tr_gdI, tr_nzI, tr_maxI, tr_minI, if_pos, if_neg, ↓reduceIte]
        rfl
      · intro t _ ht
        obtain ⟨m', rfl⟩ : ∃ m', m = m' + 1 := ⟨m - 1, by omega⟩
        have g1 := w_longest (h := tr_sa h 22 (rowA n w (h.1 22) (m' + 1) t)) (k := m') (v := t) (hNN _) (by omega) ht (fun u hu => by rw [tr_sa_at]; exact rowA_rd hu h6 (by omega))
        show f_X6_slowest_L35 i (iI ((m' + 1 : Nat))) (iI t) _ = some (.inl (iI ((t + 1 : Nat)), _))
        unfold f_X6_slowest_L35
        rw [hsz]
        have e5 : ((m' + 1 : Nat) : Int) - 1 = (m' : Int) := by omega
        have e6 : (((m' + 1 : Nat) : Int) * 6 + (t : Int)).toNat = 6 * (m' + 1) + t := by omega
        simp (disch := omega) only [iI_0, iI_1, iI_2, iI_3, iI_4, iI_5, iI_6, iI_7, iI_8, iI_9, iI_10, iI_11, iI_12, iI_14, iI_20, iI_30, iI_31, iI_36, iI_37, iI_40, iI_48, iI_60, iI_63, iI_64, iI_78, iI_100, iI_255, iI_481, iI_1000000, iI_m1, iI_m2, iI_m3, iI_m4, iI_m9, iI_m1000000, iI_add, iI_sub, iI_mul, iI_neg, iI_lt, iI_le, iI_eq, iI_cl, tr_bd, tr_bn_some, tr_b2_some, tr_gdI, tr_nzI, tr_maxI, tr_minI, if_pos, if_neg, ↓reduceIte, e5, e6, g1, tr_si, tr_sa_at, tr_sa_sa]
        rw [rowA_up ht h6]
        rfl
      · show f_X6_slowest_L35 i (iI m) (iI n) _ = _
        unfold f_X6_slowest_L35
        rw [hsz]
        simp (disch := omega) only [iI_0, iI_1, iI_2, iI_3, iI_4, iI_5, iI_6, iI_7, iI_8, iI_9, iI_10, iI_11, iI_12, iI_14, iI_20, iI_30, iI_31, iI_36, iI_37, iI_40, iI_48, iI_60, iI_63, iI_64, iI_78, iI_100, iI_255, iI_481, iI_1000000, iI_m1, iI_m2, iI_m3, iI_m4, iI_m9, iI_m1000000, iI_add, iI_sub, iI_mul, iI_neg, iI_lt, iI_le, iI_eq, iI_cl, tr_bd, tr_bn_some, tr_b2_some, tr_gdI, tr_nzI, tr_maxI, tr_minI, if_pos, if_neg, ↓reduceIte]
    · show f_X6_slowest_L25 i (iI ((n + 1 : Nat))) _ = _
      unfold f_X6_slowest_L25
      rw [hsz]
      simp (disch := omega) only [iI_0, iI_1, iI_2, iI_3, iI_4, iI_5, iI_6, iI_7, iI_8, iI_9, iI_10, iI_11, iI_12, iI_14, iI_20, iI_30, iI_31, iI_36, iI_37, iI_40, iI_48, iI_60, iI_63, iI_64, iI_78, iI_100, iI_255, iI_481, iI_1000000, iI_m1, iI_m2, iI_m3, iI_m4, iI_m9, iI_m1000000, iI_add, iI_sub, iI_mul, iI_neg, iI_lt, iI_le, iI_eq, iI_cl, tr_bd, tr_bn_some, tr_b2_some, tr_gdI, tr_nzI, tr_maxI, tr_minI, if_pos, if_neg, ↓reduceIte]
  · intro m _ hm
    show f_X6_slowest_L2 i (iI m) _ = some (.inl (iI ((m + 1 : Nat)), _))
    unfold f_X6_slowest_L2
    rw [hsz]
    have e7 := rowA_up (w := w) (f0 := h.1 22) (K := 0) hm h6
    have e8 : Rk n w 0 m = 0 := rfl
    rw [e8, show 6 * 0 + m = m by omega] at e7
    simp (disch := omega) only [iI_0, iI_1, iI_2, iI_3, iI_4, iI_5, iI_6, iI_7, iI_8, iI_9, iI_10, iI_11, iI_12, iI_14, iI_20, iI_30, iI_31, iI_36, iI_37, iI_40, iI_48, iI_60, iI_63, iI_64, iI_78, iI_100, iI_255, iI_481, iI_1000000, iI_m1, iI_m2, iI_m3, iI_m4, iI_m9, iI_m1000000, iI_add, iI_sub, iI_mul, iI_neg, iI_lt, iI_le, iI_eq, iI_cl, tr_bd, tr_bn_some, tr_b2_some, tr_gdI, tr_nzI, tr_maxI, tr_minI, if_pos, if_neg, ↓reduceIte, Int.toNat_natCast, tr_si, tr_sa_at, tr_sa_sa, e7]
    rfl
  · show f_X6_slowest_L2 i (iI n) _ = _
    unfold f_X6_slowest_L2
    rw [hsz]
    simp (disch := omega) only [iI_0, iI_1, iI_2, iI_3, iI_4, iI_5, iI_6, iI_7, iI_8, iI_9, iI_10, iI_11, iI_12, iI_14, iI_20, iI_30, iI_31, iI_36, iI_37, iI_40, iI_48, iI_60, iI_63, iI_64, iI_78, iI_100, iI_255, iI_481, iI_1000000, iI_m1, iI_m2, iI_m3, iI_m4, iI_m9, iI_m1000000, iI_add, iI_sub, iI_mul, iI_neg, iI_lt, iI_le, iI_eq, iI_cl, tr_bd, tr_bn_some, tr_b2_some, tr_gdI, tr_nzI, tr_maxI, tr_minI, if_pos, if_neg, ↓reduceIte]
