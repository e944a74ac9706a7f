/-! the net, on the class's side and on the reference's -/
def itr {α : Type} (g : Nat → α → α) : Nat → α → α
  | 0, a => a
  | k + 1, a => g k (itr g k a)
theorem tr_maxI {a b : Int} (h1 : -2147483648 ≤ a) (h2 : a < 2147483648) (h3 : -2147483648 ≤ b) (h4 : b < 2147483648) : tr_max (iI a) (iI b) = iI (max a b) := by
  unfold tr_max
  by_cases h : a < b
  · rw [if_pos (by rw [iI_lt h1 h2 h3 h4]; exact h), show max a b = b by omega]
  · rw [if_neg (by rw [iI_lt h1 h2 h3 h4]; exact h), show max a b = a by omega]
theorem tr_minI {a b : Int} (h1 : -2147483648 ≤ a) (h2 : a < 2147483648) (h3 : -2147483648 ≤ b) (h4 : b < 2147483648) : tr_min (iI a) (iI b) = iI (min a b) := by
  unfold tr_min
  by_cases h : b < a
  · rw [if_pos (by rw [iI_lt h3 h4 h1 h2]; exact h), show min a b = b by omega]
  · rw [if_neg (by rw [iI_lt h3 h4 h1 h2]; exact h), show min a b = a by omega]
/-- n departures, w: minutes by cell, -9 where there is no wait -/
def okn (n : Nat) (w : Nat → Int) : Prop := 1 ≤ n ∧ n ≤ 6 ∧ ∀ c, c < 36 → (w c = -9 ∨ (0 ≤ w c ∧ w c ≤ 9)) ∧ ((n ≤ c / 6 ∨ n ≤ c % 6) → w c = -9)
def netI (i : Nat) : Prop := i = 2 ∨ i = 4 ∨ i = 6 ∨ i = 8
/-- the class's net at a cell -/
def tN (h : tr_H) (i n : Nat) (w : Nat → Int) : Prop := netI i ∧ okn n w ∧ h.1 i 1 = iI n ∧ ∀ c, c < 36 → h.1 (i + 1) c = iI (w c)
def eB (n : Nat) (w : Nat → Int) (i j : Nat) : Bool := decide (i < n ∧ j < n ∧ w (6 * i + j) ≠ -9)
def wN (w : Nat → Int) (i j : Nat) : Int := w (6 * i + j)
def woI (n : Nat) (w : Nat → Int) (a b : Int) : Int := if 0 ≤ a ∧ a < n ∧ 0 ≤ b ∧ b < n then w (6 * a.toNat + b.toNat) else -9
theorem okn_b {n : Nat} {w : Nat → Int} (h : okn n w) {c : Nat} (hc : c < 36) : -9 ≤ w c ∧ w c ≤ 9 := by
  rcases (h.2.2 c hc).1 with q | q <;> omega
theorem woI_b {n : Nat} {w : Nat → Int} (h : okn n w) (a b : Int) : -9 ≤ woI n w a b ∧ woI n w a b ≤ 9 := by
  unfold woI
  have := h.2.1
  split
  · exact okn_b h (by omega)
  · omega
theorem woI_in {n : Nat} {w : Nat → Int} {i j : Nat} (hi : i < n) (hj : j < n) : woI n w i j = w (6 * i + j) := by
  unfold woI
  rw [if_pos (by omega)]
  simp
theorem n_of {h : tr_H} {i n : Nat} {w : Nat → Int} (hN : tN h i n w) {a b : Int} (a1 : -2147483648 ≤ a) (a2 : a < 2147483648) (b1 : -2147483648 ≤ b) (b2 : b < 2147483648) : f_X2_of i (iI a) (iI b) h = some (iI (woI n w a b)) := by
  obtain ⟨-, h1, h2, h3⟩ := hN
  have n1 := h1.1
  have n2 := h1.2.1
  unfold f_X2_of woI
  rw [h2]
  by_cases c1 : a < 0
  · simp (disch := omega) only [iI_0, iI_1, iI_2, iI_3, iI_4, iI_5, iI_6, iI_7, iI_8, iI_9, iI_10, iI_11, iI_12, iI_14, iI_20, iI_30, iI_31, iI_36, iI_37, iI_40, iI_48, iI_60, iI_63, iI_64, iI_78, iI_100, iI_255, iI_481, iI_1000000, iI_m1, iI_m2, iI_m3, iI_m4, iI_m9, iI_m1000000, iI_add, iI_sub, iI_mul, iI_neg, iI_lt, iI_le, iI_eq, iI_cl, tr_bd, tr_bn_some, tr_b2_some, tr_gdI, tr_nzI, if_pos, if_neg, ↓reduceIte]
  · by_cases c2 : (n : Int) ≤ a
    · simp (disch := omega) only [iI_0, iI_1, iI_2, iI_3, iI_4, iI_5, iI_6, iI_7, iI_8, iI_9, iI_10, iI_11, iI_12, iI_14, iI_20, iI_30, iI_31, iI_36, iI_37, iI_40, iI_48, iI_60, iI_63, iI_64, iI_78, iI_100, iI_255, iI_481, iI_1000000, iI_m1, iI_m2, iI_m3, iI_m4, iI_m9, iI_m1000000, iI_add, iI_sub, iI_mul, iI_neg, iI_lt, iI_le, iI_eq, iI_cl, tr_bd, tr_bn_some, tr_b2_some, tr_gdI, tr_nzI, if_pos, if_neg, ↓reduceIte]
    · by_cases c3 : b < 0
      · simp (disch := omega) only [iI_0, iI_1, iI_2, iI_3, iI_4, iI_5, iI_6, iI_7, iI_8, iI_9, iI_10, iI_11, iI_12, iI_14, iI_20, iI_30, iI_31, iI_36, iI_37, iI_40, iI_48, iI_60, iI_63, iI_64, iI_78, iI_100, iI_255, iI_481, iI_1000000, iI_m1, iI_m2, iI_m3, iI_m4, iI_m9, iI_m1000000, iI_add, iI_sub, iI_mul, iI_neg, iI_lt, iI_le, iI_eq, iI_cl, tr_bd, tr_bn_some, tr_b2_some, tr_gdI, tr_nzI, if_pos, if_neg, ↓reduceIte]
      · by_cases c4 : b < n
        · simp (disch := omega) only [iI_0, iI_1, iI_2, iI_3, iI_4, iI_5, iI_6, iI_7, iI_8, iI_9, iI_10, iI_11, iI_12, iI_14, iI_20, iI_30, iI_31, iI_36, iI_37, iI_40, iI_48, iI_60, iI_63, iI_64, iI_78, iI_100, iI_255, iI_481, iI_1000000, iI_m1, iI_m2, iI_m3, iI_m4, iI_m9, iI_m1000000, iI_add, iI_sub, iI_mul, iI_neg, iI_lt, iI_le, iI_eq, iI_cl, tr_bd, tr_bn_some, tr_b2_some, tr_gdI, tr_nzI, if_pos, if_neg, ↓reduceIte]
          rw [h3 _ (by omega), show (a * 6 + b).toNat = 6 * a.toNat + b.toNat by omega]
        · simp (disch := omega) only [iI_0, iI_1, iI_2, iI_3, iI_4, iI_5, iI_6, iI_7, iI_8, iI_9, iI_10, iI_11, iI_12, iI_14, iI_20, iI_30, iI_31, iI_36, iI_37, iI_40, iI_48, iI_60, iI_63, iI_64, iI_78, iI_100, iI_255, iI_481, iI_1000000, iI_m1, iI_m2, iI_m3, iI_m4, iI_m9, iI_m1000000, iI_add, iI_sub, iI_mul, iI_neg, iI_lt, iI_le, iI_eq, iI_cl, tr_bd, tr_bn_some, tr_b2_some, tr_gdI, tr_nzI, if_pos, if_neg, ↓reduceIte]
theorem n_has {h : tr_H} {i n : Nat} {w : Nat → Int} (hN : tN h i n w) {a : Int} (a1 : -2147483648 ≤ a) (a2 : a < 2147483648) : f_X2_has i (iI a) h = some (if 0 ≤ a ∧ a < n then 1 else 0) := by
  obtain ⟨-, h1, h2, h3⟩ := hN
  have n1 := h1.1
  have n2 := h1.2.1
  unfold f_X2_has
  rw [h2]
  by_cases c1 : a < 0
  · simp (disch := omega) only [iI_0, iI_1, iI_2, iI_3, iI_4, iI_5, iI_6, iI_7, iI_8, iI_9, iI_10, iI_11, iI_12, iI_14, iI_20, iI_30, iI_31, iI_36, iI_37, iI_40, iI_48, iI_60, iI_63, iI_64, iI_78, iI_100, iI_255, iI_481, iI_1000000, iI_m1, iI_m2, iI_m3, iI_m4, iI_m9, iI_m1000000, iI_add, iI_sub, iI_mul, iI_neg, iI_lt, iI_le, iI_eq, iI_cl, tr_bd, tr_bn_some, tr_b2_some, tr_gdI, tr_nzI, if_pos, if_neg, ↓reduceIte]
  · by_cases c2 : (n : Int) ≤ a
    · simp (disch := omega) only [iI_0, iI_1, iI_2, iI_3, iI_4, iI_5, iI_6, iI_7, iI_8, iI_9, iI_10, iI_11, iI_12, iI_14, iI_20, iI_30, iI_31, iI_36, iI_37, iI_40, iI_48, iI_60, iI_63, iI_64, iI_78, iI_100, iI_255, iI_481, iI_1000000, iI_m1, iI_m2, iI_m3, iI_m4, iI_m9, iI_m1000000, iI_add, iI_sub, iI_mul, iI_neg, iI_lt, iI_le, iI_eq, iI_cl, tr_bd, tr_bn_some, tr_b2_some, tr_gdI, tr_nzI, if_pos, if_neg, ↓reduceIte]
    · simp (disch := omega) only [iI_0, iI_1, iI_2, iI_3, iI_4, iI_5, iI_6, iI_7, iI_8, iI_9, iI_10, iI_11, iI_12, iI_14, iI_20, iI_30, iI_31, iI_36, iI_37, iI_40, iI_48, iI_60, iI_63, iI_64, iI_78, iI_100, iI_255, iI_481, iI_1000000, iI_m1, iI_m2, iI_m3, iI_m4, iI_m9, iI_m1000000, iI_add, iI_sub, iI_mul, iI_neg, iI_lt, iI_le, iI_eq, iI_cl, tr_bd, tr_bn_some, tr_b2_some, tr_gdI, tr_nzI, if_pos, if_neg, ↓reduceIte]
/-- a wait has other minutes -/
def wup (w : Nat → Int) (c : Nat) (v : Int) : Nat → Int := fun k => if k = c then v else w k
theorem okn_up {n : Nat} {w : Nat → Int} (h : okn n w) {i j : Nat} (hi : i < n) (hj : j < n) {v : Int} (hv : v = -9 ∨ (0 ≤ v ∧ v ≤ 9)) : okn n (wup w (6 * i + j) v) := by
  refine ⟨h.1, h.2.1, fun c hc => ?_⟩
  have := h.2.1
  unfold wup
  by_cases e : c = 6 * i + j
  · rw [if_pos e]
    exact ⟨hv, fun q => by omega⟩
  · rw [if_neg e]
    exact h.2.2 c hc
theorem n_lay {h : tr_H} {i n : Nat} {w : Nat → Int} (hN : tN h i n w) {a b : Int} (v : Int) (a1 : -2147483648 ≤ a) (a2 : a < 2147483648) (b1 : -2147483648 ≤ b) (b2 : b < 2147483648) : f_X2_lay i (iI a) (iI b) (iI v) h = some (if 0 ≤ a ∧ a < n ∧ 0 ≤ b ∧ b < n then (1, tr_sa h (i + 1) (upd (h.1 (i + 1)) (6 * a.toNat + b.toNat) (iI v))) else (0, h)) := by
  have g1 := n_has hN a1 a2
  have g2 := n_has hN b1 b2
  obtain ⟨-, h1, h2, h3⟩ := hN
  have n1 := h1.1
  have n2 := h1.2.1
  unfold f_X2_lay
  rw [g1, g2]
  by_cases c1 : 0 ≤ a ∧ a < n
  · by_cases c2 : 0 ≤ b ∧ b < n
    · rw [if_pos c1, if_pos c2]
      simp (disch := omega) only [iI_0, iI_1, iI_2, iI_3, iI_4, iI_5, iI_6, iI_7, iI_8, iI_9, iI_10, iI_11, iI_12, iI_14, iI_20, iI_30, iI_31, iI_36, iI_37, iI_40, iI_48, iI_60, iI_63, iI_64, iI_78, iI_100, iI_255, iI_481, iI_1000000, iI_m1, iI_m2, iI_m3, iI_m4, iI_m9, iI_m1000000, iI_add, iI_sub, iI_mul, iI_neg, iI_lt, iI_le, iI_eq, iI_cl, tr_bd, tr_bn_some, tr_b2_some, tr_gdI, tr_nzI, if_pos, if_neg, ↓reduceIte]
      rw [show (a * 6 + b).toNat = 6 * a.toNat + b.toNat by omega]
      rfl
    · rw [if_pos c1, if_neg c2]
      simp (disch := omega) only [iI_0, iI_1, iI_2, iI_3, iI_4, iI_5, iI_6, iI_7, iI_8, iI_9, iI_10, iI_11, iI_12, iI_14, iI_20, iI_30, iI_31, iI_36, iI_37, iI_40, iI_48, iI_60, iI_63, iI_64, iI_78, iI_100, iI_255, iI_481, iI_1000000, iI_m1, iI_m2, iI_m3, iI_m4, iI_m9, iI_m1000000, iI_add, iI_sub, iI_mul, iI_neg, iI_lt, iI_le, iI_eq, iI_cl, tr_bd, tr_bn_some, tr_b2_some, tr_gdI, tr_nzI, if_pos, if_neg, ↓reduceIte]
  · rw [if_neg c1]
    simp (disch := omega) only [iI_0, iI_1, iI_2, iI_3, iI_4, iI_5, iI_6, iI_7, iI_8, iI_9, iI_10, iI_11, iI_12, iI_14, iI_20, iI_30, iI_31, iI_36, iI_37, iI_40, iI_48, iI_60, iI_63, iI_64, iI_78, iI_100, iI_255, iI_481, iI_1000000, iI_m1, iI_m2, iI_m3, iI_m4, iI_m9, iI_m1000000, iI_add, iI_sub, iI_mul, iI_neg, iI_lt, iI_le, iI_eq, iI_cl, tr_bd, tr_bn_some, tr_b2_some, tr_gdI, tr_nzI, if_pos, if_neg, ↓reduceIte]
theorem tN_up {h : tr_H} {i n : Nat} {w : Nat → Int} (hN : tN h i n w) {a b : Nat} (ha : a < n) (hb : b < n) {v : Int} (hv : v = -9 ∨ (0 ≤ v ∧ v ≤ 9)) : tN (tr_sa h (i + 1) (upd (h.1 (i + 1)) (6 * a + b) (iI v))) i n (wup w (6 * a + b) v) := by
  obtain ⟨h0, h1, h2, h3⟩ := hN
  refine ⟨h0, okn_up h1 ha hb hv, ?_, fun c hc => ?_⟩
  · rw [tr_sa_ne _ _ (by omega)]; exact h2
  · rw [tr_sa_at]
    unfold upd wup
    by_cases e : c = 6 * a + b
    · rw [if_pos e, if_pos e]
    · rw [if_neg e, if_neg e, h3 c hc]
theorem tN_ne {h : tr_H} {i n : Nat} {w : Nat → Int} (hN : tN h i n w) {c : Nat} (f : Nat → Int32) (h1 : i ≠ c) (h2 : i + 1 ≠ c) : tN (tr_sa h c f) i n w := by
  obtain ⟨g0, g1, g2, g3⟩ := hN
  exact ⟨g0, g1, by rw [tr_sa_ne _ _ h1]; exact g2, fun k hk => by rw [tr_sa_ne _ _ h2]; exact g3 k hk⟩
/-- how many waits there are -/
def cnt (p : Nat → Bool) : Nat → Nat
  | 0 => 0
  | k + 1 => cnt p k + (if p k then 1 else 0)
theorem cnt_le (p : Nat → Bool) (k : Nat) : cnt p k ≤ k := by
  induction k with
  | zero => exact Nat.le_refl _
  | succ k ih => unfold cnt; split <;> omega
def nwt (w : Nat → Int) : Nat := cnt (fun c => decide (w c ≠ -9)) 36
theorem n_waits {h : tr_H} {i n : Nat} {w : Nat → Int} (hN : tN h i n w) : f_X2_waits i h = some (iI (nwt w)) := by
  obtain ⟨-, h1, h2, h3⟩ := hN
  unfold f_X2_waits
  have key := tr_seq (f := fun q => f_X2_waits_L4 h i q.1 q.2) (fun k => (iI (cnt (fun c => decide (w c ≠ -9)) k), iI k)) (lo := 0) (hi := 36) (r := iI (nwt w)) (by omega) ?_ ?_
  · rw [show ((0 : Int32), (0 : Int32)) = (iI (cnt (fun c => decide (w c ≠ -9)) 0 : Nat), iI (0 : Nat)) from rfl, key]
    rfl
  · intro k _ hk
    have hb := okn_b h1 hk
    have hc := cnt_le (fun c => decide (w c ≠ -9)) k
    have h4 := h3 k hk
    show f_X2_waits_L4 h i (iI (cnt (fun c => decide (w c ≠ -9)) k)) (iI k) = _
    unfold f_X2_waits_L4
    by_cases e : w k = -9
    · simp (disch := omega) only [iI_0, iI_1, iI_2, iI_3, iI_4, iI_5, iI_6, iI_7, iI_8, iI_9, iI_10, iI_11, iI_12, iI_14, iI_20, iI_30, iI_31, iI_36, iI_37, iI_40, iI_48, iI_60, iI_63, iI_64, iI_78, iI_100, iI_255, iI_481, iI_1000000, iI_m1, iI_m2, iI_m3, iI_m4, iI_m9, iI_m1000000, iI_add, iI_sub, iI_mul, iI_neg, iI_lt, iI_le, iI_eq, iI_cl, tr_bd, tr_bn_some, tr_b2_some, tr_gdI, tr_nzI, if_pos, if_neg, ↓reduceIte, Int.toNat_natCast, h4, e]
      simp only [cnt, e]
      simp
    · simp (disch := omega) only [iI_0, iI_1, iI_2, iI_3, iI_4, iI_5, iI_6, iI_7, iI_8, iI_9, iI_10, iI_11, iI_12, iI_14, iI_20, iI_30, iI_31, iI_36, iI_37, iI_40, iI_48, iI_60, iI_63, iI_64, iI_78, iI_100, iI_255, iI_481, iI_1000000, iI_m1, iI_m2, iI_m3, iI_m4, iI_m9, iI_m1000000, iI_add, iI_sub, iI_mul, iI_neg, iI_lt, iI_le, iI_eq, iI_cl, tr_bd, tr_bn_some, tr_b2_some, tr_gdI, tr_nzI, if_pos, if_neg, ↓reduceIte, Int.toNat_natCast, h4]
      simp [cnt, e]
  · show f_X2_waits_L4 h i (iI (cnt (fun c => decide (w c ≠ -9)) 36)) (iI (36 : Nat)) = _
    unfold f_X2_waits_L4
    simp (disch := omega) only [iI_0, iI_1, iI_2, iI_3, iI_4, iI_5, iI_6, iI_7, iI_8, iI_9, iI_10, iI_11, iI_12, iI_14, iI_20, iI_30, iI_31, iI_36, iI_37, iI_40, iI_48, iI_60, iI_63, iI_64, iI_78, iI_100, iI_255, iI_481, iI_1000000, iI_m1, iI_m2, iI_m3, iI_m4, iI_m9, iI_m1000000, iI_add, iI_sub, iI_mul, iI_neg, iI_lt, iI_le, iI_eq, iI_cl, tr_bd, tr_bn_some, tr_b2_some, tr_gdI, tr_nzI, if_pos, if_neg, ↓reduceIte]
    rfl
