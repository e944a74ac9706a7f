/-! the class's gains -/
theorem tr_inv {σ ρ : Type} {f : σ → Option (σ ⊕ ρ)} (J : Nat → σ → Prop) (K : ρ → Prop) {hi : Nat} (step : ∀ k s, k < hi → J k s → ∃ s', f s = some (.inl s') ∧ J (k + 1) s') (out : ∀ s, J hi s → ∃ r, f s = some (.inr r) ∧ K r) : ∀ (lo : Nat) (s : σ), lo ≤ hi → J lo s → ∃ r, tr_lp f s = some r ∧ K r := by
  intro lo
  generalize hd : hi - lo = d
  induction d generalizing lo with
  | zero =>
    intro s hle hJ
    obtain rfl : lo = hi := by omega
    obtain ⟨r, h1, h2⟩ := out s hJ
    exact ⟨r, tr_lp_out h1, h2⟩
  | succ d ih =>
    intro s hle hJ
    obtain ⟨s', h1, h2⟩ := step lo s (by omega) hJ
    obtain ⟨r, h3, h4⟩ := ih (lo + 1) (by omega) s' (by omega) h2
    exact ⟨r, by rw [tr_lp_go h1]; exact h3, h4⟩
/-- a table of six by six, filled up to a place with one and from there on with another -/
def tabA (n : Nat) (a b : Nat → Nat → Int) (I J : Nat) (f : Nat → Int32) : Prop := ∀ i j, i < n → j < n → f (6 * i + j) = iI (if i < I ∨ (i = I ∧ j < J) then a i j else b i j)
theorem tabA_up {n : Nat} {a b : Nat → Nat → Int} {I J : Nat} {f : Nat → Int32} (hn : n ≤ 6) (h : tabA n a b I J f) (hJ : J < n) : tabA n a b I (J + 1) (upd f (6 * I + J) (iI (a I J))) := by
  intro i j hi hj
  unfold upd
  by_cases e : 6 * i + j = 6 * I + J
  · have e1 : i = I := by omega
    have e2 : j = J := by omega
    subst e1; subst e2
    rw [if_pos rfl, if_pos (by omega)]
  · rw [if_neg e, h i j hi hj]
    congr 1
    by_cases c : i < I ∨ (i = I ∧ j < J)
    · rw [if_pos c, if_pos (by omega)]
    · rw [if_neg c, if_neg (by omega)]
theorem tabA_nx {n : Nat} {a b : Nat → Nat → Int} {I : Nat} {f : Nat → Int32} (h : tabA n a b I n f) : tabA n a b (I + 1) 0 f := by
  intro i j hi hj
  rw [h i j hi hj]
  congr 1
  by_cases c : i < I ∨ (i = I ∧ j < n)
  · rw [if_pos c, if_pos (by omega)]
  · rw [if_neg c, if_neg (by omega)]
theorem tabA_end {n : Nat} {a b c : Nat → Nat → Int} {f : Nat → Int32} (h : tabA n a b n 0 f) : tabA n c a 0 0 f := by
  intro i j hi hj
  rw [h i j hi hj, if_pos (by omega), if_neg (by omega)]
theorem w_gainOf {h : tr_H} {i n : Nat} {w : Nat → Int} {P : Int} (hN : tN h i n w) (hp : h.1 21 2 = iI P) {a b : Nat} (ha : a < n) (hb : b < n) : f_X6_gainOf i (iI a) (iI b) h = some (iI (if w (6 * a + b) = -9 then NOW else 60 * w (6 * a + b) - P)) := by
  have h6 := hN.2.1.2.1
  have b1 := okn_b hN.2.1 (c := 6 * a + b) (by omega)
  unfold f_X6_gainOf
  rw [n_of hN (by omega) (by omega) (by omega) (by omega), woI_in ha hb, tr_bn_some, hp]
  by_cases c : w (6 * a + b) = -9
  · rw [c, if_pos (show iI (-9) = -9 from rfl), if_pos rfl]
    rfl
  · rw [if_neg (by rw [iI_m9, iI_eq (by omega) (by omega) (by omega) (by omega)]; exact c), if_neg c, iI_60, iI_mul, iI_sub]
def tabF (n : Nat) (a : Nat → Nat → Int) (I J : Nat) (f : Nat → Int32) : Prop := ∀ i j, i < n → j < n → (i < I ∨ (i = I ∧ j < J)) → f (6 * i + j) = iI (a i j)
theorem tabF_up {n : Nat} {a : Nat → Nat → Int} {I J : Nat} {f : Nat → Int32} (hn : n ≤ 6) (h : tabF n a I J f) (hJ : J < n) : tabF n a I (J + 1) (upd f (6 * I + J) (iI (a I J))) := by
  intro i j hi hj hc
  unfold upd
  by_cases e : 6 * i + j = 6 * I + J
  · have e1 : i = I := by omega
    have e2 : j = J := by omega
    subst e1; subst e2
    rw [if_pos rfl]
  · rw [if_neg e, h i j hi hj (by omega)]
theorem tabF_nx {n : Nat} {a : Nat → Nat → Int} {I : Nat} {f : Nat → Int32} (h : tabF n a I n f) : tabF n a (I + 1) 0 f := by
  intro i j hi hj hc
  exact h i j hi hj (by omega)
theorem FW_col {n : Nat} {w : Nat → Int} {P : Int} {k : Nat} (hz : FW n w P k k k = 0) (i : Nat) : FW n w P (k + 1) i k = FW n w P k i k := by
  rw [FW_s, hz]
  split <;> omega
theorem FW_row {n : Nat} {w : Nat → Int} {P : Int} {k : Nat} (hz : FW n w P k k k = 0) (j : Nat) : FW n w P (k + 1) k j = FW n w P k k j := by
  rw [FW_s, hz]
  split <;> omega
theorem w_join {h : tr_H} {n : Nat} {w : Nat → Int} {P : Int} (hw : okn n w) (hG : noGain n w P) {k I J : Nat} (hk : k < n) (hI : I < n) (hJ : J < n) (ht : tabA n (FW n w P (k + 1)) (FW n w P k) I J (h.1 23)) : ∃ g, f_X6_join (iI I) (iI k) (iI J) h = some (tr_sa h 23 g) ∧ tabA n (FW n w P (k + 1)) (FW n w P k) I (J + 1) g := by
  have h6 := hw.2.1
  have hz := (FW_a hw hG k (by omega) k k hk hk).2
  have e1 : h.1 23 (6 * I + k) = iI (FW n w P k I k) := by
    rw [ht I k hI hk]
    split
    · rw [FW_col hz]
    · rfl
  have e2 : h.1 23 (6 * k + J) = iI (FW n w P k k J) := by
    rw [ht k J hk hJ]
    split
    · rw [FW_row hz]
    · rfl
  have e3 : h.1 23 (6 * I + J) = iI (FW n w P k I J) := by
    rw [ht I J hI hJ, if_neg (by omega)]
  have b1 := FW_b hw hG (k := k) (by omega) hI hk
  have b2 := FW_b hw hG (k := k) (by omega) hk hJ
  have b3 := FW_b hw hG (k := k) (by omega) hI hJ
  have up := tabA_up h6 ht hJ
  have n1 : ((I : Int) * 6 + (k : Int)).toNat = 6 * I + k := by omega
  have n2 : ((k : Int) * 6 + (J : Int)).toNat = 6 * k + J := by omega
  have n3 : ((I : Int) * 6 + (J : Int)).toNat = 6 * I + J := by omega
  -- unchanged, where one of the two isn't there
  have same : FW n w P (k + 1) I J = FW n w P k I J → tabA n (FW n w P (k + 1)) (FW n w P k) I (J + 1) (h.1 23) := by
    intro q
    have : upd (h.1 23) (6 * I + J) (iI (FW n w P (k + 1) I J)) = h.1 23 := by
      funext j
      unfold upd
      by_cases ej : j = 6 * I + J
      · rw [if_pos ej, ej, q, e3]
      · rw [if_neg ej]
    rw [this] at up
    exact up
  unfold f_X6_join
  unfold NOW at b1 b2 b3
  by_cases c1 : FW n w P k I k = NOW
  · refine ⟨h.1 23, ?_, same (by rw [FW_s, if_neg (fun q => q.1 c1)])⟩
    rw [c1] at e1
    rw [tr_sa_self]
    simp (disch := omega) only [iI_0, iI_1, iI_2, iI_3, iI_4, iI_5, iI_6, iI_7, iI_8, iI_9, iI_10, iI_11, iI_12, iI_14, iI_20, iI_30, iI_31, iI_36, iI_37, iI_40, iI_48, iI_60, iI_63, iI_64, iI_78, iI_100, iI_255, iI_481, iI_1000000, iI_m1, iI_m2, iI_m3, iI_m4, iI_m9, iI_m1000000, iI_add, iI_sub, iI_mul, iI_neg, iI_lt, iI_le, iI_eq, iI_cl, tr_bd, tr_bn_some, tr_b2_some, tr_gdI, tr_nzI, if_pos, if_neg, ↓reduceIte, n1, n2, n3, e1, e2]
    rfl
  · by_cases c2 : FW n w P k k J = NOW
    · refine ⟨h.1 23, ?_, same (by rw [FW_s, if_neg (fun q => q.2 c2)])⟩
      rw [c2] at e2
      unfold NOW at c1
      rw [tr_sa_self]
      simp (disch := omega) only [iI_0, iI_1, iI_2, iI_3, iI_4, iI_5, iI_6, iI_7, iI_8, iI_9, iI_10, iI_11, iI_12, iI_14, iI_20, iI_30, iI_31, iI_36, iI_37, iI_40, iI_48, iI_60, iI_63, iI_64, iI_78, iI_100, iI_255, iI_481, iI_1000000, iI_m1, iI_m2, iI_m3, iI_m4, iI_m9, iI_m1000000, iI_add, iI_sub, iI_mul, iI_neg, iI_lt, iI_le, iI_eq, iI_cl, tr_bd, tr_bn_some, tr_b2_some, tr_gdI, tr_nzI, if_pos, if_neg, ↓reduceIte, n1, n2, n3, e1, e2]
      rfl
    · refine ⟨_, ?_, up⟩
      have hs : FW n w P (k + 1) I J = max (FW n w P k I J) (FW n w P k I k + FW n w P k k J) := by rw [FW_s, if_pos ⟨c1, c2⟩]
      rw [hs]
      unfold NOW at c1 c2
      simp (disch := omega) only [iI_0, iI_1, iI_2, iI_3, iI_4, iI_5, iI_6, iI_7, iI_8, iI_9, iI_10, iI_11, iI_12, iI_14, iI_20, iI_30, iI_31, iI_36, iI_37, iI_40, iI_48, iI_60, iI_63, iI_64, iI_78, iI_100, iI_255, iI_481, iI_1000000, iI_m1, iI_m2, iI_m3, iI_m4, iI_m9, iI_m1000000, iI_add, iI_sub, iI_mul, iI_neg, iI_lt, iI_le, iI_eq, iI_cl, tr_bd, tr_bn_some, tr_b2_some, tr_gdI, tr_nzI, if_pos, if_neg, ↓reduceIte, tr_maxI, tr_minI, n1, n2, n3, e1, e2, e3]
      rfl
theorem w_compare {h : tr_H} {i n : Nat} {w : Nat → Int} (hN : tN h i n w) : ∃ f g, f_X6_compare i h = some (tr_sa (tr_si (tr_sa h 22 f) 21 2 (iI (pac n w))) 23 g) ∧ ∀ a b, a < n → b < n → g (6 * a + b) = iI (FW n w (pac n w) n a b) := by
  have hw := hN.2.1
  have h6 := hw.2.1
  have h1 := hw.1
  have hG := pac_noGain hw
  have hi := hN.1
  obtain ⟨f, hf⟩ := w_slowest hN
  obtain ⟨hb, ehb⟩ : ∃ hb, hb = tr_si (tr_sa h 22 f) 21 2 (iI (pac n w)) := ⟨_, rfl⟩
  have hNb : ∀ g, tN (tr_sa hb 23 g) i n w := by
    intro g
    refine tN_ne ?_ g (by unfold netI at hi; omega) (by unfold netI at hi; omega)
    rw [ehb]
    unfold tr_si
    refine tN_ne ?_ _ (by unfold netI at hi; omega) (by unfold netI at hi; omega)
    exact tN_ne hN f (by unfold netI at hi; omega) (by unfold netI at hi; omega)
  have hsz : ∀ g, (tr_sa hb 23 g).1 i 1 = iI n := fun g => (hNb g).2.2.1
  have hpc : ∀ g, (tr_sa hb 23 g).1 21 2 = iI (pac n w) := fun g => by rw [tr_sa_ne _ _ (by decide), ehb, si_s]
  have hpb := hG.1
  generalize hPe : pac n w = P at *
  -- the first table
  obtain ⟨r1, k1, g1, rfl, t1⟩ := tr_inv (f := fun q => f_X6_compare_L11 i q.1 q.2) (fun k s => ∃ g, s = (iI k, tr_sa hb 23 g) ∧ tabF n (FW n w P 0) k 0 g) (fun r => ∃ g, r = tr_sa hb 23 g ∧ tabF n (FW n w P 0) n 0 g) (hi := n) (by
    rintro k s hk ⟨g, rfl, hg⟩
    obtain ⟨r, k2, g', rfl, t2⟩ := tr_inv (f := fun q => f_X6_compare_L21 i (iI k) q.1 q.2) (fun j s => ∃ g, s = (iI j, tr_sa hb 23 g) ∧ tabF n (FW n w P 0) k j g) (fun r => ∃ g, r = tr_sa hb 23 g ∧ tabF n (FW n w P 0) k n g) (hi := n) (by
      rintro j s hj ⟨g, rfl, hg⟩
      refine ⟨(iI (j + 1 : Nat), tr_sa hb 23 (upd g (6 * k + j) (iI (FW n w P 0 k j)))), ?_, _, rfl, tabF_up h6 hg hj⟩
      show f_X6_compare_L21 i (iI k) (iI j) (tr_sa hb 23 g) = _
      unfold f_X6_compare_L21
      rw [hsz]
      have n1 : ((k : Int) * 6 + (j : Int)).toNat = 6 * k + j := by omega
      by_cases e : k = j
      · have e0 : FW n w P 0 k j = 0 := by unfold FW; rw [if_pos e]
        rw [e0]
        subst e
        simp (disch := omega) only [iI_0, iI_1, iI_2, iI_3, iI_4, iI_5, iI_6, iI_7, iI_8, iI_9, iI_10, iI_11, iI_12, iI_14, iI_20, iI_30, iI_31, iI_36, iI_37, iI_40, iI_48, iI_60, iI_63, iI_64, iI_78, iI_100, iI_255, iI_481, iI_1000000, iI_m1, iI_m2, iI_m3, iI_m4, iI_m9, iI_m1000000, iI_add, iI_sub, iI_mul, iI_neg, iI_lt, iI_le, iI_eq, iI_cl, tr_bd, tr_bn_some, tr_b2_some, tr_gdI, tr_nzI, if_pos, if_neg, ↓reduceIte, n1, tr_si, tr_sa_at, tr_sa_sa]
        rfl
      · have e0 : FW n w P 0 k j = if w (6 * k + j) = -9 then NOW else 60 * w (6 * k + j) - P := by unfold FW; rw [if_neg e]
        rw [e0]
        have gk := w_gainOf (hNb g) (hpc g) hk hj
        have e3 : ¬ ((k : Int) = (j : Int)) := by omega
        simp (disch := omega) only [iI_0, iI_1, iI_2, iI_3, iI_4, iI_5, iI_6, iI_7, iI_8, iI_9, iI_10, iI_11, iI_12, iI_14, iI_20, iI_30, iI_31, iI_36, iI_37, iI_40, iI_48, iI_60, iI_63, iI_64, iI_78, iI_100, iI_255, iI_481, iI_1000000, iI_m1, iI_m2, iI_m3, iI_m4, iI_m9, iI_m1000000, iI_add, iI_sub, iI_mul, iI_neg, iI_lt, iI_le, iI_eq, iI_cl, tr_bd, tr_bn_some, tr_b2_some, tr_gdI, tr_nzI, if_pos, if_neg, ↓reduceIte, n1, gk, tr_si, tr_sa_at, tr_sa_sa]
        rfl) (by
      rintro s ⟨g, rfl, hg⟩
      refine ⟨tr_sa hb 23 g, ?_, g, rfl, hg⟩
      show f_X6_compare_L21 i (iI k) (iI n) (tr_sa hb 23 g) = _
      unfold f_X6_compare_L21
      rw [hsz]
      simp (disch := omega) only [iI_0, iI_1, iI_2, iI_3, iI_4, iI_5, iI_6, iI_7, iI_8, iI_9, iI_10, iI_11, iI_12, iI_14, iI_20, iI_30, iI_31, iI_36, iI_37, iI_40, iI_48, iI_60, iI_63, iI_64, iI_78, iI_100, iI_255, iI_481, iI_1000000, iI_m1, iI_m2, iI_m3, iI_m4, iI_m9, iI_m1000000, iI_add, iI_sub, iI_mul, iI_neg, iI_lt, iI_le, iI_eq, iI_cl, tr_bd, tr_bn_some, tr_b2_some, tr_gdI, tr_nzI, if_pos, if_neg, ↓reduceIte]) 0 (iI (0 : Nat), tr_sa hb 23 g) (by omega) ⟨g, rfl, hg⟩
    refine ⟨(iI (k + 1 : Nat), tr_sa hb 23 g'), ?_, g', rfl, tabF_nx t2⟩
    show f_X6_compare_L11 i (iI k) (tr_sa hb 23 g) = _
    unfold f_X6_compare_L11
    rw [hsz, if_neg (by rw [iI_le (by omega) (by omega) (by omega) (by omega)]; omega), show ((0 : Int32), tr_sa hb 23 g) = (iI (0 : Nat), tr_sa hb 23 g) from rfl, k2, tr_bn_some]
    unfold f_X6_compare_E66 tr_bd
    rw [iI_1, iI_add]
    rfl) (by
    rintro s ⟨g, rfl, hg⟩
    refine ⟨tr_sa hb 23 g, ?_, g, rfl, hg⟩
    show f_X6_compare_L11 i (iI n) (tr_sa hb 23 g) = _
    unfold f_X6_compare_L11
    rw [hsz, if_pos (Int32.le_refl _)]) 0 (iI (0 : Nat), tr_sa hb 23 (hb.1 23)) (by omega) ⟨hb.1 23, rfl, fun a b _ _ q => by omega⟩
  -- the rounds over each departure
  obtain ⟨r2, k2, g2, rfl, t2⟩ := tr_inv (f := fun q => f_X6_compare_L74 i q.1 q.2) (fun k s => ∃ g, s = (iI k, tr_sa hb 23 g) ∧ ∀ a b, a < n → b < n → g (6 * a + b) = iI (FW n w P k a b)) (fun r => ∃ g, r = tr_sa hb 23 g ∧ ∀ a b, a < n → b < n → g (6 * a + b) = iI (FW n w P n a b)) (hi := n) (by
    rintro k s hk ⟨g, rfl, hg⟩
    obtain ⟨r, k3, g', rfl, t3⟩ := tr_inv (f := fun q => f_X6_compare_L84 i (iI k) q.1 q.2) (fun I s => ∃ g, s = (iI I, tr_sa hb 23 g) ∧ tabA n (FW n w P (k + 1)) (FW n w P k) I 0 g) (fun r => ∃ g, r = tr_sa hb 23 g ∧ tabA n (FW n w P (k + 1)) (FW n w P k) n 0 g) (hi := n) (by
      rintro I s hI ⟨g, rfl, hg⟩
      obtain ⟨r, k4, g', rfl, t4⟩ := tr_inv (f := fun q => f_X6_compare_L95 i (iI I) (iI k) q.1 q.2) (fun J s => ∃ g, s = (iI J, tr_sa hb 23 g) ∧ tabA n (FW n w P (k + 1)) (FW n w P k) I J g) (fun r => ∃ g, r = tr_sa hb 23 g ∧ tabA n (FW n w P (k + 1)) (FW n w P k) I n g) (hi := n) (by
        rintro J s hJ ⟨g, rfl, hg⟩
        obtain ⟨g', q1, q2⟩ := w_join (h := tr_sa hb 23 g) hw hG hk hI hJ (by rw [tr_sa_at]; exact hg)
        refine ⟨(iI (J + 1 : Nat), tr_sa hb 23 g'), ?_, g', rfl, q2⟩
        show f_X6_compare_L95 i (iI I) (iI k) (iI J) (tr_sa hb 23 g) = _
        unfold f_X6_compare_L95
        rw [hsz, if_neg (by rw [iI_le (by omega) (by omega) (by omega) (by omega)]; omega), q1, tr_bn_some, tr_sa_sa]
        unfold tr_bd
        rw [iI_1, iI_add]
        rfl) (by
        rintro s ⟨g, rfl, hg⟩
        refine ⟨tr_sa hb 23 g, ?_, g, rfl, hg⟩
        show f_X6_compare_L95 i (iI I) (iI k) (iI n) (tr_sa hb 23 g) = _
        unfold f_X6_compare_L95
        rw [hsz, if_pos (Int32.le_refl _)]) 0 (iI (0 : Nat), tr_sa hb 23 g) (by omega) ⟨g, rfl, hg⟩
      refine ⟨(iI (I + 1 : Nat), tr_sa hb 23 g'), ?_, g', rfl, tabA_nx t4⟩
      show f_X6_compare_L84 i (iI k) (iI I) (tr_sa hb 23 g) = _
      unfold f_X6_compare_L84
      rw [hsz, if_neg (by rw [iI_le (by omega) (by omega) (by omega) (by omega)]; omega), show ((0 : Int32), tr_sa hb 23 g) = (iI (0 : Nat), tr_sa hb 23 g) from rfl, k4, tr_bn_some]
      unfold f_X6_compare_E118 tr_bd
      rw [iI_1, iI_add]
      rfl) (by
      rintro s ⟨g, rfl, hg⟩
      refine ⟨tr_sa hb 23 g, ?_, g, rfl, hg⟩
      show f_X6_compare_L84 i (iI k) (iI n) (tr_sa hb 23 g) = _
      unfold f_X6_compare_L84
      rw [hsz, if_pos (Int32.le_refl _)]) 0 (iI (0 : Nat), tr_sa hb 23 g) (by omega) ⟨g, rfl, fun a b ha hb => by rw [if_neg (by omega)]; exact hg a b ha hb⟩
    refine ⟨(iI (k + 1 : Nat), tr_sa hb 23 g'), ?_, g', rfl, fun a b ha hb => by rw [t3 a b ha hb, if_pos (by omega)]⟩
    show f_X6_compare_L74 i (iI k) (tr_sa hb 23 g) = _
    unfold f_X6_compare_L74
    rw [hsz, if_neg (by rw [iI_le (by omega) (by omega) (by omega) (by omega)]; omega), show ((0 : Int32), tr_sa hb 23 g) = (iI (0 : Nat), tr_sa hb 23 g) from rfl, k3, tr_bn_some]
    unfold f_X6_compare_E124 tr_bd
    rw [iI_1, iI_add]
    rfl) (by
    rintro s ⟨g, rfl, hg⟩
    refine ⟨tr_sa hb 23 g, ?_, g, rfl, hg⟩
    show f_X6_compare_L74 i (iI n) (tr_sa hb 23 g) = _
    unfold f_X6_compare_L74
    rw [hsz, if_pos (Int32.le_refl _)]) 0 (iI (0 : Nat), tr_sa hb 23 g1) (by omega) ⟨g1, rfl, fun a b ha hb => t1 a b ha hb (by omega)⟩
  refine ⟨f, g2, ?_, t2⟩
  unfold f_X6_compare
  rw [hf, tr_b2_some]
  unfold tr_bd
  dsimp only
  rw [← ehb, show ((0 : Int32), hb) = (iI (0 : Nat), tr_sa hb 23 (hb.1 23)) from by rw [tr_sa_self]; rfl, k1, tr_bn_some]
  unfold f_X6_compare_E72
  rw [show ((0 : Int32), tr_sa hb 23 g1) = (iI (0 : Nat), tr_sa hb 23 g1) from rfl, k2]
  rfl
