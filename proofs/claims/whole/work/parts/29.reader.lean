/-! both sides read the text -/
theorem iI_38 : (38 : Int32) = iI 38 := by decide
theorem iI_13 : (13 : Int32) = iI 13 := by decide
theorem iI_1000 : (1000 : Int32) = iI 1000 := by decide
theorem n_begin (h : tr_H) {v : Int} (v1 : -10000 ≤ v) (v2 : v ≤ 10000) : ∃ h', f_X2_begin 4 (iI v) h = some h' ∧ fr [4, 5, 12] h h' ∧ tN h' 4 (max 1 (min 6 v)).toNat (fun _ => -9) := by
  refine ⟨tr_sa (tr_si h 4 1 (iI (max 1 (min 6 v)))) 5 (fun j => if j < 36 then -9 else (tr_si h 4 1 (iI (max 1 (min 6 v)))).1 5 j), ?_, fr_tr (fr_si _ _ _ (by simp)) (fr_sa _ _ (by simp)), ?_⟩
  · unfold f_X2_begin tr_bd
    dsimp only
    rw [iI_1, iI_6, tr_minI (by omega) (by omega) (by omega) (by omega), tr_maxI (by omega) (by omega) (by omega) (by omega), j_fill _ 5 36 (-9) (by decide)]
    rfl
  · refine ⟨Or.inr (Or.inl rfl), ⟨by omega, by omega, fun c hc => ⟨Or.inl rfl, fun _ => rfl⟩⟩, ?_, fun c hc => ?_⟩
    · rw [tr_sa_ne _ _ (by decide), si_s]
      congr 1
      omega
    · rw [tr_sa_at, if_pos hc]
      rfl
def allF (n : Nat) (w : Nat → Int) (a : Nat) : Prop := ∀ t, t < n → w (6 * a + t) ≠ -9
theorem n_leads {h : tr_H} {i n : Nat} {w : Nat → Int} (hN : tN h i n w) {a : Nat} (ha : a < n) : (allF n w a → f_X2_leadsToAll i (iI a) h = some 1) ∧ (¬ allF n w a → f_X2_leadsToAll i (iI a) h = some 0) := by
  have hw := hN.2.1
  have h6 := hw.2.1
  have step : ∀ t, t < n → f_X2_leadsToAll_L2 h i (iI a) (iI t) = if w (6 * a + t) = -9 then some (.inr (.inr 0)) else some (.inl (iI (t + 1 : Nat))) := by
    intro t ht
    have ho := n_of hN (a := (a : Int)) (b := (t : Int)) (by omega) (by omega) (by omega) (by omega)
    rw [woI_in ha ht] at ho
    have b3 := okn_b hw (c := 6 * a + t) (by omega)
    unfold f_X2_leadsToAll_L2
    rw [hN.2.2.1, if_neg (by rw [iI_le (by omega) (by omega) (by omega) (by omega)]; omega), ho, tr_bn_some]
    by_cases c : w (6 * a + t) = -9
    · rw [if_pos c, c, if_pos (show iI (-9) = -9 from rfl)]
    · rw [if_neg c, if_neg (by rw [iI_m9, iI_eq (by omega) (by omega) (by omega) (by omega)]; exact c)]
      unfold tr_bd
      rw [iI_1, iI_add]
      rfl
  constructor
  · intro hall
    unfold f_X2_leadsToAll
    have key := tr_seq (f := fun q => f_X2_leadsToAll_L2 h i (iI a) q) (fun m => iI m) (lo := 0) (hi := n) (r := (.inl () : Unit ⊕ Int32)) (by omega) (fun t _ ht => by
      show f_X2_leadsToAll_L2 h i (iI a) (iI t) = _
      rw [step t ht, if_neg (hall t ht)]) (by
      show f_X2_leadsToAll_L2 h i (iI a) (iI n) = _
      unfold f_X2_leadsToAll_L2
      rw [hN.2.2.1, if_pos (Int32.le_refl _)])
    rw [show (0 : Int32) = iI (0 : Nat) from rfl, key]
    rfl
  · intro hno
    have hex : ∃ t, t < n ∧ w (6 * a + t) = -9 ∧ ∀ u, u < t → w (6 * a + u) ≠ -9 := by
      have h1 : ∃ t, t < n ∧ w (6 * a + t) = -9 := by
        apply Classical.byContradiction
        intro q
        exact hno (fun t ht e => q ⟨t, ht, e⟩)
      obtain ⟨t, ht, e⟩ := h1
      induction t using Nat.strongRecOn with
      | ind t ih =>
        by_cases c : ∀ u, u < t → w (6 * a + u) ≠ -9
        · exact ⟨t, ht, e, c⟩
        · have : ∃ u, u < t ∧ w (6 * a + u) = -9 := by
            apply Classical.byContradiction
            intro q
            exact c (fun u hu eu => q ⟨u, hu, eu⟩)
          obtain ⟨u, hu, eu⟩ := this
          exact ih u hu (by omega) eu
    obtain ⟨t, ht, e, hb⟩ := hex
    unfold f_X2_leadsToAll
    have key := tr_seq (f := fun q => f_X2_leadsToAll_L2 h i (iI a) q) (fun m => iI m) (lo := 0) (hi := t) (r := (.inr 0 : Unit ⊕ Int32)) (by omega) (fun u _ hu => by
      show f_X2_leadsToAll_L2 h i (iI a) (iI u) = _
      rw [step u (by omega), if_neg (hb u hu)]) (by
      show f_X2_leadsToAll_L2 h i (iI a) (iI t) = _
      rw [step t ht, if_pos e])
    rw [show (0 : Int32) = iI (0 : Nat) from rfl, key]
    rfl
theorem cnt_all (p : Nat → Bool) : ∀ k, cnt p k = k ↔ ∀ j, j < k → p j = true := by
  intro k
  induction k with
  | zero => exact ⟨fun _ j hj => by omega, fun _ => rfl⟩
  | succ k ih =>
    have hle := cnt_le p k
    unfold cnt
    constructor
    · intro h j hj
      by_cases c : p k = true
      · rw [if_pos c] at h
        by_cases e : j = k
        · rw [e]; exact c
        · exact (ih.mp (by omega)) j (by omega)
      · rw [if_neg c] at h
        omega
    · intro h
      rw [if_pos (h k (by omega)), ih.mpr (fun j hj => h j (by omega))]
theorem r_waitsFrom {h : tr_H} {q n : Nat} {w : Nat → Int} (hP : tP h q n w) {a : Nat} (ha : a < 6) : ∃ z : Nat, f_X8_waitsFrom q (iI a) h = some (iI z) ∧ z ≤ 6 ∧ (z = n ↔ allF n w a) := by
  have hw := hP.2.1
  have h6 := hw.2.1
  refine ⟨cnt (fun t => decide (w (6 * a + t) ≠ -9)) n, ?_, by have := cnt_le (fun t => decide (w (6 * a + t) ≠ -9)) n; omega, ?_⟩
  · unfold f_X8_waitsFrom
    have key := tr_seq (f := fun z => f_X8_waitsFrom_L4 h q (iI a) z.1 z.2) (fun m => (iI (cnt (fun t => decide (w (6 * a + t) ≠ -9)) m : Nat), iI m)) (lo := 0) (hi := n) (r := iI (cnt (fun t => decide (w (6 * a + t) ≠ -9)) n : Nat)) (by omega) (fun m _ hm => by
      have hm2 := r_isThere hP (i := a) (j := m) (by omega) (by omega)
      show f_X8_waitsFrom_L4 h q (iI a) (iI (cnt (fun t => decide (w (6 * a + t) ≠ -9)) m : Nat)) (iI m) = _
      unfold f_X8_waitsFrom_L4
      rw [show (0 : Int32).toNatClampNeg = 0 from rfl, hP.2.2.1, if_neg (by rw [iI_le (by omega) (by omega) (by omega) (by omega)]; omega), hm2, tr_bn_some]
      by_cases c : w (6 * a + m) = -9
      · rw [if_pos c, if_pos rfl]
        unfold tr_bd
        rw [iI_0, iI_add, iI_1, iI_add]
        simp only [cnt, c]
        simp
      · rw [if_neg c, if_neg (show ¬ (1 : Int32) = 0 by decide)]
        unfold tr_bd
        rw [iI_1, iI_add, iI_add]
        simp only [cnt]
        simp [c]) (by
      show f_X8_waitsFrom_L4 h q (iI a) (iI (cnt (fun t => decide (w (6 * a + t) ≠ -9)) n : Nat)) (iI n) = _
      unfold f_X8_waitsFrom_L4
      rw [show (0 : Int32).toNatClampNeg = 0 from rfl, hP.2.2.1, if_pos (Int32.le_refl _)])
    rw [show ((0 : Int32), (0 : Int32)) = (iI (cnt (fun t => decide (w (6 * a + t) ≠ -9)) 0 : Nat), iI (0 : Nat)) from rfl, key]
    rfl
  · rw [cnt_all]
    unfold allF
    constructor
    · intro q t ht
      exact of_decide_eq_true (q t ht)
    · intro q t ht
      exact decide_eq_true (q t ht)
/-! one letter, on the class's side -/
theorem c_take0 {h : tr_H} {n : Nat} {w : Nat → Int} {j : Nat} {t : Int} (hN : tN h 4 n w) (hj : j ≤ 30) (ht : 0 ≤ t ∧ t ≤ 255) : ((j < 12 ∧ 0 ≤ t - 48 ∧ t - 48 < n ∧ ¬ allF n w (t - 48).toNat) → f_X3_takes (iI (2 + 3 * j : Nat)) (iI t) 4 h = some (1, tr_si h 12 0 (iI (t - 48)))) ∧ (¬ (j < 12 ∧ 0 ≤ t - 48 ∧ t - 48 < n ∧ ¬ allF n w (t - 48).toNat) → f_X3_takes (iI (2 + 3 * j : Nat)) (iI t) 4 h = some (0, tr_si h 12 0 (iI (t - 48)))) := by
  have h6 := hN.2.1.2.1
  have hrem := iI_rem (a := ((2 + 3 * j : Nat) : Int) - 2) (b := 3) (by omega) (by omega) (by omega) (by omega)
  rw [show (((2 + 3 * j : Nat) : Int) - 2) % 3 = 0 by omega] at hrem
  have hN6 : tN (tr_si h 12 0 (iI (t - 48))) 4 n w := tN_fr (fr_si (L := [12]) _ _ _ (by simp)) (by simp) (by simp) hN
  have hh := n_has hN6 (a := t - 48) (by omega) (by omega)
  have main : f_X3_takes (iI (2 + 3 * j : Nat)) (iI t) 4 h = if (38 : Int32) ≤ iI (2 + 3 * j : Nat) then some (0, tr_si h 12 0 (iI (t - 48))) else tr_bn (f_X2_has 4 (iI (t - 48)) (tr_si h 12 0 (iI (t - 48)))) fun tv9 => if tv9 = 0 then some (0, tr_si h 12 0 (iI (t - 48))) else tr_bn (f_X2_leadsToAll 4 (iI (t - 48)) (tr_si h 12 0 (iI (t - 48)))) fun tv12 => if tv12 = 0 then some (1, tr_si h 12 0 (iI (t - 48))) else some (0, tr_si h 12 0 (iI (t - 48))) := by
    unfold f_X3_takes
    simp only [tr_bd]
    rw [if_neg (show ¬ iI (2 + 3 * j : Nat) = 0 by rw [iI_0, iI_eq (by omega) (by omega) (by omega) (by omega)]; omega), if_neg (show ¬ iI (2 + 3 * j : Nat) = 1 by rw [iI_1, iI_eq (by omega) (by omega) (by omega) (by omega)]; omega), iI_48, iI_sub, iI_2, iI_sub, iI_3, hrem, if_pos (show iI 0 = 0 from rfl), si_s]
  rw [main, hh, tr_bn_some]
  by_cases c1 : j < 12
  · rw [if_neg (by rw [iI_38, iI_le (by omega) (by omega) (by omega) (by omega)]; omega)]
    by_cases c2 : 0 ≤ t - 48 ∧ t - 48 < n
    · rw [if_pos c2, if_neg (show ¬ (1 : Int32) = 0 by decide)]
      have hl := n_leads hN6 (a := (t - 48).toNat) (by omega)
      rw [show (((t - 48).toNat : Nat) : Int) = t - 48 by omega] at hl
      constructor
      · intro q
        rw [hl.2 q.2.2.2, tr_bn_some, if_pos rfl]
      · intro q
        rw [hl.1 (Classical.byContradiction fun z => q ⟨c1, c2.1, c2.2, z⟩), tr_bn_some, if_neg (by decide)]
    · rw [if_neg c2, if_pos rfl]
      exact ⟨fun q => absurd ⟨q.2.1, q.2.2.1⟩ c2, fun _ => rfl⟩
  · rw [if_pos (by rw [iI_38, iI_le (by omega) (by omega) (by omega) (by omega)]; omega)]
    exact ⟨fun q => absurd q.1 c1, fun _ => rfl⟩
theorem c_take1 {h : tr_H} {n : Nat} {w : Nat → Int} {j a : Nat} {t : Int} (hN : tN h 4 n w) (hj : j ≤ 30) (ha : a < n) (h12 : h.1 12 0 = iI a) (ht : 0 ≤ t ∧ t ≤ 255) : ((0 ≤ t - 48 ∧ t - 48 < n ∧ w (6 * a + (t - 48).toNat) = -9) → f_X3_takes (iI (2 + 3 * j + 1 : Nat)) (iI t) 4 h = some (1, tr_si h 12 1 (iI (t - 48)))) ∧ (¬ (0 ≤ t - 48 ∧ t - 48 < n ∧ w (6 * a + (t - 48).toNat) = -9) → f_X3_takes (iI (2 + 3 * j + 1 : Nat)) (iI t) 4 h = some (0, tr_si h 12 1 (iI (t - 48)))) := by
  have h6 := hN.2.1.2.1
  have hrem := iI_rem (a := ((2 + 3 * j + 1 : Nat) : Int) - 2) (b := 3) (by omega) (by omega) (by omega) (by omega)
  rw [show (((2 + 3 * j + 1 : Nat) : Int) - 2) % 3 = 1 by omega] at hrem
  have hN6 : tN (tr_si h 12 1 (iI (t - 48))) 4 n w := tN_fr (fr_si (L := [12]) _ _ _ (by simp)) (by simp) (by simp) hN
  have hh := n_has hN6 (a := t - 48) (by omega) (by omega)
  have ho := n_of hN6 (a := (a : Int)) (b := t - 48) (by omega) (by omega) (by omega) (by omega)
  have main : f_X3_takes (iI (2 + 3 * j + 1 : Nat)) (iI t) 4 h = tr_bn (f_X2_has 4 (iI (t - 48)) (tr_si h 12 1 (iI (t - 48)))) fun tv17 => if tv17 = 0 then some (0, tr_si h 12 1 (iI (t - 48))) else tr_bn (f_X2_of 4 (iI a) (iI (t - 48)) (tr_si h 12 1 (iI (t - 48)))) fun tv20 => if tv20 = (-9) then some (1, tr_si h 12 1 (iI (t - 48))) else some (0, tr_si h 12 1 (iI (t - 48))) := by
    unfold f_X3_takes
    simp only [tr_bd]
    rw [if_neg (show ¬ iI (2 + 3 * j + 1 : Nat) = 0 by rw [iI_0, iI_eq (by omega) (by omega) (by omega) (by omega)]; omega), if_neg (show ¬ iI (2 + 3 * j + 1 : Nat) = 1 by rw [iI_1, iI_eq (by omega) (by omega) (by omega) (by omega)]; omega), iI_48, iI_sub, iI_2, iI_sub, iI_3, hrem, if_neg (show ¬ iI 1 = 0 by decide), if_pos (show iI 1 = 1 from rfl), si_s, si_n _ _ _ (show (0 : Nat) ≠ 1 by decide), h12]
  rw [main, hh, tr_bn_some, ho, tr_bn_some]
  by_cases c2 : 0 ≤ t - 48 ∧ t - 48 < n
  · have hwo : woI n w a (t - 48) = w (6 * a + (t - 48).toNat) := by
      unfold woI
      rw [if_pos (by omega)]
      simp
    have b3 := okn_b hN.2.1 (c := 6 * a + (t - 48).toNat) (by omega)
    rw [if_pos c2, if_neg (show ¬ (1 : Int32) = 0 by decide), hwo]
    by_cases c3 : w (6 * a + (t - 48).toNat) = -9
    · rw [if_pos (by rw [c3]; rfl)]
      exact ⟨fun _ => rfl, fun q => absurd ⟨c2.1, c2.2, c3⟩ q⟩
    · rw [if_neg (by rw [iI_m9, iI_eq (by omega) (by omega) (by omega) (by omega)]; exact c3)]
      exact ⟨fun q => absurd q.2.2 c3, fun _ => rfl⟩
  · rw [if_neg c2, if_pos rfl]
    exact ⟨fun q => absurd ⟨q.1, q.2.1⟩ c2, fun _ => rfl⟩
theorem c_take2 {h : tr_H} {n : Nat} {w : Nat → Int} {j a b : Nat} {t : Int} (hN : tN h 4 n w) (hj : j ≤ 30) (ha : a < n) (hb : b < n) (h12 : h.1 12 0 = iI a) (h13 : h.1 12 1 = iI b) (ht : 0 ≤ t ∧ t ≤ 255) : ((0 ≤ t - 48 ∧ t - 48 ≤ 9) → f_X3_takes (iI (2 + 3 * j + 2 : Nat)) (iI t) 4 h = some (1, tr_sa h 5 (upd (h.1 5) (6 * a + b) (iI (t - 48))))) ∧ (¬ (0 ≤ t - 48 ∧ t - 48 ≤ 9) → f_X3_takes (iI (2 + 3 * j + 2 : Nat)) (iI t) 4 h = some (0, h)) := by
  have h6 := hN.2.1.2.1
  have hrem := iI_rem (a := ((2 + 3 * j + 2 : Nat) : Int) - 2) (b := 3) (by omega) (by omega) (by omega) (by omega)
  rw [show (((2 + 3 * j + 2 : Nat) : Int) - 2) % 3 = 2 by omega] at hrem
  have hl := n_lay hN (a := (a : Int)) (b := (b : Int)) (t - 48) (by omega) (by omega) (by omega) (by omega)
  rw [if_pos (by omega)] at hl
  have main : f_X3_takes (iI (2 + 3 * j + 2 : Nat)) (iI t) 4 h = if iI (t - 48) < 0 then some (0, h) else if 9 < iI (t - 48) then some (0, h) else tr_b2 (f_X2_lay 4 (iI a) (iI b) (iI (t - 48)) h) fun tv25 th26 => if tv25 = 0 then some (0, th26) else some (1, th26) := by
    unfold f_X3_takes
    simp only [tr_bd]
    rw [if_neg (show ¬ iI (2 + 3 * j + 2 : Nat) = 0 by rw [iI_0, iI_eq (by omega) (by omega) (by omega) (by omega)]; omega), if_neg (show ¬ iI (2 + 3 * j + 2 : Nat) = 1 by rw [iI_1, iI_eq (by omega) (by omega) (by omega) (by omega)]; omega), iI_48, iI_sub, iI_2, iI_sub, iI_3, hrem, if_neg (show ¬ iI 2 = 0 by decide), if_neg (show ¬ iI 2 = 1 by decide), h12, h13]
  rw [main, hl, tr_b2_some]
  by_cases c1 : t - 48 < 0
  · rw [if_pos (by rw [iI_0, iI_lt (by omega) (by omega) (by omega) (by omega)]; exact c1)]
    exact ⟨fun q => by omega, fun _ => rfl⟩
  · rw [if_neg (by rw [iI_0, iI_lt (by omega) (by omega) (by omega) (by omega)]; exact c1)]
    by_cases c2 : 9 < t - 48
    · rw [if_pos (by rw [iI_9, iI_lt (by omega) (by omega) (by omega) (by omega)]; exact c2)]
      exact ⟨fun q => by omega, fun _ => rfl⟩
    · rw [if_neg (by rw [iI_9, iI_lt (by omega) (by omega) (by omega) (by omega)]; exact c2)]
      rw [if_neg (show ¬ (1 : Int32) = 0 by decide)]
      simp only [Int.toNat_natCast]
      exact ⟨fun _ => trivial, fun q => by omega⟩
section LOOPC
variable {L : Nat} {h h' : tr_H} {p : Nat} {t : Int}
theorem c_go (hL : L ≤ 64) (hp : p < L) (ht : h.1 1 p = iI t) (hk : f_X3_takes (iI p) (iI t) 4 h = some (1, h')) : tr_lp (fun q => f_X3_read_L8 (iI L) 4 q.1 q.2) (iI p, h) = tr_lp (fun q => f_X3_read_L8 (iI L) 4 q.1 q.2) (iI (p + 1 : Nat), h') := by
  apply tr_lp_go
  show f_X3_read_L8 (iI L) 4 (iI p) h = _
  unfold f_X3_read_L8
  rw [if_neg (by rw [iI_le (by omega) (by omega) (by omega) (by omega)]; omega), if_neg (by rw [iI_64, iI_le (by omega) (by omega) (by omega) (by omega)]; omega), tr_gdI (by omega) (by omega) (by omega), iI_ix (by omega), ht, hk, tr_b2_some, if_neg (by decide)]
  unfold tr_bd
  rw [iI_1, iI_add]
  rfl
theorem c_stop (hL : L ≤ 64) (hp : p < L) (ht : h.1 1 p = iI t) (hk : f_X3_takes (iI p) (iI t) 4 h = some (0, h')) : tr_lp (fun q => f_X3_read_L8 (iI L) 4 q.1 q.2) (iI p, h) = some (.inr (iI p, h')) := by
  apply tr_lp_out
  show f_X3_read_L8 (iI L) 4 (iI p) h = _
  unfold f_X3_read_L8
  rw [if_neg (by rw [iI_le (by omega) (by omega) (by omega) (by omega)]; omega), if_neg (by rw [iI_64, iI_le (by omega) (by omega) (by omega) (by omega)]; omega), tr_gdI (by omega) (by omega) (by omega), iI_ix (by omega), ht, hk, tr_b2_some, if_pos rfl]
theorem c_end (hL : L ≤ 64) : tr_lp (fun q => f_X3_read_L8 (iI L) 4 q.1 q.2) (iI L, h) = some (.inl h) := by
  apply tr_lp_out
  show f_X3_read_L8 (iI L) 4 (iI L) h = _
  unfold f_X3_read_L8
  rw [if_pos (Int32.le_refl _)]
theorem c_E44 (hL : L ≤ 64) : f_X3_read_E44 (iI L) h = some (iI (if 2 ≤ L ∧ (L - 2) % 3 = 0 then (-9 : Int) else (L : Int)), h) := by
  unfold f_X3_read_E44
  by_cases c : L < 2
  · rw [if_pos (by rw [iI_2, iI_lt (by omega) (by omega) (by omega) (by omega)]; omega), if_neg (by omega)]
    rfl
  · have hrem := iI_rem (a := (L : Int) - 2) (b := 3) (by omega) (by omega) (by omega) (by omega)
    rw [if_neg (by rw [iI_2, iI_lt (by omega) (by omega) (by omega) (by omega)]; omega), iI_2, iI_sub, iI_3, hrem]
    by_cases c2 : (L - 2) % 3 = 0
    · rw [if_pos (by rw [show ((L : Int) - 2) % 3 = 0 by omega]; rfl), if_pos ⟨by omega, c2⟩]
      rfl
    · rw [if_neg (by rw [iI_0, iI_eq (by omega) (by omega) (by omega) (by omega)]; omega), if_neg (by omega)]
      rfl
end LOOPC
/-! the same, on the reference's side -/
def gR (h h' : tr_H) : Prop := (∀ c, c ≠ 0 → c ≠ 2 → h'.1 c = h.1 c) ∧ (∀ k, k ≠ 3 → k ≠ 4 → h'.1 0 k = h.1 0 k) ∧ h'.2 = h.2
theorem gR_rf (h : tr_H) : gR h h := ⟨fun _ _ _ => rfl, fun _ _ _ => rfl, rfl⟩
theorem gR_tr {a b c : tr_H} (h1 : gR a b) (h2 : gR b c) : gR a c := ⟨fun k q1 q2 => (h2.1 k q1 q2).trans (h1.1 k q1 q2), fun k q1 q2 => (h2.2.1 k q1 q2).trans (h1.2.1 k q1 q2), h2.2.2.trans h1.2.2⟩
theorem gR_0 (h : tr_H) {k : Nat} (v : Int32) (hk : k = 3 ∨ k = 4) : gR h (tr_si h 0 k v) := ⟨fun c q _ => si_c _ _ _ q, fun j q1 q2 => si_n _ _ _ (by omega), rfl⟩
theorem gR_2 (h : tr_H) (k : Nat) (v : Int32) : gR h (tr_si h 2 k v) := ⟨fun c _ q => si_c _ _ _ q, fun j _ _ => by rw [si_c _ _ _ (by decide)], rfl⟩
def txM (h : tr_H) (L : Nat) (tx : Nat → Int) : Prop := h.1 0 2 = iI L ∧ ∀ k, k < L → h.1 1 k = iI (tx k)
theorem txM_g {h h' : tr_H} {L : Nat} {tx : Nat → Int} (hg : gR h h') (hT : txM h L tx) : txM h' L tx := ⟨by rw [hg.2.1 2 (by decide) (by decide)]; exact hT.1, fun k hk => by rw [hg.1 1 (by decide) (by decide)]; exact hT.2 k hk⟩
section FIG
variable {h : tr_H} {L P : Nat} {tx : Nat → Int} {mo : Int}
theorem r_fig_in (ht : 0 ≤ tx P ∧ tx P ≤ 255) (hm : -10 ≤ mo ∧ mo ≤ 100) (hT : txM h L tx) (hP : P < L) : f_X8_in (((h.1 1 P) - 48 : Int32).toInt64) 0 ((iI mo : Int32).toInt64) = some (if 0 ≤ tx P - 48 ∧ tx P - 48 ≤ mo then 1 else 0) := by
  rw [hT.2 P hP, iI_48, iI_sub, r_in, Int32.toInt_toInt64, Int32.toInt_toInt64, iI_in (by omega) (by omega), iI_in (by omega) (by omega)]
  rfl
theorem r_fig_end (hT : txM h L tx) (hp : h.1 0 3 = iI L) : f_X8_figure (iI mo) h = some (-9, h) := by
  unfold f_X8_figure
  rw [hp, hT.1, if_pos rfl]
theorem r_fig_no (hL : L ≤ 64) (ht : 0 ≤ tx P ∧ tx P ≤ 255) (hm : -10 ≤ mo ∧ mo ≤ 100) (hT : txM h L tx) (hp : h.1 0 3 = iI P) (hP : P < L) (hz : ¬ (0 ≤ tx P - 48 ∧ tx P - 48 ≤ mo)) : f_X8_figure (iI mo) h = some (-9, h) := by
  have hin := r_fig_in ht hm hT hP
  rw [if_neg hz] at hin
  unfold f_X8_figure
  rw [hp, hT.1, if_neg (by rw [iI_eq (by omega) (by omega) (by omega) (by omega)]; omega)]
  simp (disch := omega) only [tr_bd, tr_gdI, iI_ix]
  rw [hin, tr_bn_some, if_pos rfl]
theorem r_fig_yes (hL : L ≤ 64) (ht : 0 ≤ tx P ∧ tx P ≤ 255) (hm : -10 ≤ mo ∧ mo ≤ 100) (hT : txM h L tx) (hp : h.1 0 3 = iI P) (hP : P < L) (hz : 0 ≤ tx P - 48 ∧ tx P - 48 ≤ mo) : f_X8_figure (iI mo) h = some (iI (tx P - 48), tr_si h 0 3 (iI (P + 1 : Nat))) := by
  have hin := r_fig_in ht hm hT hP
  rw [if_pos hz] at hin
  unfold f_X8_figure
  rw [hp, hT.1, if_neg (by rw [iI_eq (by omega) (by omega) (by omega) (by omega)]; omega)]
  simp (disch := omega) only [tr_bd, tr_gdI, iI_ix]
  rw [hin, tr_bn_some, if_neg (show ¬ (1 : Int32) = 0 by decide), iI_1, iI_add, si_s, iI_sub, show (P : Int) + 1 - 1 = (P : Int) by omega, tr_gdI (by omega) (by omega) (by omega), iI_ix (by omega), si_c _ _ _ (by decide), hT.2 P hP, iI_48, iI_sub]
  rfl
end FIG
