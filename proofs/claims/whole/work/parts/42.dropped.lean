/-! dropped: both sides -/
section DR
variable {n d : Nat} {w : Nat → Int} {p : Int}
def idx (w : Nat → Int) (d t : Nat) : Nat := cnt (fun k => decide (w (6 * d + k) ≠ -9)) t
def badT (n : Nat) (w : Nat → Int) (d : Nat) (p : Int) (t : Nat) : Prop := ¬ pac n (w1 n w d t) ≤ 60 * p
def badJ (n : Nat) (w : Nat → Int) (d : Nat) (p : Int) (j : Nat) : Prop := ∃ t, t < n ∧ w (6 * d + t) ≠ -9 ∧ idx w d t = j ∧ badT n w d p t
noncomputable def nBd (n : Nat) (w : Nat → Int) (d : Nat) (p : Int) (k : Nat) : Nat := cnt (fun t => pB (badT n w d p t)) k
theorem idx_s (t : Nat) : idx w d (t + 1) = idx w d t + (if decide (w (6 * d + t) ≠ -9) then 1 else 0) := rfl
theorem idx_mono : ∀ (k t : Nat), idx w d t ≤ idx w d (t + k) := by
  intro k
  induction k with
  | zero => intro t; exact Nat.le_refl _
  | succ k ih =>
    intro t
    have := ih t
    rw [show t + (k + 1) = t + k + 1 from rfl, idx_s]
    omega
theorem idx_lt {t m : Nat} (ht : t < m) (hw : w (6 * d + t) ≠ -9) : idx w d t < idx w d m := by
  have h1 : idx w d (t + 1) = idx w d t + 1 := by rw [idx_s, if_pos (decide_eq_true hw)]
  have h2 := idx_mono (w := w) (d := d) (m - (t + 1)) (t + 1)
  rw [show t + 1 + (m - (t + 1)) = m by omega] at h2
  omega
theorem badJ_t {t : Nat} (ht : t < n) (hw : w (6 * d + t) ≠ -9) : badJ n w d p (idx w d t) ↔ badT n w d p t := by
  constructor
  · rintro ⟨u, h1, h2, h3, h4⟩
    have : u = t := by
      rcases Nat.lt_trichotomy u t with q | q | q
      · have := idx_lt (w := w) (d := d) q h2; omega
      · exact q
      · have := idx_lt (w := w) (d := d) q hw; omega
    rw [← this]; exact h4
  · intro h
    exact ⟨t, ht, hw, rfl, h⟩
theorem w1_none (hw : okn n w) {t : Nat} (ht : t < n) (hd : d < n) (hn : w (6 * d + t) = -9) : w1 n w d t = w0 w d n := by
  have h6 := hw.2.1
  funext c
  unfold w1 wup
  by_cases e : c = 6 * d + t
  · rw [if_pos e, hn]
    unfold w0
    rw [if_pos (by omega)]
  · rw [if_neg e]
/-- so many bad ones of so many -/
theorem prJ_is (hw : okn n w) (hd : d < n) (hk0 : pac n (w0 w d n) ≤ 60 * p) (x : Nat) : ∀ k, k ≤ n → nBd n w d p k ≤ idx w d k ∧ prJ (badJ n w d p) x (idx w d k) = x ^ nBd n w d p k * 10 ^ (idx w d k - nBd n w d p k) := by
  intro k
  induction k with
  | zero => intro _; exact ⟨Nat.le_refl _, rfl⟩
  | succ k ih =>
    intro hk
    obtain ⟨h1, h2⟩ := ih (by omega)
    have e1 : nBd n w d p (k + 1) = nBd n w d p k + (if pB (badT n w d p k) then 1 else 0) := rfl
    rw [e1, idx_s]
    by_cases c : w (6 * d + k) = -9
    · have hg : ¬ badT n w d p k := fun q => q (by rw [w1_none hw (by omega) hd c]; exact hk0)
      rw [pB_f hg, show decide (w (6 * d + k) ≠ -9) = false by simp [c]]
      exact ⟨h1, h2⟩
    · have hJ := badJ_t (p := p) (show k < n by omega) c
      rw [if_pos (decide_eq_true c)]
      have e2 : prJ (badJ n w d p) x (idx w d k + 1) = prJ (badJ n w d p) x (idx w d k) * (if pB (badJ n w d p (idx w d k)) then x else 10) := rfl
      rw [e2, h2]
      by_cases c2 : badT n w d p k
      · rw [pB_t c2, pB_t (hJ.mpr c2), if_pos rfl, if_pos rfl, show idx w d k + 1 - (nBd n w d p k + 1) = idx w d k - nBd n w d p k by omega, Nat.pow_succ]
        refine ⟨by omega, ?_⟩
        rw [Nat.mul_assoc, Nat.mul_comm (10 ^ _) x, ← Nat.mul_assoc]
      · rw [pB_f c2, pB_f (fun q => c2 (hJ.mp q)), if_neg (by decide), if_neg (by decide), Nat.add_zero, show idx w d k + 1 - nBd n w d p k = (idx w d k - nBd n w d p k) + 1 by omega, Nat.pow_succ, Nat.mul_assoc]
        exact ⟨by omega, rfl⟩
/-! the class's side -/
theorem w0_s (hw : okn n w) (hd : d < n) {k : Nat} (hk : k < n) : wup (w0 w d k) (6 * d + k) (-9) = w0 w d (k + 1) := by
  have h6 := hw.2.1
  funext c
  unfold wup w0
  by_cases e : c = 6 * d + k
  · rw [if_pos e, if_pos (by omega)]
  · rw [if_neg e]
    by_cases q : c / 6 = d ∧ c % 6 < k
    · rw [if_pos q, if_pos (by omega)]
    · rw [if_neg q, if_neg (by omega)]
theorem w0_0 : w0 w d 0 = w := by
  funext c
  unfold w0
  rw [if_neg (by omega)]
theorem c_drop1 {h : tr_H} (hN : tN h 2 n w) (hT : tN h 4 n w) (hd : d < n) : ∃ h', tr_lp (fun q => f_X7_dropped_L50 (iI d) q.1 q.2) (iI (0 : Nat), h) = some h' ∧ fr [4, 5] h h' ∧ tN h' 4 n (w0 w d n) := by
  have hw := hN.2.1
  have h6 := hw.2.1
  obtain ⟨r, k1, k2, k3⟩ := tr_inv (f := fun q => f_X7_dropped_L50 (iI d) q.1 q.2) (fun m s => ∃ h1, s = (iI m, h1) ∧ fr [4, 5] h h1 ∧ tN h1 4 n (w0 w d m)) (fun h1 => fr [4, 5] h h1 ∧ tN h1 4 n (w0 w d n)) (hi := n) (by
    rintro m s hm ⟨h1, rfl, f1, t1⟩
    have l1 := n_lay t1 (a := (d : Int)) (b := (m : Int)) (-9) (by omega) (by omega) (by omega) (by omega)
    rw [if_pos (by omega)] at l1
    simp only [Int.toNat_natCast] at l1
    have t2 := tN_up t1 (a := d) (b := m) (v := -9) hd hm (Or.inl rfl)
    rw [w0_s hw hd hm] at t2
    refine ⟨(iI (m + 1 : Nat), _), ?_, _, rfl, fr_tr f1 (fr_sa _ _ (by simp)), t2⟩
    show f_X7_dropped_L50 (iI d) (iI m) h1 = _
    unfold f_X7_dropped_L50
    rw [(tN_fr f1 (by simp) (by simp) hN).2.2.1, if_neg (by rw [iI_le (by omega) (by omega) (by omega) (by omega)]; omega), show (-9 : Int32) = iI (-9) from rfl, l1, tr_b2_some]
    unfold tr_bd
    rw [iI_1, iI_add]
    rfl) (by
    rintro s ⟨h1, rfl, f1, t1⟩
    refine ⟨h1, ?_, f1, t1⟩
    show f_X7_dropped_L50 (iI d) (iI n) h1 = _
    unfold f_X7_dropped_L50
    rw [(tN_fr f1 (by simp) (by simp) hN).2.2.1, if_pos (Int32.le_refl _)]) 0 (iI (0 : Nat), h) (by omega) ⟨h, rfl, fr_rf _ _, by rw [w0_0]; exact hT⟩
  exact ⟨r, k1, k2, k3⟩
theorem c_drop2 {h : tr_H} (hN : tN h 2 n w) (hT : tN h 4 n (w0 w d n)) (hd : d < n) (hp : 0 ≤ p ∧ p ≤ 20) (x : Nat) : ∃ h', tr_lp (fun q => f_X7_dropped_L113 (iI d) (iI p) (iI x) q.1 q.2.1 q.2.2.1 q.2.2.2) (iI (1 : Nat), iI (1 : Nat), iI (0 : Nat), h) = some (iI (x ^ nBd n w d p n : Nat), iI (10 ^ nBd n w d p n : Nat), h') ∧ fr [4, 5, 22] h h' := by
  have hw := hN.2.1
  have h6 := hw.2.1
  obtain ⟨r, k1, h2, k2, k3⟩ := tr_inv (f := fun q => f_X7_dropped_L113 (iI d) (iI p) (iI x) q.1 q.2.1 q.2.2.1 q.2.2.2) (fun m s => ∃ h1, s = (iI (x ^ nBd n w d p m : Nat), iI (10 ^ nBd n w d p m : Nat), iI m, h1) ∧ fr [4, 5, 22] h h1 ∧ tN h1 4 n (w0 w d n)) (fun s => ∃ h1, s = (iI (x ^ nBd n w d p n : Nat), iI (10 ^ nBd n w d p n : Nat), h1) ∧ fr [4, 5, 22] h h1) (hi := n) (by
    rintro m s hm ⟨h1, rfl, f1, t1⟩
    have hN1 := tN_fr f1 (by simp) (by simp) hN
    have ho := n_of hN1 (a := (d : Int)) (b := (m : Int)) (by omega) (by omega) (by omega) (by omega)
    rw [woI_in hd hm] at ho
    have l1 := n_lay t1 (a := (d : Int)) (b := (m : Int)) (w (6 * d + m)) (by omega) (by omega) (by omega) (by omega)
    rw [if_pos (by omega)] at l1
    simp only [Int.toNat_natCast] at l1
    have t2 := tN_up t1 (a := d) (b := m) (v := w (6 * d + m)) hd hm (hw.2.2 _ (by omega)).1
    have f2 : fr [4, 5, 22] h1 (tr_sa h1 (4 + 1) (upd (h1.1 (4 + 1)) (6 * d + m) (iI (w (6 * d + m))))) := fr_sa _ _ (by simp)
    generalize tr_sa h1 (4 + 1) (upd (h1.1 (4 + 1)) (6 * d + m) (iI (w (6 * d + m)))) = h2 at l1 t2 f2
    obtain ⟨h3, s1, s2⟩ := w_kept t2 hp.1 hp.2
    have t3 := tN_fr s2 (by simp) (by simp) t2
    have l2 := n_lay t3 (a := (d : Int)) (b := (m : Int)) (-9) (by omega) (by omega) (by omega) (by omega)
    rw [if_pos (by omega)] at l2
    simp only [Int.toNat_natCast] at l2
    have t4 := tN_up t3 (a := d) (b := m) (v := -9) hd hm (Or.inl rfl)
    have eb : wup (wup (w0 w d n) (6 * d + m) (w (6 * d + m))) (6 * d + m) (-9) = w0 w d n := by
      have := wup_back (w0 w d n) (6 * d + m) (w (6 * d + m))
      rw [show w0 w d n (6 * d + m) = -9 by unfold w0; rw [if_pos (by omega)]] at this
      exact this
    rw [eb] at t4
    have f4 : fr [4, 5, 22] h3 (tr_sa h3 (4 + 1) (upd (h3.1 (4 + 1)) (6 * d + m) (iI (-9)))) := fr_sa _ _ (by simp)
    generalize tr_sa h3 (4 + 1) (upd (h3.1 (4 + 1)) (6 * d + m) (iI (-9))) = h4 at l2 t4 f4
    have fA : fr [4, 5, 22] h h4 := fr_tr f1 (fr_tr f2 (fr_tr (fr_up s2 (by simp)) f4))
    have e1 : nBd n w d p (m + 1) = nBd n w d p m + (if pB (badT n w d p m) then 1 else 0) := rfl
    refine ⟨(iI (x ^ nBd n w d p (m + 1) : Nat), iI (10 ^ nBd n w d p (m + 1) : Nat), iI (m + 1 : Nat), h4), ?_, h4, rfl, fA, t4⟩
    show f_X7_dropped_L113 (iI d) (iI p) (iI x) (iI (x ^ nBd n w d p m : Nat)) (iI (10 ^ nBd n w d p m : Nat)) (iI m) h1 = _
    unfold f_X7_dropped_L113
    rw [hN1.2.2.1, if_neg (by rw [iI_le (by omega) (by omega) (by omega) (by omega)]; omega), ho, tr_bn_some, l1, tr_b2_some, s1, tr_b2_some, show (-9 : Int32) = iI (-9) from rfl, l2, e1]
    by_cases c : pac n (wup (w0 w d n) (6 * d + m) (w (6 * d + m))) ≤ 60 * p
    · rw [if_pos c, if_neg n10, tr_b2_some, pB_f (show ¬ badT n w d p m from fun q => q c), if_neg (by decide), Nat.add_zero]
      unfold tr_bd
      rw [iI_1, iI_add]
      rfl
    · rw [if_neg c, if_pos z00, pB_t (show badT n w d p m from c), if_pos rfl]
      simp only [tr_bd]
      rw [tr_b2_some, iI_10, iI_mul, iI_mul, iI_1, iI_add, show ((x ^ nBd n w d p m : Nat) : Int) * (x : Int) = ((x ^ (nBd n w d p m + 1) : Nat) : Int) by rw [Nat.pow_succ, Int.natCast_mul], show ((10 ^ nBd n w d p m : Nat) : Int) * 10 = ((10 ^ (nBd n w d p m + 1) : Nat) : Int) by rw [Nat.pow_succ, Int.natCast_mul]; rfl]
      rfl) (by
    rintro s ⟨h1, rfl, f1, t1⟩
    refine ⟨_, ?_, h1, rfl, f1⟩
    show f_X7_dropped_L113 (iI d) (iI p) (iI x) _ _ (iI n) h1 = _
    unfold f_X7_dropped_L113
    rw [(tN_fr f1 (by simp) (by simp) hN).2.2.1, if_pos (Int32.le_refl _)]) 0 (iI (1 : Nat), iI (1 : Nat), iI (0 : Nat), h) (by omega) ⟨h, rfl, fr_rf _ _, hT⟩
  exact ⟨h2, by rw [k1, k2], k3⟩
/-! the reference's side -/
theorem r_power {a k : Nat} (hk : k ≤ 6) : f_X8_power (iI a) (iI k) = some (iI (a ^ k : Nat)) := by
  unfold f_X8_power
  have key := tr_seq (f := fun q => f_X8_power_L4 (iI k) (iI a) q.1 q.2) (fun m => (iI (a ^ m : Nat), iI m)) (lo := 0) (hi := k) (r := iI (a ^ k : Nat)) (by omega) (fun m _ hm => by
    show f_X8_power_L4 (iI k) (iI a) (iI (a ^ m : Nat)) (iI m) = _
    unfold f_X8_power_L4
    rw [if_neg (by rw [iI_le (by omega) (by omega) (by omega) (by omega)]; omega)]
    unfold tr_bd
    rw [iI_mul, iI_1, iI_add, show ((a ^ m : Nat) : Int) * (a : Int) = ((a ^ (m + 1) : Nat) : Int) by rw [Nat.pow_succ, Int.natCast_mul]]
    rfl) (by
    show f_X8_power_L4 (iI k) (iI a) (iI (a ^ k : Nat)) (iI k) = _
    unfold f_X8_power_L4
    rw [if_pos (Int32.le_refl _)])
  rw [show ((1 : Int32), (0 : Int32)) = (iI (a ^ 0 : Nat), iI (0 : Nat)) from rfl, key]
  rfl
def wS (w : Nat → Int) (d S k : Nat) : Nat → Int := fun c => if c / 6 = d ∧ c % 6 < k ∧ S.testBit (idx w d (c % 6)) = true then -9 else w c
theorem r_drops {h : tr_H} (hP : tP h 3 n w) (hd : d < n) {S : Nat} (hS : S < 64) : ∃ h', f_X8_drops (iI d) (iI S) h = some (iI (idx w d n : Nat), h') ∧ fr [4] h h' ∧ tP h' 4 n (wS w d S n) := by
  have hw := hP.2.1
  have h6 := hw.2.1
  obtain ⟨h1, a1, a2, a3⟩ := r_begin hP
  have e0 : (0 : Int32).toNatClampNeg = 0 := rfl
  obtain ⟨r, k1, h2, k2, k3, k4⟩ := tr_inv (f := fun q => f_X8_drops_L9 (iI d) (iI S) q.1 q.2.1 q.2.2) (fun m s => ∃ h2, s = (iI (idx w d m : Nat), iI m, h2) ∧ fr [4] h h2 ∧ tP h2 4 n (wS w d S m)) (fun s => ∃ h2, s = (iI (idx w d n : Nat), h2) ∧ fr [4] h h2 ∧ tP h2 4 n (wS w d S n)) (hi := n) (by
    rintro m s hm ⟨h2, rfl, f2, t2⟩
    have hP2 := tP_fr f2 (by simp) hP
    have hidx : idx w d m ≤ 5 := by have := cnt_le (fun k => decide (w (6 * d + k) ≠ -9)) m; unfold idx; omega
    have hcm : (6 * d + m) % 6 = m := by omega
    have hcd : (6 * d + m) / 6 = d := by omega
    show ∃ s', f_X8_drops_L9 (iI d) (iI S) (iI (idx w d m : Nat)) (iI m) h2 = some (.inl s') ∧ _
    unfold f_X8_drops_L9
    rw [e0, hP2.2.2.1, if_neg (by rw [iI_le (by omega) (by omega) (by omega) (by omega)]; omega), r_isThere hP2 (i := d) (j := m) (by omega) (by omega), tr_bn_some]
    by_cases c : w (6 * d + m) = -9
    · rw [if_pos c, if_pos z00]
      have ei : idx w d (m + 1) = idx w d m := by rw [idx_s, show decide (w (6 * d + m) ≠ -9) = false by simp [c]]; rfl
      have ew : wS w d S (m + 1) = wS w d S m := by
        funext z
        unfold wS
        by_cases q : z = 6 * d + m
        · subst q
          rw [hcm, hcd, c]
          split <;> split <;> rfl
        · by_cases q1 : z / 6 = d ∧ z % 6 < m ∧ S.testBit (idx w d (z % 6)) = true
          · rw [if_pos q1, if_pos ⟨q1.1, by omega, q1.2.2⟩]
          · rw [if_neg q1, if_neg (fun y => q1 ⟨y.1, by omega, y.2.2⟩)]
      refine ⟨(iI (idx w d m : Nat), iI (m + 1 : Nat), h2), ?_, h2, by rw [ei], f2, by rw [ew]; exact t2⟩
      unfold tr_bd
      rw [iI_1, iI_add]
      rfl
    · rw [if_neg c, if_neg n10, r_has hS (show idx w d m < 6 by omega), tr_bn_some]
      have ei : idx w d (m + 1) = idx w d m + 1 := by rw [idx_s, if_pos (decide_eq_true c)]
      have ewg : ∀ v, (v = if S.testBit (idx w d m) then -9 else w (6 * d + m)) → wup (wS w d S m) (6 * d + m) v = wS w d S (m + 1) := by
        intro v hv
        funext z
        unfold wup wS
        by_cases q : z = 6 * d + m
        · rw [if_pos q, q, hcm, hcd, hv]
          by_cases q2 : S.testBit (idx w d m) = true
          · rw [if_pos q2, if_pos ⟨rfl, by omega, q2⟩]
          · rw [if_neg q2, if_neg (fun y => q2 y.2.2)]
        · rw [if_neg q]
          by_cases q1 : z / 6 = d ∧ z % 6 < m ∧ S.testBit (idx w d (z % 6)) = true
          · rw [if_pos q1, if_pos ⟨q1.1, by omega, q1.2.2⟩]
          · rw [if_neg q1, if_neg (fun y => q1 ⟨y.1, by omega, y.2.2⟩)]
      have hix : iI ((idx w d m : Nat) : Int) + 1 = iI (idx w d (m + 1) : Nat) := by rw [iI_1, iI_add, ei]; rfl
      have him : iI ((m : Nat) : Int) + 1 = iI (m + 1 : Nat) := by rw [iI_1, iI_add]; rfl
      by_cases q : S.testBit (idx w d m) = true
      · have t3 := tP_up t2 (a := d) (b := m) (v := -9) hd hm (Or.inl rfl)
        rw [ewg (-9) (by rw [if_pos q])] at t3
        refine ⟨(iI (idx w d (m + 1) : Nat), iI (m + 1 : Nat), tr_si h2 4 (1 + (6 * d + m)) (iI (cvn (-9)))), ?_, _, rfl, fr_tr f2 (fr_si _ _ _ (by simp)), t3⟩
        rw [if_pos q, if_neg n10, ix37]
        simp (disch := omega) only [tr_bd, tr_gdI, iI_ix]
        rw [hix, him]
        rfl
      · have t3 := tP_up t2 (a := d) (b := m) (v := w (6 * d + m)) hd hm (hw.2.2 _ (by omega)).1
        rw [ewg (w (6 * d + m)) (by rw [if_neg q])] at t3
        refine ⟨(iI (idx w d (m + 1) : Nat), iI (m + 1 : Nat), tr_si h2 4 (1 + (6 * d + m)) (iI (cvn (w (6 * d + m))))), ?_, _, rfl, fr_tr f2 (fr_si _ _ _ (by simp)), t3⟩
        have hpg := hP2.2.2.2 (6 * d + m) (by omega)
        rw [if_neg q, if_pos z00, ix37]
        simp (disch := omega) only [tr_bd, tr_gdI, iI_ix, hpg]
        rw [hix, him]) (by
    rintro s ⟨h2, rfl, f2, t2⟩
    refine ⟨_, ?_, h2, rfl, f2, t2⟩
    show f_X8_drops_L9 (iI d) (iI S) _ (iI n) h2 = _
    unfold f_X8_drops_L9
    rw [e0, (tP_fr f2 (by simp) hP).2.2.1, if_pos (Int32.le_refl _)]) 0 (iI (0 : Nat), iI (0 : Nat), h1) (by omega) ⟨h1, rfl, a2, by
      rw [show wS w d S 0 = w from by funext c; unfold wS; rw [if_neg (fun q => by omega)]]
      exact a3⟩
  refine ⟨h2, ?_, k3, k4⟩
  unfold f_X8_drops
  rw [a1, tr_bn_some, show ((0 : Int32), (0 : Int32), h1) = (iI (0 : Nat), iI (0 : Nat), h1) from rfl, k1, tr_bn_some, k2]
  rfl
theorem wS_betw (hw : okn n w) (hd : d < n) {S : Nat} (hk : okn n (wS w d S n)) : betw n d w (wS w d S n) := by
  refine ⟨hk, fun c hc => ?_, fun t ht => ?_⟩
  · unfold wS
    rw [if_neg (fun q => hc q.1)]
  · unfold wS
    split
    · exact Or.inl rfl
    · exact Or.inr rfl
theorem wS_kept (hw : okn n w) (hd : d < n) (hp : 0 ≤ p) {S : Nat} (hk : okn n (wS w d S n)) : pac n (wS w d S n) ≤ 60 * p ↔ (pac n (w0 w d n) ≤ 60 * p ∧ allG (badJ n w d p) (idx w d n) S) := by
  have h6 := hw.2.1
  rw [betw_kept hw hd hp (wS_betw hw hd hk)]
  have hcut : ∀ t, t < n → (wS w d S n (6 * d + t) ≠ -9 ↔ (w (6 * d + t) ≠ -9 ∧ S.testBit (idx w d t) = false)) := by
    intro t ht
    unfold wS
    rw [show (6 * d + t) / 6 = d by omega, show (6 * d + t) % 6 = t by omega]
    by_cases q : S.testBit (idx w d t) = true
    · rw [if_pos ⟨rfl, ht, q⟩, q]
      simp
    · have q' : S.testBit (idx w d t) = false := by cases z : S.testBit (idx w d t) <;> simp_all
      rw [if_neg (fun z => q z.2.2), q']
      simp
  constructor
  · rintro ⟨q0, q1⟩
    refine ⟨q0, fun j hj hb hbad => ?_⟩
    obtain ⟨t, h1, h2, h3, h4⟩ := hbad
    exact h4 (q1 t h1 ((hcut t h1).mpr ⟨h2, by rw [h3]; exact hb⟩))
  · rintro ⟨q0, q1⟩
    refine ⟨q0, fun t ht hne => ?_⟩
    obtain ⟨h1, h2⟩ := (hcut t ht).mp hne
    apply Classical.byContradiction
    intro hb
    exact q1 (idx w d t) (idx_lt ht h1) h2 ⟨t, ht, h1, rfl, hb⟩
theorem r_dropL {h m1 : tr_H} (hP : tP h 3 n w) (hd : d < n) (hp : 0 ≤ p ∧ p ≤ 20) {x : Nat} (hx : x ≤ 10) (g1 : gM h m1) : ∃ U h', tr_lp (fun q => f_X8_dropped_L56 (iI (idx w d n : Nat)) (iI d) (iI p) (iI x) q.1 q.2.1 q.2.2) (iI (0 : Nat), iI (0 : Nat), m1) = some (iI (U : Nat), h') ∧ gM h h' ∧ (pac n (w0 w d n) ≤ 60 * p → U = prJ (badJ n w d p) x (idx w d n)) ∧ (¬ pac n (w0 w d n) ≤ 60 * p → U = 0) := by
  have hw := hP.2.1
  have h6 := hw.2.1
  have hM : idx w d n ≤ 6 := by have := cnt_le (fun k => decide (w (6 * d + k) ≠ -9)) n; unfold idx; omega
  obtain ⟨M, eM⟩ : ∃ M, M = idx w d n := ⟨_, rfl⟩
  rw [← eM] at hM ⊢
  have h64 : 2 ^ M ≤ 2 ^ 6 := Nat.pow_le_pow_right (by decide) hM
  obtain ⟨tm, etm⟩ : ∃ tm : Nat → Nat, tm = fun S => if pB (pac n (w0 w d n) ≤ 60 * p) then trm (badJ n w d p) x M S else 0 := ⟨_, rfl⟩
  obtain ⟨r, k1, h2, k2, k3⟩ := tr_inv (f := fun q => f_X8_dropped_L56 (iI (M : Nat)) (iI d) (iI p) (iI x) q.1 q.2.1 q.2.2) (fun S s => ∃ h2, s = (iI (itr (fun S a => a + tm S) S 0 : Nat), iI S, h2) ∧ gM h h2) (fun s => ∃ h2, s = (iI (itr (fun S a => a + tm S) (2 ^ M) 0 : Nat), h2) ∧ gM h h2) (hi := 2 ^ M) (by
    rintro S s hS ⟨h2, rfl, f2⟩
    have hS64 : S < 64 := by omega
    obtain ⟨h3, b1, b2, b3⟩ := r_drops (tP_M f2 hP) hd hS64
    obtain ⟨h4, c1, c2⟩ := r_isPeriod b3 hp.1 (show p ≤ 100 by omega)
    have hpc := pcn_le S M
    have f4 : gM h h4 := gM_tr f2 (gM_tr (gM_f b2 (by decide) (by decide)) (gM_R c2))
    have hk := wS_kept hw hd hp.1 (S := S) b3.2.1
    rw [← eM] at hk
    refine ⟨(iI (itr (fun S a => a + tm S) (S + 1) 0 : Nat), iI (S + 1 : Nat), h4), ?_, h4, rfl, f4⟩
    show f_X8_dropped_L56 (iI (M : Nat)) (iI d) (iI p) (iI x) (iI (itr (fun S a => a + tm S) S 0 : Nat)) (iI S) h2 = some (.inl (iI (itr (fun S a => a + tm S) S 0 + tm S : Nat), iI (S + 1 : Nat), h4))
    generalize itr (fun S a => a + tm S) S 0 = acc
    unfold f_X8_dropped_L56
    rw [shl7 M (by omega), if_neg (by rw [iI_le (by omega) (by omega) (by omega) (by omega)]; omega), b1, tr_b2_some, l64 S hS64, r_many (K := M) hS (by omega), tr_bn_some, c1, tr_b2_some]
    by_cases c : pac n (wS w d S n) ≤ 60 * p
    · have hk2 := hk.mp c
      have e1 : tm S = x ^ pcn S M * (10 - x) ^ (M - pcn S M) := by
        rw [etm]
        dsimp only
        rw [pB_t hk2.1, if_pos rfl]
        unfold trm
        rw [pB_t hk2.2, if_pos rfl]
      have e2 : (10 : Int32) - iI (x : Int) = iI (10 - x : Nat) := by
        rw [iI_10, iI_sub]
        congr 1
        omega
      have e3 : iI (M : Int) - iI (pcn S M : Nat) = iI (M - pcn S M : Nat) := by
        rw [iI_sub]
        congr 1
        omega
      rw [if_pos c, if_neg n10, r_power (by omega), tr_bn_some, e2, e3, r_power (by omega), tr_bn_some, e1]
      simp only [tr_bd]
      rw [iI_mul, iI_add, iI_1, iI_add]
      rfl
    · have e1 : tm S = 0 := by
        rw [etm]
        dsimp only
        by_cases q : pac n (w0 w d n) ≤ 60 * p
        · rw [pB_t q, if_pos rfl]
          unfold trm
          rw [pB_f (fun z => c (hk.mpr ⟨q, z⟩)), if_neg (by decide)]
        · rw [pB_f q, if_neg (by decide)]
      rw [if_neg c, if_pos z00, e1]
      simp only [tr_bd]
      rw [iI_0, iI_add, iI_1, iI_add]
      rfl) (by
    rintro s ⟨h2, rfl, f2⟩
    refine ⟨_, ?_, h2, rfl, f2⟩
    show f_X8_dropped_L56 (iI (M : Nat)) (iI d) (iI p) (iI x) _ (iI (2 ^ M : Nat)) h2 = _
    unfold f_X8_dropped_L56
    rw [shl7 M (by omega), if_pos (Int32.le_refl _)]) 0 (iI (0 : Nat), iI (0 : Nat), m1) (Nat.zero_le _) ⟨m1, rfl, g1⟩
  refine ⟨itr (fun S a => a + tm S) (2 ^ M) 0, h2, by rw [k1, k2], k3, fun q => ?_, fun q => ?_⟩
  · rw [← sum_prod (badJ n w d p) x hx M]
    unfold smT
    refine itr_cg _ (fun S _ a => ?_)
    rw [etm]
    dsimp only
    rw [pB_t q, if_pos rfl]
  · refine itr_ind (fun (_ : Nat) (a : Nat) => a = 0) _ rfl (fun k b _ hb => ?_)
    rw [hb, etm]
    dsimp only
    rw [pB_f q, if_neg (by decide)]
end DR
theorem s_dropped : ∀ (v0 : Int32) (v1 : Int32) (v2 : Int32) (v3 : Int32) (hx hm : tr_H), Rl hx hm → ∃ (r0 : Int32) (gx gm : tr_H), f_X7_dropped v0 v1 v2 v3 hx = some (r0, gx) ∧ f_X8_dropped v0 v1 v2 v3 hm = some (r0, gm) ∧ Rl gx gm := by
  intro v0 v1 v2 v3 hx hm hR
  obtain ⟨v, hv, rfl⟩ := ex_iI v0
  obtain ⟨p, hp, rfl⟩ := ex_iI v1
  obtain ⟨t, ht, rfl⟩ := ex_iI v2
  have hR0 := Rl_0 hR
  obtain ⟨m0, em0⟩ : ∃ m0, m0 = tr_si hm 0 0 0 := ⟨_, rfl⟩
  rw [← em0] at hR0
  obtain ⟨n, w, hN, hP⟩ := Rl_net hR0
  have hw := hN.2.1
  have h6 := hw.2.1
  have i1 := r_inv hp 0 20
  rw [i64_0, i64_20] at i1
  have i2 := r_inv ht 0 10
  rw [i64_0, i64_10] at i2
  unfold f_X7_dropped f_X8_dropped
  simp only [tr_bd]
  rw [← em0, n_has hN hv.1 hv.2, r_nod hP hv, i1, i2]
  simp only [tr_bn_some]
  by_cases c1 : 0 ≤ v ∧ v < n
  · obtain ⟨d, rfl⟩ : ∃ d : Nat, v = (d : Int) := ⟨v.toNat, by omega⟩
    rw [if_pos c1, if_pos c1, if_neg n10, if_pos z00]
    by_cases c3 : 0 ≤ p ∧ p ≤ 20
    · rw [if_pos c3, if_neg n10, if_neg (show ¬ iI p < 0 by rw [iI_0, iI_lt (by omega) (by omega) (by omega) (by omega)]; omega), if_neg (show ¬ 20 < iI p by rw [iI_20, iI_lt (by omega) (by omega) (by omega) (by omega)]; omega)]
      by_cases c4 : 0 ≤ t ∧ t ≤ 10
      · obtain ⟨x, rfl⟩ : ∃ x : Nat, t = (x : Int) := ⟨t.toNat, by omega⟩
        have hx10 : x ≤ 10 := by omega
        rw [if_pos c4, if_neg n10, if_neg (show ¬ iI (x : Int) < 0 by rw [iI_0, iI_lt (by omega) (by omega) (by omega) (by omega)]; omega), if_pos (show iI (x : Int) ≤ 10 by rw [iI_10, iI_le (by omega) (by omega) (by omega) (by omega)]; omega)]
        -- the class
        obtain ⟨x1, a1, a2, a3⟩ := n_copy hN (j := 4) (Or.inr (Or.inl rfl)) (by decide)
        have hN1 := tN_fr a2 (by simp) (by simp) hN
        obtain ⟨x2, b1, b2, b3⟩ := c_drop1 hN1 a3 (d := d) (by omega)
        have hN2 := tN_fr b2 (by simp) (by simp) hN1
        obtain ⟨x3, e1, e2⟩ := w_kept b3 c3.1 c3.2
        have hN3 := tN_fr e2 (by simp) (by simp) hN2
        have hT3 := tN_fr e2 (by simp) (by simp) b3
        -- the reference
        obtain ⟨m1, g1, g2, -⟩ := r_drops hP (d := d) (S := 0) (by omega) (by decide)
        obtain ⟨U, m2, j1, j2, j3, j4⟩ := r_dropL hP (d := d) (by omega) c3 hx10 (gM_f g2 (by decide) (by decide))
        have hM : idx w d n ≤ 6 := by have := cnt_le (fun k => decide (w (6 * d + k) ≠ -9)) n; unfold idx; omega
        have hp10 : 10 ^ idx w d n ≤ 10 ^ 6 := Nat.pow_le_pow_right (by decide) hM
        have hp1 : 1 ≤ 10 ^ idx w d n := Nat.one_le_pow _ _ (by decide)
        have fxA : fr LX hx x3 := fr_tr (fr_up a2 (by decide)) (fr_tr (fr_up b2 (by decide)) (fr_up e2 (by decide)))
        have hMr : f_X8_dropped_E127 (iI (idx w d n : Nat)) v3 (iI (U : Nat)) m2 = tr_bn (f_X8_fraction (iI (U : Nat)) (iI (10 ^ idx w d n : Nat)) v3) fun tv19 => some (tv19, m2) := by
          unfold f_X8_dropped_E127
          rw [show (10 : Int32) = iI ((10 : Nat) : Int) from rfl, r_power hM, tr_bn_some]
        rw [a1, tr_bn_some, show ((0 : Int32), x1) = (iI (0 : Nat), x1) from rfl, b1, tr_bn_some, show (0 : Int32) = iI ((0 : Nat) : Int) from rfl, g1, tr_b2_some, j1, tr_bn_some, hMr]
        unfold f_X7_dropped_E81
        rw [e1, tr_b2_some]
        by_cases ck : pac n (w0 w d n) ≤ 60 * p
        · obtain ⟨x4, l1, l2⟩ := c_drop2 hN3 hT3 (d := d) (by omega) c3 x
          have hpr := prJ_is hw (show d < n by omega) ck x n (Nat.le_refl _)
          have hU := j3 ck
          have hub := prJ_b (badJ n w d p) x hx10 (idx w d n)
          rw [← hU] at hub
          have hB6 : nBd n w d p n ≤ 6 := by omega
          have hxb : x ^ nBd n w d p n ≤ 10 ^ 6 := Nat.le_trans (Nat.pow_le_pow_left hx10 _) (Nat.pow_le_pow_right (by decide) hB6)
          have htb : 10 ^ nBd n w d p n ≤ 10 ^ 6 := Nat.pow_le_pow_right (by decide) hB6
          have ht1 : 1 ≤ 10 ^ nBd n w d p n := Nat.one_le_pow _ _ (by decide)
          have efr : x ^ nBd n w d p n * 10 ^ idx w d n = U * 10 ^ nBd n w d p n := by
            rw [hU, hpr.2, Nat.mul_assoc, ← Nat.pow_add]
            congr 2
            omega
          obtain ⟨q1, q2⟩ := frac_eq (by omega) (by omega) efr
          rw [if_pos ck, if_neg n10, show ((1 : Int32), (1 : Int32), (0 : Int32), x3) = (iI (1 : Nat), iI (1 : Nat), iI (0 : Nat), x3) from rfl, l1, tr_bn_some]
          unfold f_X7_dropped_E193
          rw [c_told (by omega) (by omega) (by omega), tr_bn_some, r_fraction (by omega) (by omega) (by omega), tr_bn_some, q1, q2]
          exact ⟨_, _, _, rfl, rfl, Rl_fr (fr_tr fxA (fr_up l2 (by decide))) j2 hR0⟩
        · have hU := j4 ck
          obtain ⟨q1, q2⟩ := frac_eq (a := 0) (b := 1) (c := U) (d := 10 ^ idx w d n) (by omega) (by omega) (by rw [hU, Nat.zero_mul, Nat.zero_mul])
          rw [if_neg ck, if_pos z00, show (0 : Int32) = iI ((0 : Nat) : Int) from rfl, show (1 : Int32) = iI ((1 : Nat) : Int) from rfl, c_told (by omega) (by omega) (by omega), tr_bn_some, r_fraction (by omega) (by omega) (by omega), tr_bn_some, q1, q2]
          exact ⟨_, _, _, rfl, rfl, Rl_fr fxA j2 hR0⟩
      · rw [if_neg c4, if_pos z00]
        refine ⟨-2, hx, m0, ?_, rfl, hR0⟩
        by_cases c5 : t < 0
        · rw [if_pos (show iI t < 0 by rw [iI_0, iI_lt (by omega) (by omega) (by omega) (by omega)]; omega)]
        · rw [if_neg (show ¬ iI t < 0 by rw [iI_0, iI_lt (by omega) (by omega) (by omega) (by omega)]; omega), if_neg (show ¬ iI t ≤ 10 by rw [iI_10, iI_le (by omega) (by omega) (by omega) (by omega)]; omega)]
    · rw [if_neg c3, if_pos z00]
      refine ⟨-2, hx, m0, ?_, rfl, hR0⟩
      by_cases c5 : p < 0
      · rw [if_pos (show iI p < 0 by rw [iI_0, iI_lt (by omega) (by omega) (by omega) (by omega)]; omega)]
      · rw [if_neg (show ¬ iI p < 0 by rw [iI_0, iI_lt (by omega) (by omega) (by omega) (by omega)]; omega), if_pos (show 20 < iI p by rw [iI_20, iI_lt (by omega) (by omega) (by omega) (by omega)]; omega)]
  · rw [if_neg c1, if_neg c1, if_pos z00, if_neg n10]
    exact ⟨_, _, _, rfl, rfl, hR0⟩
