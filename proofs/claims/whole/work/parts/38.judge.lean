/-! told doings are judged -/
def jI (z : Int) : Int64 := Int64.ofInt z
theorem jI_in {a : Int} (h1 : -9223372036854775808 ≤ a) (h2 : a < 9223372036854775808) : (jI a).toInt = a := Int64.toInt_ofInt_of_le (by omega) (by omega)
theorem jI_to (x : Int64) : x = jI x.toInt := (Int64.ofInt_toInt x).symm
theorem jI_sub (a b : Int) : jI a - jI b = jI (a - b) := (Int64.ofInt_sub a b).symm
theorem jI_mul (a b : Int) : jI a * jI b = jI (a * b) := (Int64.ofInt_mul a b).symm
theorem jI_32 (a : Int) : (jI a).toInt32 = iI a := Int64.toInt32_ofInt
theorem jI_m1 : (-1 : Int64) = jI (-1) := by decide
theorem jI_1 : (1 : Int64) = jI 1 := by decide
theorem jI_0 : (0 : Int64) = jI 0 := by decide
theorem jI_t4 : (10000 : Int64) = jI 10000 := by decide
theorem jI_div {a b : Int} (h1 : 0 ≤ a) (h2 : a < 9223372036854775808) (h3 : 0 < b) (h4 : b < 9223372036854775808) : jI a / jI b = jI (a / b) := by
  have h5 : 0 ≤ a / b := Int.ediv_nonneg h1 (by omega)
  have h6 : a / b ≤ a := Int.ediv_le_self b h1
  rw [← Int64.toInt_inj, jI_in (a := a / b) (by omega) (by omega), Int64.toInt_div_of_ne_right]
  · rw [jI_in (by omega) h2, jI_in (by omega) h4, Int.tdiv_eq_ediv_of_nonneg h1]
  · intro h
    rw [← Int64.toInt_inj, jI_in (by omega) h4, jI_m1, jI_in (by omega) (by omega)] at h
    omega
theorem jI_rem {a : Int} (h1 : 0 ≤ a) (h2 : a < 9223372036854775808) : (jI a - jI a / 10000 * 10000 : Int64).toInt32 = iI (a % 10000) := by
  rw [jI_t4, jI_div h1 h2 (by omega) (by omega), jI_mul, jI_sub, jI_32]
  congr 1
  rw [Int.emod_def, Int.mul_comm]
theorem c_fig {R k : Nat} (hR : R < 9223372036854775808) (hk : k ≤ 4) : f_X7_figuresOf (jI R) (iI k) = some (iI (R / 10000 ^ k % 10000 : Nat)) := by
  unfold f_X7_figuresOf
  have hle : ∀ m, R / 10000 ^ m ≤ R := fun m => Nat.div_le_self _ _
  have key := tr_seq (f := fun q => f_X7_figuresOf_L5 (iI k) q.1 q.2) (fun m => (jI (R / 10000 ^ m : Nat), iI m)) (lo := 0) (hi := k) (r := jI (R / 10000 ^ k : Nat)) (by omega) (fun m _ hm => by
    have := hle m
    show f_X7_figuresOf_L5 (iI k) (jI (R / 10000 ^ m : Nat)) (iI m) = _
    unfold f_X7_figuresOf_L5
    rw [if_neg (by rw [iI_le (by omega) (by omega) (by omega) (by omega)]; omega)]
    unfold tr_bd
    rw [jI_t4, jI_div (Int.natCast_nonneg _) (Int.lt_of_le_of_lt (Int.ofNat_le.mpr (hle m)) (by omega)) (by omega) (by omega), iI_1, iI_add, show ((R / 10000 ^ m : Nat) : Int) / 10000 = ((R / 10000 ^ (m + 1) : Nat) : Int) by rw [Nat.pow_succ, ← Nat.div_div_eq_div_mul]; rfl]
    rfl) (by
    show f_X7_figuresOf_L5 (iI k) (jI (R / 10000 ^ k : Nat)) (iI k) = _
    unfold f_X7_figuresOf_L5
    rw [if_pos (Int32.le_refl _)])
  have h0 : (jI R, (0 : Int32)) = (jI (R / 10000 ^ 0 : Nat), iI (0 : Nat)) := by rw [Nat.pow_zero, Nat.div_one]; rfl
  have := hle k
  rw [h0, key, tr_bn_some]
  unfold f_X7_figuresOf_E23
  rw [jI_rem (Int.natCast_nonneg _) (Int.lt_of_le_of_lt (Int.ofNat_le.mpr (hle k)) (by omega))]
  rfl
theorem p4 : ∀ k : Nat, k ≤ 4 → 1 ≤ 10000 ^ k ∧ 10000 ^ k ≤ 10000000000000000 := by
  intro k hk
  rcases (show k = 0 ∨ k = 1 ∨ k = 2 ∨ k = 3 ∨ k = 4 by omega) with rfl | rfl | rfl | rfl | rfl <;> decide
theorem r_lpw {k : Nat} (hk : k ≤ 4) : f_X8_longPower 10000 (iI k) = some (jI (10000 ^ k : Nat)) := by
  unfold f_X8_longPower
  have key := tr_seq (f := fun q => f_X8_longPower_L5 (iI k) 10000 q.1 q.2) (fun m => (jI (10000 ^ m : Nat), iI m)) (lo := 0) (hi := k) (r := jI (10000 ^ k : Nat)) (by omega) (fun m _ hm => by
    show f_X8_longPower_L5 (iI k) 10000 (jI (10000 ^ m : Nat)) (iI m) = _
    unfold f_X8_longPower_L5
    rw [if_neg (by rw [iI_le (by omega) (by omega) (by omega) (by omega)]; omega)]
    unfold tr_bd
    rw [jI_t4, jI_mul, iI_1, iI_add, show ((10000 ^ m : Nat) : Int) * 10000 = ((10000 ^ (m + 1) : Nat) : Int) by rw [Nat.pow_succ, Int.natCast_mul]; rfl]
    rfl) (by
    show f_X8_longPower_L5 (iI k) 10000 (jI (10000 ^ k : Nat)) (iI k) = _
    unfold f_X8_longPower_L5
    rw [if_pos (Int32.le_refl _)])
  have h0 : ((1 : Int64), (0 : Int32)) = (jI (10000 ^ 0 : Nat), iI (0 : Nat)) := by rw [Nat.pow_zero, jI_1]; rfl
  rw [h0, key]
  rfl
theorem f2_p {k : Nat} (hk : k ≤ 4) : tr_f2 k = jI (10000 ^ k : Nat) := by
  rcases (show k = 0 ∨ k = 1 ∨ k = 2 ∨ k = 3 ∨ k = 4 by omega) with rfl | rfl | rfl | rfl | rfl <;> decide
/-! one told thing -/
theorem zb1 {α : Type} (o : Option α) : tr_zb 1 o = o := rfl
theorem zb0 {α : Type} (o : Option α) : tr_zb 0 o = o := rfl
section SETS
variable {hx hm : tr_H} {n a b : Nat} {w : Nat → Int}
theorem r_sets (hP : tP hm 4 n w) (ha : a < 10) (hb : b < 10) {th : Int32} (hth : th = 0 ∨ th = 1) {v : Int} (hv : v = -9 ∨ (0 ≤ v ∧ v ≤ 9)) : (a < n ∧ b < n ∧ (th = 0 ↔ w (6 * a + b) = -9) → f_X8_sets (iI a) (iI b) th (iI (cvn v)) hm = some (1, tr_si hm 4 (1 + (6 * a + b)) (iI (cvn v)))) ∧ (¬ (a < n ∧ b < n ∧ (th = 0 ↔ w (6 * a + b) = -9)) → f_X8_sets (iI a) (iI b) th (iI (cvn v)) hm = some (0, hm)) := by
  have h6 := hP.2.1.2.1
  have e0 : (0 : Int32).toNatClampNeg = 0 := rfl
  have h37 : f_X8_sets_J37 hm (iI a) (iI b) (iI (cvn v)) = some (0, hm) := rfl
  unfold f_X8_sets
  rw [e0, hP.2.2.1]
  by_cases c1 : a < n
  · rw [if_neg (by rw [iI_le (by omega) (by omega) (by omega) (by omega)]; omega)]
    by_cases c2 : b < n
    · rw [if_neg (by rw [iI_le (by omega) (by omega) (by omega) (by omega)]; omega), r_isThere hP (i := a) (j := b) (by omega) (by omega), tr_bn_some]
      have h38 : f_X8_sets_J38 hm (iI a) (iI b) (iI (cvn v)) 1 = some (1, tr_si hm 4 (1 + (6 * a + b)) (iI (cvn v))) := by
        unfold f_X8_sets_J38
        rw [if_neg n10]
        simp only [tr_bd]
        rw [ix37, tr_gdI (by omega) (by omega) (by omega), iI_ix (by omega), zb1]
      by_cases c3 : w (6 * a + b) = -9
      · rw [if_pos c3]
        rcases hth with rfl | rfl
        · rw [if_pos rfl]
          exact ⟨fun _ => h38, fun q => absurd ⟨c1, c2, ⟨fun _ => c3, fun _ => rfl⟩⟩ q⟩
        · rw [if_neg (by decide)]
          exact ⟨fun q => absurd (q.2.2.mpr c3) (by decide), fun _ => h37⟩
      · rw [if_neg c3]
        rcases hth with rfl | rfl
        · rw [if_neg (by decide)]
          exact ⟨fun q => absurd (q.2.2.mp rfl) c3, fun _ => h37⟩
        · rw [if_pos rfl]
          exact ⟨fun _ => h38, fun q => absurd ⟨c1, c2, ⟨fun z => absurd z (by decide), fun z => absurd z c3⟩⟩ q⟩
    · rw [if_pos (by rw [iI_le (by omega) (by omega) (by omega) (by omega)]; omega)]
      exact ⟨fun q => absurd q.2.1 c2, fun _ => h37⟩
  · rw [if_pos (by rw [iI_le (by omega) (by omega) (by omega) (by omega)]; omega)]
    exact ⟨fun q => absurd q.1 c1, fun _ => h37⟩
end SETS
theorem kept10 {n : Nat} {w : Nat → Int} (hw : okn n w) : kept n w 10 := ⟨by have := pac_b hw; omega, by omega, by omega⟩
/-- both judge alike -/
def jud (hx hm : tr_H) (n : Nat) (X M : Option (Int32 × tr_H)) : Prop := ∃ t gx gm w', X = some (t, gx) ∧ M = some (t, gm) ∧ Rl gx gm ∧ tN gx 4 n w' ∧ tP gm 4 n w'
theorem jud_mk {hx hm gx gm : tr_H} {n : Nat} {w : Nat → Int} (hR : Rl hx hm) (hN : tN hx 4 n w) (hP : tP hm 4 n w) (t : Int32) (f1 : fr [12, 21, 22, 23, 24, 25, 26, 27, 28, 29, 30] hx gx) (f2 : gM hm gm) (f3 : gm.1 4 = hm.1 4) : jud hx hm n (some (t, gx)) (some (t, gm)) := by
  refine ⟨t, gx, gm, w, rfl, rfl, Rl_fr (fr_up f1 (by decide)) f2 hR, tN_fr f1 (by decide) (by decide) hN, ?_⟩
  obtain ⟨p1, p2, p3, p4⟩ := hP
  exact ⟨p1, p2, by rw [f3]; exact p3, fun c hc => by rw [f3]; exact p4 c hc⟩
theorem mR_4 {h h' : tr_H} (hR : mR h h') : h'.1 4 = h.1 4 := hR.1 4 (by decide) (by decide) (by decide)
theorem jud_lay {hx hm : tr_H} {n a b : Nat} {w : Nat → Int} (hR : Rl hx hm) (hN : tN hx 4 n w) (hP : tP hm 4 n w) (ha : a < n) (hb : b < n) {v : Int} (hv : v = -9 ∨ (0 ≤ v ∧ v ≤ 9)) : jud hx hm n (tr_b2 (f_X2_lay 4 (iI a) (iI b) (iI v) hx) fun tv th => if tv = 0 then some (0, th) else some (1, th)) (some (1, tr_si hm 4 (1 + (6 * a + b)) (iI (cvn v)))) := by
  have h6 := hN.2.1.2.1
  have l1 := n_lay hN (a := (a : Int)) (b := (b : Int)) v (by omega) (by omega) (by omega) (by omega)
  rw [if_pos (by omega)] at l1
  simp only [Int.toNat_natCast] at l1
  refine ⟨1, _, _, wup w (6 * a + b) v, ?_, rfl, Rl_fr (gx := tr_sa hx (4 + 1) (upd (hx.1 (4 + 1)) (6 * a + b) (iI v))) (fr_sa _ _ (by decide)) (gM_f (fr_si (L := [4]) _ _ _ (by simp)) (by decide) (by decide)) hR, tN_up hN ha hb hv, tP_up hP ha hb hv⟩
  rw [l1, tr_b2_some, if_neg n10]
theorem z00 : (0 : Int32) = 0 := rfl
theorem has_y {h : tr_H} {i n a : Nat} {w : Nat → Int} (hN : tN h i n w) (ha : a < n) : f_X2_has i (iI a) h = some 1 := by
  have h6 := hN.2.1.2.1
  rw [n_has hN (by omega) (by omega), if_pos (by omega)]
theorem has_n {h : tr_H} {i n a : Nat} {w : Nat → Int} (hN : tN h i n w) (h10 : a < 10) (ha : ¬ a < n) : f_X2_has i (iI a) h = some 0 := by
  rw [n_has hN (by omega) (by omega), if_neg (by omega)]
section JD
variable {hx hm : tr_H} {n a b c u : Nat} {w : Nat → Int} {g : Int32}
theorem jd_st (hR : Rl hx hm) (hN : tN hx 4 n w) (hP : tP hm 4 n w) (t : Int32) : jud hx hm n (some (t, hx)) (some (t, hm)) := jud_mk hR hN hP t (fr_rf _ _) (gM_rf _) rfl
def gOk (n : Nat) (w : Nat → Int) (a b : Nat) (g : Int32) : Prop := (a < n ∧ b < n → g = if w (6 * a + b) = -9 then 0 else 1) ∧ (¬ (a < n ∧ b < n) → g = 0)
theorem jd1 (hR : Rl hx hm) (hN : tN hx 4 n w) (hP : tP hm 4 n w) (ha : a < 10) (hb : b < 10) (hc : c < 10) (hg : gOk n w a b g) : jud hx hm n (tr_bn (f_X2_has 4 (iI a) hx) fun tv11 => if tv11 = 0 then (some (0, hx)) else (tr_bn (f_X2_has 4 (iI b) hx) fun tv14 => if tv14 = 0 then (some (0, hx)) else (if g = 0 then (tr_b2 (f_X2_lay 4 (iI a) (iI b) (iI c) hx) fun tv18 th19 => if tv18 = 0 then (some (0, th19)) else (some (1, th19))) else (some (0, hx))))) (tr_b2 (f_X8_sets (iI a) (iI b) 0 (iI c + 1) hm) fun tv8 th9 => tr_zb tv8 <| some (tv8, th9)) := by
  have hs := r_sets hP ha hb (th := 0) (Or.inl rfl) (v := (c : Int)) (Or.inr (by omega))
  have e1 : iI (c : Int) + 1 = iI (cvn (c : Int)) := by rw [iI_1, iI_add, cvn_nn (by omega)]
  rw [e1]
  by_cases p1 : a < n
  · rw [has_y hN p1, tr_bn_some, if_neg n10]
    by_cases p2 : b < n
    · rw [has_y hN p2, tr_bn_some, if_neg n10, hg.1 ⟨p1, p2⟩]
      by_cases p3 : w (6 * a + b) = -9
      · rw [if_pos p3, if_pos z00, hs.1 ⟨p1, p2, ⟨fun _ => p3, fun _ => rfl⟩⟩, tr_b2_some, zb1]
        exact jud_lay hR hN hP p1 p2 (Or.inr (by omega))
      · rw [if_neg p3, if_neg n10, hs.2 (fun q => p3 (q.2.2.mp rfl)), tr_b2_some, zb0]
        exact jd_st hR hN hP 0
    · rw [has_n hN hb p2, tr_bn_some, if_pos z00, hs.2 (fun q => p2 q.2.1), tr_b2_some, zb0]
      exact jd_st hR hN hP 0
  · rw [has_n hN ha p1, tr_bn_some, if_pos z00, hs.2 (fun q => p1 q.1), tr_b2_some, zb0]
    exact jd_st hR hN hP 0
theorem jd2 (hR : Rl hx hm) (hN : tN hx 4 n w) (hP : tP hm 4 n w) (ha : a < 10) (hb : b < 10) (c01 : iI (c : Int) = 0 ↔ c = 0) (hg : gOk n w a b g) : jud hx hm n (if g = 0 then (some (0, hx)) else (if iI (c : Int) = 0 then (tr_b2 (f_X2_lay 4 (iI a) (iI b) (-9) hx) fun tv25 th26 => if tv25 = 0 then (some (0, th26)) else (some (1, th26))) else (some (0, hx)))) (if iI (c : Int) = 0 then (tr_b2 (f_X8_sets (iI a) (iI b) 1 0 hm) fun tv14 th15 => if tv14 = 0 then (some (0, th15)) else (some (1, th15))) else (some (0, hm))) := by
  have hs := r_sets hP ha hb (th := 1) (Or.inr rfl) (v := -9) (Or.inl rfl)
  rw [show iI (cvn (-9)) = 0 from rfl] at hs
  by_cases p0 : c = 0
  · rw [if_pos (c01.mpr p0), if_pos (c01.mpr p0)]
    by_cases p1 : a < n ∧ b < n
    · rw [hg.1 p1]
      by_cases p3 : w (6 * a + b) = -9
      · rw [if_pos p3, if_pos z00, hs.2 (fun q => absurd (q.2.2.mpr p3) (by decide)), tr_b2_some, if_pos z00]
        exact jd_st hR hN hP 0
      · rw [if_neg p3, if_neg n10, hs.1 ⟨p1.1, p1.2, ⟨fun z => absurd z (by decide), fun z => absurd z p3⟩⟩, tr_b2_some, if_neg n10]
        exact jud_lay hR hN hP p1.1 p1.2 (Or.inl rfl)
    · rw [hg.2 p1, if_pos z00, hs.2 (fun q => p1 ⟨q.1, q.2.1⟩), tr_b2_some, if_pos z00]
      exact jd_st hR hN hP 0
  · rw [if_neg (fun z => p0 (c01.mp z)), if_neg (fun z => p0 (c01.mp z))]
    by_cases p1 : g = 0
    · rw [if_pos p1]; exact jd_st hR hN hP 0
    · rw [if_neg p1]; exact jd_st hR hN hP 0
theorem jd3 (hR : Rl hx hm) (hN : tN hx 4 n w) (hP : tP hm 4 n w) (ha : a < 10) (hb : b < 10) (hc : c < 10) (hg : gOk n w a b g) : jud hx hm n (if g = 0 then (some (0, hx)) else (tr_b2 (f_X2_lay 4 (iI a) (iI b) (iI c) hx) fun tv31 th32 => if tv31 = 0 then (some (0, th32)) else (some (1, th32)))) (tr_b2 (f_X8_sets (iI a) (iI b) 1 (iI c + 1) hm) fun tv19 th20 => tr_zb tv19 <| some (tv19, th20)) := by
  have hs := r_sets hP ha hb (th := 1) (Or.inr rfl) (v := (c : Int)) (Or.inr (by omega))
  have e1 : iI (c : Int) + 1 = iI (cvn (c : Int)) := by rw [iI_1, iI_add, cvn_nn (by omega)]
  rw [e1]
  by_cases p1 : a < n ∧ b < n
  · rw [hg.1 p1]
    by_cases p3 : w (6 * a + b) = -9
    · rw [if_pos p3, if_pos z00, hs.2 (fun q => absurd (q.2.2.mpr p3) (by decide)), tr_b2_some, zb0]
      exact jd_st hR hN hP 0
    · rw [if_neg p3, if_neg n10, hs.1 ⟨p1.1, p1.2, ⟨fun z => absurd z (by decide), fun z => absurd z p3⟩⟩, tr_b2_some, zb1]
      exact jud_lay hR hN hP p1.1 p1.2 (Or.inr (by omega))
  · rw [hg.2 p1, if_pos z00, hs.2 (fun q => p1 ⟨q.1, q.2.1⟩), tr_b2_some, zb0]
    exact jd_st hR hN hP 0
theorem jd4 (hR : Rl hx hm) (hN : tN hx 4 n w) (hP : tP hm 4 n w) (hu : u < 100) : jud hx hm n (if iI (a : Int) = 0 then (if 20 < iI (u : Int) then (some (0, hx)) else (tr_b2 (f_X6_isKept 4 (iI u) hx) fun tv38 th39 => if tv38 = 0 then (some (0, th39)) else (some (1, th39)))) else (some (0, hx))) (if iI (a : Int) = 0 then (if 20 < iI (u : Int) then (some (0, hm)) else (tr_b2 (f_X8_isPeriod 4 (iI u) hm) fun tv26 th27 => if tv26 = 0 then (some (0, th27)) else (some (1, th27)))) else (some (0, hm))) := by
  by_cases p0 : iI (a : Int) = 0
  · rw [if_pos p0, if_pos p0]
    by_cases p1 : (20 : Int32) < iI (u : Int)
    · rw [if_pos p1, if_pos p1]
      exact jd_st hR hN hP 0
    · have p1' : (u : Int) ≤ 20 := by
        rw [iI_20, iI_lt (by omega) (by omega) (by omega) (by omega)] at p1
        omega
      rw [if_neg p1, if_neg p1]
      obtain ⟨x1, a1, a2⟩ := w_kept hN (p := (u : Int)) (by omega) p1'
      obtain ⟨m1, b1, b2⟩ := r_isPeriod hP (d := (u : Int)) (by omega) (by omega)
      rw [a1, tr_b2_some, b1, tr_b2_some]
      have hgo : ∀ t, jud hx hm n (some (t, x1)) (some (t, m1)) := fun t => jud_mk hR hN hP t (fr_up a2 (by decide)) (gM_R b2) (mR_4 b2)
      by_cases p2 : pac n w ≤ 60 * (u : Int)
      · rw [if_pos p2, if_neg n10, if_neg n10]; exact hgo 1
      · rw [if_neg p2, if_pos z00, if_pos z00]; exact hgo 0
  · rw [if_neg p0, if_neg p0]
    exact jd_st hR hN hP 0
theorem r_crit4 (hP : tP hm 4 n w) (ha : a < 10) (hb : b < 10) : ∃ m1, mR hm m1 ∧ (crR n w a b → f_X8_isCritical (iI a) (iI b) hm = some (1, m1)) ∧ (¬ crR n w a b → f_X8_isCritical (iI a) (iI b) hm = some (0, m1)) := by
  have h6 := hP.2.1.2.1
  obtain ⟨S, B, m1, b1, b2, b7, -⟩ := r_find hP
  obtain ⟨rwt, cw, cd, e1, -, -, -, e5, -, -, e8, -⟩ := rF_bits hP.2.1 b7
  have hP1 := tP_R b2 hP
  refine ⟨m1, b2, ?_⟩
  unfold f_X8_isCritical
  rw [b1, tr_bn_some, show (0 : Int32).toNatClampNeg = 0 from rfl, hP1.2.2.1]
  by_cases p1 : a < n
  · rw [if_neg (show ¬ iI (n : Int) ≤ iI (a : Int) by rw [iI_le (by omega) (by omega) (by omega) (by omega)]; omega)]
    by_cases p2 : b < n
    · have hbit := bit64 (a := cw) (k := 6 * a + b) (by omega) (Nat.lt_of_lt_of_le e5 (by decide))
      have e9 := e8 a b (by omega) (by omega)
      have ei : 6 * iI a + iI b = iI (6 * a + b : Nat) := by
        rw [iI_6, iI_mul, iI_add]
        congr 1
      rw [if_neg (show ¬ iI (n : Int) ≤ iI (b : Int) by rw [iI_le (by omega) (by omega) (by omega) (by omega)]; omega), e1, ei, hbit]
      constructor
      · intro p3
        rw [if_pos (e9.mpr p3), if_pos (show lg_cmp (lN 1) 1 = 0 by decide)]
      · intro p3
        rw [if_neg (fun z => p3 (e9.mp z)), if_neg (show ¬ lg_cmp (lN 0) 1 = 0 by decide)]
    · rw [if_pos (show iI (n : Int) ≤ iI (b : Int) by rw [iI_le (by omega) (by omega) (by omega) (by omega)]; omega)]
      exact ⟨fun z => absurd (crR_lt z).2 p2, fun _ => rfl⟩
  · rw [if_pos (show iI (n : Int) ≤ iI (a : Int) by rw [iI_le (by omega) (by omega) (by omega) (by omega)]; omega)]
    exact ⟨fun z => absurd (crR_lt z).1 p1, fun _ => rfl⟩
theorem jd5 (hR : Rl hx hm) (hN : tN hx 4 n w) (hP : tP hm 4 n w) (ha : a < 10) (hb : b < 10) : jud hx hm n (tr_bn (f_X6_compare 4 hx) fun th43 => if iI (c : Int) = 0 then (tr_bn (f_X6_isCritical 4 (iI a) (iI b) th43) fun tv46 => if tv46 = 0 then (some (0, th43)) else (some (1, th43))) else (some (0, th43))) (if iI (c : Int) = 0 then (tr_b2 (f_X8_isCritical (iI a) (iI b) hm) fun tv32 th33 => if tv32 = 0 then (some (0, th33)) else (some (1, th33))) else (some (0, hm))) := by
  obtain ⟨f, g', j1, j2⟩ := w_comp hN
  have fx : fr [12, 21, 22, 23, 24, 25, 26, 27, 28, 29, 30] hx (tr_sa (tr_si (tr_sa hx 22 f) 21 2 (iI (pac n w))) 23 g') := fr_tr (b := tr_si (tr_sa hx 22 f) 21 2 (iI (pac n w))) (fr_tr (b := tr_sa hx 22 f) (fr_sa _ _ (by decide)) (fr_si _ _ _ (by decide))) (fr_sa _ _ (by decide))
  generalize tr_sa (tr_si (tr_sa hx 22 f) 21 2 (iI (pac n w))) 23 g' = x1 at j1 j2 fx
  rw [j1, tr_bn_some]
  by_cases p0 : iI (c : Int) = 0
  · rw [if_pos p0, if_pos p0]
    have hcr := w_isCritical j2 (a := a) (b := b) ha hb
    obtain ⟨m1, b2, b3, b4⟩ := r_crit4 (a := a) (b := b) hP ha hb
    have hgo : ∀ t, jud hx hm n (some (t, x1)) (some (t, m1)) := fun t => jud_mk hR hN hP t fx (gM_R b2) (mR_4 b2)
    by_cases p3 : crR n w a b
    · rw [hcr.1 p3, tr_bn_some, b3 p3, tr_b2_some, if_neg n10, if_neg n10]
      exact hgo 1
    · rw [hcr.2 p3, tr_bn_some, b4 p3, tr_b2_some, if_pos z00, if_pos z00]
      exact hgo 0
  · rw [if_neg p0, if_neg p0]
    exact jud_mk hR hN hP 0 fx (gM_rf _) rfl
theorem r_time4 (hP : tP hm 4 n w) (ha : a < 10) (hu : u < 100) : ∃ m1, fr [13] hm m1 ∧ (a < n ∧ TM n w 10 n a = (u : Int) → f_X8_isTime (iI a) (iI u) hm = some (1, m1)) ∧ (¬ (a < n ∧ TM n w 10 n a = (u : Int)) → f_X8_isTime (iI a) (iI u) hm = some (0, m1)) := by
  have hw := hP.2.1
  have h6 := hw.2.1
  have hk := kept10 hw
  obtain ⟨m1, b1, b2, b3⟩ := r_set hP hk
  refine ⟨m1, b2, ?_⟩
  unfold f_X8_isTime
  rw [iI_10, b1, tr_bn_some, show (0 : Int32).toNatClampNeg = 0 from rfl, (tP_fr b2 (by simp) hP).2.2.1]
  by_cases p1 : a < n
  · have tb := TW_b hw hk (TW_TM (p := 10) hw n) a
    rw [if_neg (show ¬ iI (n : Int) ≤ iI (a : Int) by rw [iI_le (by omega) (by omega) (by omega) (by omega)]; omega), tr_gdI (by omega) (by omega) (by omega), iI_ix (by omega), b3 a (by omega)]
    constructor
    · intro q
      rw [if_pos (show iI (TM n w 10 n a) = iI (u : Int) by rw [q.2])]
    · intro q
      rw [if_neg (show ¬ iI (TM n w 10 n a) = iI (u : Int) by rw [iI_eq (by omega) (by omega) (by omega) (by omega)]; exact fun z => q ⟨p1, z⟩)]
  · rw [if_pos (show iI (n : Int) ≤ iI (a : Int) by rw [iI_le (by omega) (by omega) (by omega) (by omega)]; omega)]
    exact ⟨fun z => absurd z.1 p1, fun _ => rfl⟩
theorem jd6 (hR : Rl hx hm) (hN : tN hx 4 n w) (hP : tP hm 4 n w) (ha : a < 10) (hu : u < 100) : jud hx hm n (tr_bn (f_X2_has 4 (iI a) hx) fun tv50 => if tv50 = 0 then (some (0, hx)) else (tr_b2 (f_X7_departsAt (iI a) (iI u) hx) fun tv53 th54 => if tv53 = 0 then (some (0, th54)) else (some (1, th54)))) (tr_b2 (f_X8_isTime (iI a) (iI u) hm) fun tv37 th38 => tr_zb tv37 <| some (tv37, th38)) := by
  have hw := hN.2.1
  have h6 := hw.2.1
  have hk := kept10 hw
  obtain ⟨m1, b2, b3, b4⟩ := r_time4 (a := a) (u := u) hP ha hu
  have fm : gM hm m1 := gM_f b2 (by decide) (by decide)
  have fm4 : m1.1 4 = hm.1 4 := b2.1 4 (by decide)
  by_cases p1 : a < n
  · rw [has_y hN p1, tr_bn_some, if_neg n10]
    obtain ⟨x1, a1, a2⟩ := w_kept hN (p := 10) (by omega) (by omega)
    rw [if_pos hk.1] at a1
    obtain ⟨x2, c1, c2, c3⟩ := w_set (tN_fr a2 (by simp) (by simp) hN) hk
    have tb := TW_b hw hk (TW_TM (p := 10) hw n) a
    have hgo : ∀ t, jud hx hm n (some (t, x2)) (some (t, m1)) := fun t => jud_mk hR hN hP t (fr_tr (fr_up a2 (by decide)) (fr_up c2 (by decide))) fm fm4
    unfold f_X7_departsAt
    rw [iI_10, a1, tr_b2_some, if_neg n10, c1, tr_bn_some, w_timeOf (by omega), tr_bn_some, c3.2 a (by omega)]
    by_cases p2 : TM n w 10 n a = (u : Int)
    · rw [if_pos (show iI (TM n w 10 n a) = iI (u : Int) by rw [p2]), tr_b2_some, if_neg n10, b3 ⟨p1, p2⟩, tr_b2_some, zb1]
      exact hgo 1
    · rw [if_neg (show ¬ iI (TM n w 10 n a) = iI (u : Int) by rw [iI_eq (by omega) (by omega) (by omega) (by omega)]; exact p2), tr_b2_some, if_pos z00, b4 (fun z => p2 z.2), tr_b2_some, zb0]
      exact hgo 0
  · rw [has_n hN ha p1, tr_bn_some, if_pos z00, b4 (fun z => p1 z.1), tr_b2_some, zb0]
    exact jud_mk hR hN hP 0 (fr_rf _ _) fm fm4
theorem jd7 (hR : Rl hx hm) (hN : tN hx 4 n w) (hP : tP hm 4 n w) (ha : a < 10) (hu : u < 100) : jud hx hm n (tr_bn (f_X2_has 4 (iI a) hx) fun tv58 => if tv58 = 0 then (some (0, hx)) else (tr_b2 (f_X7_isOver (iI a) (iI u) hx) fun tv61 th62 => if tv61 = 0 then (some (0, th62)) else (some (1, th62)))) (if (hm.1 4 ((0 : Int32).toNatClampNeg)) ≤ iI (a : Int) then (some (0, hm)) else (tr_bn (f_X8_in ((iI (u : Int) : Int32).toInt64) 1 30) fun tv43 => if tv43 = 0 then (some (0, hm)) else (tr_b2 (f_X8_diesOf 4 (iI a) (iI u) 10 hm) fun tv46 th47 => if tv46 = (-9) then (some (0, th47)) else (some (1, th47))))) := by
  have hw := hN.2.1
  have h6 := hw.2.1
  have hk := kept10 hw
  have hin := r_inv (v := (u : Int)) (by omega) 1 30
  rw [i64_1, i64_30] at hin
  rw [show (0 : Int32).toNatClampNeg = 0 from rfl, hP.2.2.1, hin, tr_bn_some]
  by_cases p1 : a < n
  · rw [has_y hN p1, tr_bn_some, if_neg n10, if_neg (show ¬ iI (n : Int) ≤ iI (a : Int) by rw [iI_le (by omega) (by omega) (by omega) (by omega)]; omega)]
    unfold f_X7_isOver
    by_cases p2 : 1 ≤ (u : Int) ∧ (u : Int) ≤ 30
    · obtain ⟨x1, a1, a2⟩ := w_kept hN (p := 10) (by omega) (by omega)
      rw [if_pos hk.1] at a1
      obtain ⟨x2, c1, c2⟩ := w_lasts (d := (u : Int)) (at_ := a) (tN_fr a2 (by simp) (by simp) hN) hk (by omega) p1
      obtain ⟨m1, b1, b2⟩ := r_diesOf (d := (u : Int)) (at_ := a) hP hk (by omega) p1
      have hgo : ∀ t, jud hx hm n (some (t, x2)) (some (t, m1)) := fun t => jud_mk hR hN hP t (fr_tr (fr_up a2 (by decide)) (fr_up c2 (by decide))) (gM_f b2 (by decide) (by decide)) (b2.1 4 (by decide))
      rw [if_neg (show ¬ iI (u : Int) < 1 by rw [iI_1, iI_lt (by omega) (by omega) (by omega) (by omega)]; omega), if_neg (show ¬ 30 < iI (u : Int) by rw [iI_30, iI_lt (by omega) (by omega) (by omega) (by omega)]; omega), if_pos p2, if_neg n10, iI_10, a1, tr_b2_some, if_neg n10, c1, tr_b2_some, b1, tr_b2_some]
      by_cases p3 : iI (dieF n w 10 a (u : Int) 40 1) = -9
      · rw [if_pos p3, if_pos p3, tr_b2_some, if_pos z00]
        exact hgo 0
      · rw [if_neg p3, if_neg p3, tr_b2_some, if_neg n10]
        exact hgo 1
    · rw [if_neg p2, if_pos z00]
      by_cases p3 : (u : Int) < 1
      · rw [if_pos (show iI (u : Int) < 1 by rw [iI_1, iI_lt (by omega) (by omega) (by omega) (by omega)]; omega), tr_b2_some, if_pos z00]
        exact jd_st hR hN hP 0
      · rw [if_neg (show ¬ iI (u : Int) < 1 by rw [iI_1, iI_lt (by omega) (by omega) (by omega) (by omega)]; omega), if_pos (show 30 < iI (u : Int) by rw [iI_30, iI_lt (by omega) (by omega) (by omega) (by omega)]; omega), tr_b2_some, if_pos z00]
        exact jd_st hR hN hP 0
  · rw [has_n hN ha p1, tr_bn_some, if_pos z00, if_pos (show iI (n : Int) ≤ iI (a : Int) by rw [iI_le (by omega) (by omega) (by omega) (by omega)]; omega)]
    exact jd_st hR hN hP 0
end JD
theorem fig4 {F : Nat} (hF : F < 10000) : ∃ a b c u K : Nat, a < 10 ∧ b < 10 ∧ c < 10 ∧ u < 100 ∧ K < 10 ∧ iI (F : Int) / 100 - iI (F : Int) / 100 / 10 * 10 = iI a ∧ iI (F : Int) / 10 - iI (F : Int) / 10 / 10 * 10 = iI b ∧ iI (F : Int) - iI (F : Int) / 10 * 10 = iI c ∧ iI (F : Int) - iI (F : Int) / 100 * 100 = iI u ∧ iI (F : Int) / 1000 = iI K ∧ 10 * iI (b : Int) + iI (c : Int) = iI u := by
  refine ⟨F / 100 % 10, F / 10 % 10, F % 10, F % 100, F / 1000, by omega, by omega, by omega, by omega, by omega, ?_, ?_, ?_, ?_, ?_, ?_⟩
  · rw [iI_100, iI_10, iI_div (by omega) (by omega) (by omega) (by omega), iI_rem (by omega) (by omega) (by omega) (by omega)]
    rfl
  · rw [iI_10, iI_div (by omega) (by omega) (by omega) (by omega), iI_rem (by omega) (by omega) (by omega) (by omega)]
    rfl
  · rw [iI_10, iI_rem (by omega) (by omega) (by omega) (by omega)]
    rfl
  · rw [iI_100, iI_rem (by omega) (by omega) (by omega) (by omega)]
    rfl
  · rw [iI_1000, iI_div (by omega) (by omega) (by omega) (by omega)]
    rfl
  · rw [iI_10, iI_mul, iI_add]
    congr 1
    omega
theorem does_ok {hx hm : tr_H} {n F : Nat} {w : Nat → Int} (hR : Rl hx hm) (hN : tN hx 4 n w) (hP : tP hm 4 n w) (hF : F < 10000) : jud hx hm n (f_X7_holds (iI F) hx) (f_X8_does (iI F) hm) := by
  have hw := hN.2.1
  obtain ⟨a, b, c, u, K, ha, hb, hc, hu, hK, d1, d2, d3, d4, d5, d6⟩ := fig4 hF
  have ho := n_of hN (a := (a : Int)) (b := (b : Int)) (by omega) (by omega) (by omega) (by omega)
  obtain ⟨g, eg⟩ : ∃ g : Int32, g = if woI n w a b = -9 then 0 else 1 := ⟨_, rfl⟩
  have hX : f_X7_holds (iI F) hx = f_X7_holds_J50 (iI F) (iI a) hx (iI b) (iI c) (iI u) g := by
    unfold f_X7_holds
    simp only [tr_bd]
    have hwb := woI_b hw (a : Int) (b : Int)
    rw [d1, d2, d3, d6, ho, tr_bn_some, eg]
    by_cases q : woI n w a b = -9
    · rw [if_pos q, if_pos (show iI (woI n w a b) = -9 by rw [q]; rfl)]
    · rw [if_neg q, if_neg (show ¬ iI (woI n w a b) = -9 by rw [iI_m9, iI_eq (by omega) (by omega) (by omega) (by omega)]; exact q)]
  have hg : gOk n w a b g := by
    refine ⟨fun q => ?_, fun q => ?_⟩
    · rw [eg, woI_in q.1 q.2]
    · have hwo : woI n w a b = -9 := by
        unfold woI
        rw [if_neg (by omega)]
      rw [eg, if_pos hwo]
  have c01 : (iI (c : Int) = 0 ↔ c = 0) := by
    rw [iI_0, iI_eq (by omega) (by omega) (by omega) (by omega)]
    omega
  rw [hX]
  unfold f_X7_holds_J50 f_X8_does
  simp only [tr_bd]
  rw [d5, d1, d2, d3, d4]
  by_cases q1 : iI (K : Int) = 1
  · rw [if_pos q1, if_pos q1]
    exact jd1 hR hN hP ha hb hc hg
  rw [if_neg q1, if_neg q1]
  by_cases q2 : iI (K : Int) = 2
  · rw [if_pos q2, if_pos q2]
    exact jd2 hR hN hP ha hb c01 hg
  rw [if_neg q2, if_neg q2]
  by_cases q3 : iI (K : Int) = 3
  · rw [if_pos q3, if_pos q3]
    exact jd3 hR hN hP ha hb hc hg
  rw [if_neg q3, if_neg q3]
  by_cases q4 : iI (K : Int) = 4
  · rw [if_pos q4, if_pos q4]
    exact jd4 hR hN hP hu
  rw [if_neg q4, if_neg q4]
  by_cases q5 : iI (K : Int) = 5
  · rw [if_pos q5, if_pos q5]
    exact jd5 hR hN hP ha hb
  rw [if_neg q5, if_neg q5]
  by_cases q6 : iI (K : Int) = 6
  · rw [if_pos q6, if_pos q6]
    exact jd6 hR hN hP ha hu
  rw [if_neg q6, if_neg q6]
  by_cases q7 : iI (K : Int) = 7
  · rw [if_pos q7, if_pos q7]
    exact jd7 hR hN hP ha hu
  rw [if_neg q7, if_neg q7]
  exact jd_st hR hN hP 0
theorem s_judge : ∀ (v0 : Int32) (v1 : Int64) (hx hm : tr_H), Rl hx hm → ∃ (r0 : Int32) (gx gm : tr_H), f_X7_judge v0 v1 hx = some (r0, gx) ∧ f_X8_judge v0 v1 hm = some (r0, gm) ∧ Rl gx gm := by
  intro v0 v1 hx hm hR
  obtain ⟨N, hN0, rfl⟩ := ex_iI v0
  have hR0 := Rl_0 hR
  obtain ⟨m0, em0⟩ : ∃ m0, m0 = tr_si hm 0 0 0 := ⟨_, rfl⟩
  rw [← em0] at hR0
  obtain ⟨n, w, hN, hP⟩ := Rl_net hR0
  have hin := r_inv hN0 1 4
  rw [i64_1, i64_4] at hin
  unfold f_X7_judge f_X8_judge
  simp only [tr_bd]
  rw [← em0, hin, tr_bn_some]
  by_cases c : 1 ≤ N ∧ N ≤ 4
  · obtain ⟨k, rfl⟩ : ∃ k : Nat, N = (k : Int) := ⟨N.toNat, by omega⟩
    have hp4 := p4 k (by omega)
    obtain ⟨Q, eQ⟩ : ∃ Q : Nat, Q = 10000 ^ k := ⟨_, rfl⟩
    rw [← eQ] at hp4
    have e1 : (jI (Q : Nat) - 1 : Int64).toInt = (Q : Int) - 1 := by
      rw [jI_1, jI_sub, jI_in (by omega) (by omega)]
    have e2 : (jI (Q : Nat)).toInt = (Q : Int) := jI_in (by omega) (by omega)
    have hin2 := r_in v1 0 (jI (Q : Nat) - 1)
    rw [i64_0, e1] at hin2
    rw [if_neg (show ¬ iI (k : Int) < 1 by rw [iI_1, iI_lt (by omega) (by omega) (by omega) (by omega)]; omega), if_neg (show ¬ 4 < iI (k : Int) by rw [iI_4, iI_lt (by omega) (by omega) (by omega) (by omega)]; omega), if_pos c, if_neg n10, tr_gdI (by omega) (by omega) (by omega), iI_ix (by omega), f2_p (by omega), r_lpw (by omega), tr_bn_some, ← eQ, hin2, tr_bn_some]
    by_cases c2 : 0 ≤ v1.toInt ∧ v1.toInt ≤ (Q : Int) - 1
    · rw [if_pos c2, if_neg n10, if_neg (show ¬ lg_cmp v1 0 < 0 by rw [lg_lt, i64_0]; omega), if_pos (show lg_cmp v1 (jI (Q : Nat)) < 0 by rw [lg_lt, e2]; omega)]
      obtain ⟨R, eR⟩ : ∃ R : Nat, v1.toInt = (R : Int) := ⟨v1.toInt.toNat, by omega⟩
      have ev : v1 = jI (R : Nat) := by rw [jI_to v1, eR]
      have hRb : R < 9223372036854775808 := by omega
      rw [ev]
      obtain ⟨x1, a1, a2, a3⟩ := n_copy hN (j := 4) (Or.inr (Or.inl rfl)) (by decide)
      obtain ⟨m1, b1, b2, b3⟩ := r_begin hP
      have hR1 := Rl_fr (fr_up a2 (by decide)) (gM_f b2 (by decide) (by decide)) hR0
      rw [a1, tr_bn_some, b1, tr_bn_some]
      have key : ∀ (d i : Nat), i + d = k → ∀ (x m : tr_H) (w' : Nat → Int), Rl x m → tN x 4 n w' → tP m 4 n w' → ∃ sc sr, tr_lp (fun q => f_X7_judge_L43 (iI k) (jI (R : Nat)) q.1 q.2) (iI i, x) = some sc ∧ tr_lp (fun q => f_X8_judge_L44 (iI k) (jI (R : Nat)) q.1 q.2) (iI i, m) = some sr ∧ ∃ r gx gm, Sum.elim (fun x => f_X7_judge_E75 x) (fun x => some x) sc = some (r, gx) ∧ Sum.elim (fun x => f_X8_judge_E85 x) (fun x => some x) sr = some (r, gm) ∧ Rl gx gm := by
        intro d
        induction d with
        | zero =>
          intro i hi x m w' h1 h2 h3
          obtain rfl : i = k := by omega
          refine ⟨.inl x, .inl m, tr_lp_out ?_, tr_lp_out ?_, -9, x, m, rfl, rfl, h1⟩
          · show f_X7_judge_L43 (iI i) (jI (R : Nat)) (iI i) x = _
            unfold f_X7_judge_L43
            rw [if_pos (Int32.le_refl _)]
          · show f_X8_judge_L44 (iI i) (jI (R : Nat)) (iI i) m = _
            unfold f_X8_judge_L44
            rw [if_pos (Int32.le_refl _)]
        | succ d ih =>
          intro i hi x m w' h1 h2 h3
          have ek : iI (k : Int) - 1 - iI (i : Int) = iI (d : Nat) := by
            rw [iI_1, iI_sub, iI_sub]
            congr 1
            omega
          have hpd := p4 d (by omega)
          have hF : R / 10000 ^ d % 10000 < 10000 := Nat.mod_lt _ (by decide)
          have hle : R / 10000 ^ d ≤ R := Nat.div_le_self _ _
          obtain ⟨t, gx, gm, w2, q1, q2, q3, q4, q5⟩ := does_ok h1 h2 h3 hF
          have hnz : ¬ jI (10000 ^ d : Nat) = 0 := by
            intro z
            rw [← Int64.toInt_inj, jI_in (by omega) (by omega), i64_0] at z
            omega
          have hfr : ((jI (R : Nat) / jI (10000 ^ d : Nat)) - (jI (R : Nat) / jI (10000 ^ d : Nat)) / 10000 * 10000 : Int64).toInt32 = iI ((R / 10000 ^ d % 10000 : Nat) : Int) := by
            rw [jI_div (by omega) (by omega) (by omega) (by omega), show ((R : Nat) : Int) / ((10000 ^ d : Nat) : Int) = ((R / 10000 ^ d : Nat) : Int) from rfl, jI_rem (Int.natCast_nonneg _) (Int.lt_of_le_of_lt (Int.ofNat_le.mpr hle) (by omega))]
            rfl
          have hL : f_X7_judge_L43 (iI k) (jI (R : Nat)) (iI i) x = if t = 0 then some (.inr (.inr (iI i, gx))) else some (.inl (iI (i + 1 : Nat), gx)) := by
            unfold f_X7_judge_L43
            rw [if_neg (show ¬ iI (k : Int) ≤ iI (i : Int) by rw [iI_le (by omega) (by omega) (by omega) (by omega)]; omega), ek, c_fig hRb (by omega), tr_bn_some, q1, tr_b2_some, tr_bdq, iI_1, iI_add]
            rfl
          have hM : f_X8_judge_L44 (iI k) (jI (R : Nat)) (iI i) m = if t = 0 then some (.inr (.inr (iI i, gm))) else some (.inl (iI (i + 1 : Nat), gm)) := by
            unfold f_X8_judge_L44
            rw [if_neg (show ¬ iI (k : Int) ≤ iI (i : Int) by rw [iI_le (by omega) (by omega) (by omega) (by omega)]; omega), ek, r_lpw (by omega), tr_bn_some]
            unfold tr_nzl
            rw [if_neg hnz, hfr, q2, tr_b2_some, tr_bdq, iI_1, iI_add]
            rfl
          by_cases p : t = 0
          · rw [if_pos p] at hL hM
            exact ⟨.inr (iI i, gx), .inr (iI i, gm), tr_lp_out hL, tr_lp_out hM, iI i, gx, gm, rfl, rfl, q3⟩
          · rw [if_neg p] at hL hM
            rw [tr_lp_go (f := fun q => f_X7_judge_L43 (iI k) (jI (R : Nat)) q.1 q.2) (s := (iI i, x)) (s' := (iI (i + 1 : Nat), gx)) hL, tr_lp_go (f := fun q => f_X8_judge_L44 (iI k) (jI (R : Nat)) q.1 q.2) (s := (iI i, m)) (s' := (iI (i + 1 : Nat), gm)) hM]
            exact ih (i + 1) (by omega) gx gm w2 q3 q4 q5
      obtain ⟨sc, sr, k1, k2, r, gx, gm, k3, k4, k5⟩ := key k 0 (by omega) x1 m1 w hR1 a3 b3
      rw [show ((0 : Int32), x1) = (iI (0 : Nat), x1) from rfl, k1, tr_bn_some, show ((0 : Int32), m1) = (iI (0 : Nat), m1) from rfl, k2, tr_bn_some]
      exact ⟨r, gx, gm, k3, k4, k5⟩
    · rw [if_neg c2, if_pos z00]
      refine ⟨-2, hx, m0, ?_, rfl, hR0⟩
      by_cases c3 : v1.toInt < 0
      · rw [if_pos (show lg_cmp v1 0 < 0 by rw [lg_lt, i64_0]; exact c3)]
      · rw [if_neg (show ¬ lg_cmp v1 0 < 0 by rw [lg_lt, i64_0]; exact c3), if_neg (show ¬ lg_cmp v1 (jI (Q : Nat)) < 0 by rw [lg_lt, e2]; omega)]
  · rw [if_neg c, if_pos z00]
    refine ⟨-2, hx, m0, ?_, rfl, hR0⟩
    by_cases c4 : N < 1
    · rw [if_pos (show iI N < 1 by rw [iI_1, iI_lt (by omega) (by omega) (by omega) (by omega)]; omega)]
    · rw [if_neg (show ¬ iI N < 1 by rw [iI_1, iI_lt (by omega) (by omega) (by omega) (by omega)]; omega), if_pos (show 4 < iI N by rw [iI_4, iI_lt (by omega) (by omega) (by omega) (by omega)]; omega)]
