/-! rings and periods: the calls -/
theorem w_slow {h : tr_H} {i n : Nat} {w : Nat → Int} (hN : tN h i n w) : ∃ h', f_X6_slowest i h = some (iI (pac n w), h') ∧ fr [22] h h' := by
  obtain ⟨f, hf⟩ := w_slowest hN
  exact ⟨_, hf, fr_sa _ _ (by simp)⟩
theorem w_kept {h : tr_H} {i n : Nat} {w : Nat → Int} (hN : tN h i n w) {p : Int} (p1 : 0 ≤ p) (p2 : p ≤ 20) : ∃ h', f_X6_isKept i (iI p) h = some (if pac n w ≤ 60 * p then 1 else 0, h') ∧ fr [22] h h' := by
  obtain ⟨f, hf⟩ := w_isKept hN p1 p2
  exact ⟨_, hf, fr_sa _ _ (by simp)⟩
theorem w_set {h : tr_H} {i n : Nat} {w : Nat → Int} {p : Int} (hN : tN h i n w) (hk : kept n w p) : ∃ h', f_X0_settle i (iI p) h = some h' ∧ fr [24, 25] h h' ∧ timH h' n w p := by
  obtain ⟨g, e, t⟩ := w_settle hN hk
  exact ⟨_, e, fr_tr (b := tr_si h 24 2 (iI p)) (fr_si _ _ _ (by simp)) (fr_sa _ _ (by simp)), by rw [tr_sa_ne _ _ (by decide), si_s], fun v hv => by rw [tr_sa_at]; exact t v hv⟩
theorem r_set {h : tr_H} {q n : Nat} {w : Nat → Int} {p : Int} (hP : tP h q n w) (hk : kept n w p) : ∃ h', f_X8_layTimes q (iI p) h = some h' ∧ fr [13] h h' ∧ timP h' n w p := by
  obtain ⟨g, e, t⟩ := r_layTimes hP hk
  exact ⟨_, e, fr_sa _ _ (by simp), fun v hv => by rw [tr_sa_at]; exact t v hv⟩
theorem w_lasts {h : tr_H} {i n : Nat} {w : Nat → Int} {p d : Int} {at_ : Nat} (hN : tN h i n w) (hk : kept n w p) (hd : 0 ≤ d ∧ d ≤ 30) (ha : at_ < n) : ∃ h', f_X7_lastsUntil i (iI at_) (iI d) (iI p) h = some (iI (dieF n w p at_ d 40 1), h') ∧ fr [24, 25, 26] h h' := by
  have hi := hN.1
  obtain ⟨h1, a1, a2, a3⟩ := w_set hN hk
  have hN1 := tN_fr a2 (by unfold netI at hi; simp; omega) (by unfold netI at hi; simp; omega) hN
  obtain ⟨g, b1, b2⟩ := w_spread hN1 hk a3 ha (Nat.le_refl 40)
  have hN2 := tN_ne (c := 26) hN1 g (by unfold netI at hi; omega) (by unfold netI at hi; omega)
  have c1 := w_quiet (h := tr_sa h1 26 g) hN.2.1 hk hd (by rw [tr_sa_at]; exact b2)
  refine ⟨tr_sa h1 26 g, ?_, fr_tr (fr_up a2 (by simp)) (fr_sa _ _ (by simp))⟩
  unfold f_X7_lastsUntil
  rw [a1, tr_bn_some, show (40 : Int32) = iI ((40 : Nat) : Int) from rfl, b1, tr_bn_some, hN2.2.2.1, c1, tr_bn_some]
theorem s_pace : ∀ (v0 : Int32) (hx hm : tr_H), Rl hx hm → ∃ (r0 : Int32) (gx gm : tr_H), f_X7_pace v0 hx = some (r0, gx) ∧ f_X8_pace v0 hm = some (r0, gm) ∧ Rl gx gm := by
  intro v0 hx hm hR
  have hR0 := Rl_0 hR
  obtain ⟨m0, em0⟩ : ∃ m0, m0 = tr_si hm 0 0 0 := ⟨_, rfl⟩
  rw [← em0] at hR0
  obtain ⟨n, w, hN, hP⟩ := Rl_net hR0
  obtain ⟨x1, a1, a2⟩ := w_slow hN
  obtain ⟨S, B, m1, b1, b2, -, b4, b5, b6⟩ := r_find hP
  have hR1 := Rl_fr (fr_up a2 (by decide)) (gM_R b2) hR0
  unfold f_X7_pace f_X8_pace
  simp only [tr_bd]
  rw [← em0, a1, tr_b2_some, b1, tr_bn_some, b4, b5]
  rcases b6 with ⟨c1, c2⟩ | ⟨c1, c2, c3, c4, c5, c6, c7⟩
  · rw [c1, c2, if_pos (show iI (-1) = -1 from rfl), if_pos (show iI 0 = 0 from rfl)]
    exact ⟨_, _, _, rfl, rfl, hR1⟩
  · rw [if_neg (show ¬ iI (pac n w) = -1 by rw [iI_m1, iI_eq (by omega) (by omega) (by omega) (by omega)]; omega), if_neg (show ¬ iI B = 0 by rw [iI_0, iI_eq (by omega) (by omega) (by omega) (by omega)]; omega)]
    obtain ⟨P, eP⟩ : ∃ P : Nat, pac n w = (P : Int) := ⟨(pac n w).toNat, by omega⟩
    obtain ⟨S', rfl⟩ : ∃ S' : Nat, S = (S' : Int) := ⟨S.toNat, by omega⟩
    obtain ⟨B', rfl⟩ : ∃ B' : Nat, B = (B' : Int) := ⟨B.toNat, by omega⟩
    rw [eP] at c7
    have e : P * B' = S' * 60 := by
      have : ((P * B' : Nat) : Int) = ((S' * 60 : Nat) : Int) := by
        rw [Int.natCast_mul, Int.natCast_mul]
        omega
      exact Int.ofNat.inj this
    obtain ⟨f1, f2⟩ := frac_eq (a := P) (b := 60) (c := S') (d := B') (by omega) (by omega) e
    rw [eP, show (60 : Int32) = iI ((60 : Nat) : Int) from rfl, c_told (by omega) (by omega) (by omega), tr_bn_some, r_fraction (by omega) (by omega) (by omega), tr_bn_some, f1, f2]
    exact ⟨_, _, _, rfl, rfl, hR1⟩
theorem s_critical : ∀ (v0 : Int32) (v1 : Int32) (hx hm : tr_H), Rl hx hm → ∃ (r0 : Int32) (gx gm : tr_H), f_X7_critical v0 v1 hx = some (r0, gx) ∧ f_X8_critical v0 v1 hm = some (r0, gm) ∧ Rl gx gm := by
  intro v0 v1 hx hm hR
  obtain ⟨v, hv, rfl⟩ := ex_iI v0
  obtain ⟨u, hu, rfl⟩ := ex_iI v1
  have hR0 := Rl_0 hR
  obtain ⟨m0, em0⟩ : ∃ m0, m0 = tr_si hm 0 0 0 := ⟨_, rfl⟩
  rw [← em0] at hR0
  obtain ⟨n, w, hN, hP⟩ := Rl_net hR0
  have h6 := hN.2.1.2.1
  unfold f_X7_critical f_X8_critical
  simp only [tr_bd]
  rw [← em0, n_has hN hv.1 hv.2, n_has hN hu.1 hu.2, r_nod hP hv, r_nod hP hu]
  simp only [tr_bn_some]
  by_cases c1 : 0 ≤ v ∧ v < n
  · by_cases c2 : 0 ≤ u ∧ u < n
    · obtain ⟨a, rfl⟩ : ∃ a : Nat, v = (a : Int) := ⟨v.toNat, by omega⟩
      obtain ⟨b, rfl⟩ : ∃ b : Nat, u = (b : Int) := ⟨u.toNat, by omega⟩
      rw [if_pos c1, if_pos c1, if_pos c2, if_pos c2, if_neg n10, if_neg n10, if_pos rfl, if_pos rfl, n_of hN hv.1 hv.2 hu.1 hu.2, woI_in (by omega) (by omega), tr_bn_some, r_isThere hP (i := a) (j := b) (by omega) (by omega), tr_bn_some]
      have b3 := okn_b hN.2.1 (c := 6 * a + b) (by omega)
      by_cases c4 : w (6 * a + b) = -9
      · rw [if_pos c4, if_pos rfl, c4, if_pos (show iI (-9) = -9 from rfl)]
        exact ⟨_, _, _, rfl, rfl, hR0⟩
      · rw [if_neg c4, if_neg n10, if_neg (show ¬ iI (w (6 * a + b)) = -9 by rw [iI_m9, iI_eq (by omega) (by omega) (by omega) (by omega)]; exact c4)]
        obtain ⟨f, g, k1, k2⟩ := w_comp hN
        have fx : fr LX hx (tr_sa (tr_si (tr_sa hx 22 f) 21 2 (iI (pac n w))) 23 g) := fr_tr (b := tr_si (tr_sa hx 22 f) 21 2 (iI (pac n w))) (fr_tr (b := tr_sa hx 22 f) (fr_sa _ _ (by decide)) (fr_si _ _ _ (by decide))) (fr_sa _ _ (by decide))
        generalize tr_sa (tr_si (tr_sa hx 22 f) 21 2 (iI (pac n w))) 23 g = x1 at k1 k2 fx
        have hcr := w_isCritical k2 (a := a) (b := b) (by omega) (by omega)
        obtain ⟨S, B, m1, b1, b2, b7, -⟩ := r_find hP
        obtain ⟨rwt, cw, cd, e1, -, -, -, e5, -, -, e8, -⟩ := rF_bits hP.2.1 b7
        have hbit := bit64 (a := cw) (k := 6 * a + b) (by omega) (Nat.lt_of_lt_of_le e5 (by decide))
        have e9 := e8 a b (by omega) (by omega)
        have ei : 6 * iI a + iI b = iI (6 * a + b : Nat) := by
          rw [iI_6, iI_mul, iI_add]
          congr 1
        rw [k1, tr_bn_some, b1, tr_bn_some, e1, ei, hbit]
        have hR1 := Rl_fr fx (gM_R b2) hR0
        by_cases cc : crR n w a b
        · rw [hcr.1 cc, tr_bn_some, if_neg n10, if_pos (e9.mpr cc)]
          exact ⟨_, _, _, rfl, rfl, hR1⟩
        · rw [hcr.2 cc, tr_bn_some, if_pos rfl, if_neg (fun q => cc (e9.mp q))]
          exact ⟨_, _, _, rfl, rfl, hR1⟩
    · rw [if_pos c1, if_pos c1, if_neg c2, if_neg c2, if_neg n10, if_pos rfl, if_pos rfl, if_neg n10]
      exact ⟨_, _, _, rfl, rfl, hR0⟩
  · rw [if_neg c1, if_neg c1, if_pos rfl, if_neg n10]
    exact ⟨_, _, _, rfl, rfl, hR0⟩
theorem s_departs : ∀ (v0 : Int32) (v1 : Int32) (hx hm : tr_H), Rl hx hm → ∃ (r0 : Int32) (gx gm : tr_H), f_X7_departs v0 v1 hx = some (r0, gx) ∧ f_X8_departs v0 v1 hm = some (r0, gm) ∧ Rl gx gm := by
  intro v0 v1 hx hm hR
  obtain ⟨v, hv, rfl⟩ := ex_iI v0
  obtain ⟨p, hp, rfl⟩ := ex_iI v1
  have hR0 := Rl_0 hR
  obtain ⟨m0, em0⟩ : ∃ m0, m0 = tr_si hm 0 0 0 := ⟨_, rfl⟩
  rw [← em0] at hR0
  obtain ⟨n, w, hN, hP⟩ := Rl_net hR0
  have h6 := hN.2.1.2.1
  have i1 := r_inv hp 0 20
  rw [i64_0, i64_20] at i1
  unfold f_X7_departs f_X8_departs
  simp only [tr_bd]
  rw [← em0, n_has hN hv.1 hv.2, r_nod hP hv, i1]
  simp only [tr_bn_some]
  by_cases c1 : 0 ≤ v ∧ v < n
  · obtain ⟨a, rfl⟩ : ∃ a : Nat, v = (a : Int) := ⟨v.toNat, by omega⟩
    rw [if_pos c1, if_pos c1, if_neg n10, if_pos rfl]
    by_cases c3 : 0 ≤ p ∧ p ≤ 20
    · rw [if_pos c3, if_neg n10, if_neg (show ¬ iI p < 0 by rw [iI_0, iI_lt (by omega) (by omega) (by omega) (by omega)]; omega), if_pos (show iI p ≤ 20 by rw [iI_20, iI_le (by omega) (by omega) (by omega) (by omega)]; omega)]
      obtain ⟨x1, a1, a2⟩ := w_kept hN c3.1 c3.2
      obtain ⟨m1, b1, b2⟩ := r_isPeriod hP c3.1 (show p ≤ 100 by omega)
      rw [a1, tr_b2_some, b1, tr_b2_some]
      have hN1 := tN_fr a2 (by simp) (by simp) hN
      have hP1 := tP_R b2 hP
      have hR1 := Rl_fr (fr_up a2 (by decide)) (gM_R b2) hR0
      by_cases c4 : pac n w ≤ 60 * p
      · have hk : kept n w p := ⟨c4, c3.1, c3.2⟩
        obtain ⟨x2, d1, d2, d3⟩ := w_set hN1 hk
        obtain ⟨m2, e1, e2, e3⟩ := r_set hP1 hk
        rw [if_pos c4, if_neg n10, if_neg n10, d1, tr_bn_some, e1, tr_bn_some, w_timeOf (by omega), tr_bn_some, tr_gdI (by omega) (by omega) (by omega), iI_ix (by omega), d3.2 a (by omega), e3 a (by omega)]
        exact ⟨_, _, _, rfl, rfl, Rl_fr (fr_up d2 (by decide)) (gM_f e2 (by decide) (by decide)) hR1⟩
      · rw [if_neg c4, if_pos rfl, if_pos rfl]
        exact ⟨_, _, _, rfl, rfl, hR1⟩
    · rw [if_neg c3, if_pos rfl]
      refine ⟨-2, hx, m0, ?_, rfl, hR0⟩
      by_cases c4 : p < 0
      · rw [if_pos (show iI p < 0 by rw [iI_0, iI_lt (by omega) (by omega) (by omega) (by omega)]; omega)]
      · rw [if_neg (show ¬ iI p < 0 by rw [iI_0, iI_lt (by omega) (by omega) (by omega) (by omega)]; omega), if_neg (show ¬ iI p ≤ 20 by rw [iI_20, iI_le (by omega) (by omega) (by omega) (by omega)]; omega)]
  · rw [if_neg c1, if_neg c1, if_pos rfl, if_neg n10]
    exact ⟨_, _, _, rfl, rfl, hR0⟩
theorem s_spare : ∀ (v0 : Int32) (v1 : Int32) (v2 : Int32) (hx hm : tr_H), Rl hx hm → ∃ (r0 : Int32) (gx gm : tr_H), f_X7_spare v0 v1 v2 hx = some (r0, gx) ∧ f_X8_spare v0 v1 v2 hm = some (r0, gm) ∧ Rl gx gm := by
  intro v0 v1 v2 hx hm hR
  obtain ⟨v, hv, rfl⟩ := ex_iI v0
  obtain ⟨u, hu, rfl⟩ := ex_iI v1
  obtain ⟨p, hp, rfl⟩ := ex_iI v2
  have hR0 := Rl_0 hR
  obtain ⟨m0, em0⟩ : ∃ m0, m0 = tr_si hm 0 0 0 := ⟨_, rfl⟩
  rw [← em0] at hR0
  obtain ⟨n, w, hN, hP⟩ := Rl_net hR0
  have h6 := hN.2.1.2.1
  have i1 := r_inv hp 0 20
  rw [i64_0, i64_20] at i1
  unfold f_X7_spare f_X8_spare
  simp only [tr_bd]
  rw [← em0, n_has hN hv.1 hv.2, n_has hN hu.1 hu.2, r_nod hP hv, r_nod hP hu, i1]
  simp only [tr_bn_some]
  by_cases c1 : 0 ≤ v ∧ v < n
  · by_cases c2 : 0 ≤ u ∧ u < n
    · obtain ⟨a, rfl⟩ : ∃ a : Nat, v = (a : Int) := ⟨v.toNat, by omega⟩
      obtain ⟨b, rfl⟩ : ∃ b : Nat, u = (b : Int) := ⟨u.toNat, by omega⟩
      rw [if_pos c1, if_pos c1, if_pos c2, if_pos c2, if_neg n10, if_neg n10, if_pos rfl, if_pos rfl]
      by_cases c3 : 0 ≤ p ∧ p ≤ 20
      · rw [if_pos c3, if_neg n10, if_neg (show ¬ iI p < 0 by rw [iI_0, iI_lt (by omega) (by omega) (by omega) (by omega)]; omega), if_pos (show iI p ≤ 20 by rw [iI_20, iI_le (by omega) (by omega) (by omega) (by omega)]; omega), n_of hN hv.1 hv.2 hu.1 hu.2, woI_in (by omega) (by omega), tr_bn_some, r_isThere hP (i := a) (j := b) (by omega) (by omega), tr_bn_some]
        have b3 := okn_b hN.2.1 (c := 6 * a + b) (by omega)
        by_cases c5 : w (6 * a + b) = -9
        · rw [if_pos c5, if_pos rfl, c5, if_pos (show iI (-9) = -9 from rfl)]
          exact ⟨_, _, _, rfl, rfl, hR0⟩
        · rw [if_neg c5, if_neg n10, if_neg (show ¬ iI (w (6 * a + b)) = -9 by rw [iI_m9, iI_eq (by omega) (by omega) (by omega) (by omega)]; exact c5)]
          obtain ⟨x1, a1, a2⟩ := w_kept hN c3.1 c3.2
          obtain ⟨m1, b1, b2⟩ := r_isPeriod hP c3.1 (show p ≤ 100 by omega)
          rw [a1, tr_b2_some, b1, tr_b2_some]
          have hN1 := tN_fr a2 (by simp) (by simp) hN
          have hP1 := tP_R b2 hP
          have hR1 := Rl_fr (fr_up a2 (by decide)) (gM_R b2) hR0
          by_cases c4 : pac n w ≤ 60 * p
          · have hk : kept n w p := ⟨c4, c3.1, c3.2⟩
            obtain ⟨x2, d1, d2, d3⟩ := w_set hN1 hk
            obtain ⟨m2, e1, e2, e3⟩ := r_set hP1 hk
            have hN2 := tN_fr d2 (by simp) (by simp) hN1
            have hP2 := tP_fr e2 (by simp) hP1
            rw [if_pos c4, if_neg n10, if_neg n10, d1, tr_bn_some, e1, tr_bn_some, w_spareOf hN2 d3 (by omega) (by omega), tr_bn_some, r_spareOf hP2 e3 (by omega) (by omega) c5, tr_bn_some]
            exact ⟨_, _, _, rfl, rfl, Rl_fr (fr_up d2 (by decide)) (gM_f e2 (by decide) (by decide)) hR1⟩
          · rw [if_neg c4, if_pos rfl, if_pos rfl]
            exact ⟨_, _, _, rfl, rfl, hR1⟩
      · rw [if_neg c3, if_pos rfl]
        refine ⟨-2, hx, m0, ?_, rfl, hR0⟩
        by_cases c4 : p < 0
        · rw [if_pos (show iI p < 0 by rw [iI_0, iI_lt (by omega) (by omega) (by omega) (by omega)]; omega)]
        · rw [if_neg (show ¬ iI p < 0 by rw [iI_0, iI_lt (by omega) (by omega) (by omega) (by omega)]; omega), if_neg (show ¬ iI p ≤ 20 by rw [iI_20, iI_le (by omega) (by omega) (by omega) (by omega)]; omega)]
    · rw [if_pos c1, if_pos c1, if_neg c2, if_neg c2, if_neg n10, if_pos rfl, if_pos rfl, if_neg n10]
      exact ⟨_, _, _, rfl, rfl, hR0⟩
  · rw [if_neg c1, if_neg c1, if_pos rfl, if_neg n10]
    exact ⟨_, _, _, rfl, rfl, hR0⟩
theorem s_dies : ∀ (v0 : Int32) (v1 : Int32) (v2 : Int32) (hx hm : tr_H), Rl hx hm → ∃ (r0 : Int32) (gx gm : tr_H), f_X7_dies v0 v1 v2 hx = some (r0, gx) ∧ f_X8_dies v0 v1 v2 hm = some (r0, gm) ∧ Rl gx gm := by
  intro v0 v1 v2 hx hm hR
  obtain ⟨v, hv, rfl⟩ := ex_iI v0
  obtain ⟨d, hd, rfl⟩ := ex_iI v1
  obtain ⟨p, hp, rfl⟩ := ex_iI v2
  have hR0 := Rl_0 hR
  obtain ⟨m0, em0⟩ : ∃ m0, m0 = tr_si hm 0 0 0 := ⟨_, rfl⟩
  rw [← em0] at hR0
  obtain ⟨n, w, hN, hP⟩ := Rl_net hR0
  have h6 := hN.2.1.2.1
  have i1 := r_inv hp 0 20
  rw [i64_0, i64_20] at i1
  have i2 := r_inv hd 1 30
  rw [i64_1, i64_30] at i2
  unfold f_X7_dies f_X8_dies
  simp only [tr_bd]
  rw [← em0, n_has hN hv.1 hv.2, r_nod hP hv, i1, i2]
  simp only [tr_bn_some]
  by_cases c1 : 0 ≤ v ∧ v < n
  · obtain ⟨a, rfl⟩ : ∃ a : Nat, v = (a : Int) := ⟨v.toNat, by omega⟩
    rw [if_pos c1, if_pos c1, if_neg n10, if_pos rfl]
    by_cases c2 : 1 ≤ d ∧ d ≤ 30
    · rw [if_pos c2, if_neg n10, if_neg (show ¬ iI d < 1 by rw [iI_1, iI_lt (by omega) (by omega) (by omega) (by omega)]; omega), if_neg (show ¬ 30 < iI d by rw [iI_30, iI_lt (by omega) (by omega) (by omega) (by omega)]; omega)]
      by_cases c3 : 0 ≤ p ∧ p ≤ 20
      · rw [if_pos c3, if_neg n10, if_neg (show ¬ iI p < 0 by rw [iI_0, iI_lt (by omega) (by omega) (by omega) (by omega)]; omega), if_pos (show iI p ≤ 20 by rw [iI_20, iI_le (by omega) (by omega) (by omega) (by omega)]; omega)]
        obtain ⟨x1, a1, a2⟩ := w_kept hN c3.1 c3.2
        obtain ⟨m1, b1, b2⟩ := r_isPeriod hP c3.1 (show p ≤ 100 by omega)
        rw [a1, tr_b2_some, b1, tr_b2_some]
        have hN1 := tN_fr a2 (by simp) (by simp) hN
        have hP1 := tP_R b2 hP
        have hR1 := Rl_fr (fr_up a2 (by decide)) (gM_R b2) hR0
        by_cases c4 : pac n w ≤ 60 * p
        · have hk : kept n w p := ⟨c4, c3.1, c3.2⟩
          obtain ⟨x2, d1, d2⟩ := w_lasts (d := d) (at_ := a) hN1 hk (by omega) (by omega)
          obtain ⟨m2, e1, e2⟩ := r_diesOf (d := d) (at_ := a) hP1 hk (by omega) (by omega)
          rw [if_pos c4, if_neg n10, if_neg n10, d1, tr_b2_some, e1, tr_b2_some]
          exact ⟨_, _, _, rfl, rfl, Rl_fr (fr_up d2 (by decide)) (gM_f e2 (by decide) (by decide)) hR1⟩
        · rw [if_neg c4, if_pos rfl, if_pos rfl]
          exact ⟨_, _, _, rfl, rfl, hR1⟩
      · rw [if_neg c3, if_pos rfl]
        refine ⟨-2, hx, m0, ?_, rfl, hR0⟩
        by_cases c4 : p < 0
        · rw [if_pos (show iI p < 0 by rw [iI_0, iI_lt (by omega) (by omega) (by omega) (by omega)]; omega)]
        · rw [if_neg (show ¬ iI p < 0 by rw [iI_0, iI_lt (by omega) (by omega) (by omega) (by omega)]; omega), if_neg (show ¬ iI p ≤ 20 by rw [iI_20, iI_le (by omega) (by omega) (by omega) (by omega)]; omega)]
    · rw [if_neg c2, if_pos rfl]
      refine ⟨-2, hx, m0, ?_, rfl, hR0⟩
      by_cases c4 : d < 1
      · rw [if_pos (show iI d < 1 by rw [iI_1, iI_lt (by omega) (by omega) (by omega) (by omega)]; omega)]
      · rw [if_neg (show ¬ iI d < 1 by rw [iI_1, iI_lt (by omega) (by omega) (by omega) (by omega)]; omega), if_pos (show 30 < iI d by rw [iI_30, iI_lt (by omega) (by omega) (by omega) (by omega)]; omega)]
  · rw [if_neg c1, if_neg c1, if_pos rfl, if_neg n10]
    exact ⟨_, _, _, rfl, rfl, hR0⟩
/-- round by round, on the reference's side -/
theorem r_rounds {h : tr_H} {n : Nat} {w : Nat → Int} {p d : Int} {at_ R : Nat} (hP : tP h 3 n w) (hk : kept n w p) (hT : timP h n w p) (hd : 0 ≤ d ∧ d ≤ 30) (hL : latP h n w p at_ d 0) (hR : R ≤ 40) : ∃ h', tr_lp (fun q => f_X8_late_L97 (iI R) (iI p) q.1 q.2) (iI (0 : Nat), h) = some h' ∧ fr [14, 15] h h' ∧ latP h' n w p at_ d R := by
  obtain ⟨r, k1, k2, k3⟩ := tr_inv (f := fun q => f_X8_late_L97 (iI R) (iI p) q.1 q.2) (fun m s => ∃ h1, s = (iI m, h1) ∧ fr [14, 15] h h1 ∧ latP h1 n w p at_ d m) (fun h1 => fr [14, 15] h h1 ∧ latP h1 n w p at_ d R) (hi := R) (by
    rintro m s hm ⟨h1, rfl, f1, l1⟩
    have hP1 := tP_fr f1 (by simp) hP
    obtain ⟨h2, e2, f2, l2⟩ := r_goRound hP1 hk (fun v hv => by rw [f1.1 13 (by decide)]; exact hT v hv) hd l1
    refine ⟨(iI (m + 1 : Nat), h2), ?_, h2, rfl, fr_tr f1 f2, l2⟩
    show f_X8_late_L97 (iI R) (iI p) (iI m) h1 = _
    unfold f_X8_late_L97
    rw [if_neg (by rw [iI_le (by omega) (by omega) (by omega) (by omega)]; omega), e2, tr_b2_some]
    unfold tr_bd
    rw [iI_1, iI_add]
    rfl) (by
    rintro s ⟨h1, rfl, f1, l1⟩
    refine ⟨h1, ?_, f1, l1⟩
    show f_X8_late_L97 (iI R) (iI p) (iI R) h1 = _
    unfold f_X8_late_L97
    rw [if_pos (Int32.le_refl _)]) 0 (iI (0 : Nat), h) (by omega) ⟨h, rfl, fr_rf _ _, hL⟩
  exact ⟨r, k1, k2, k3⟩
theorem s_late : ∀ (v0 : Int32) (v1 : Int32) (v2 : Int32) (v3 : Int32) (v4 : Int32) (hx hm : tr_H), Rl hx hm → ∃ (r0 : Int32) (gx gm : tr_H), f_X7_late v0 v1 v2 v3 v4 hx = some (r0, gx) ∧ f_X8_late v0 v1 v2 v3 v4 hm = some (r0, gm) ∧ Rl gx gm := by
  intro v0 v1 v2 v3 v4 hx hm hR
  obtain ⟨v, hv, rfl⟩ := ex_iI v0
  obtain ⟨d, hd, rfl⟩ := ex_iI v1
  obtain ⟨p, hp, rfl⟩ := ex_iI v2
  obtain ⟨u, hu, rfl⟩ := ex_iI v3
  obtain ⟨r, hr, rfl⟩ := ex_iI v4
  have hR0 := Rl_0 hR
  obtain ⟨m0, em0⟩ : ∃ m0, m0 = tr_si hm 0 0 0 := ⟨_, rfl⟩
  rw [← em0] at hR0
  obtain ⟨n, w, hN, hP⟩ := Rl_net hR0
  have h6 := hN.2.1.2.1
  have i1 := r_inv hp 0 20
  rw [i64_0, i64_20] at i1
  have i2 := r_inv hd 1 30
  rw [i64_1, i64_30] at i2
  have i3 := r_inv hr 0 40
  rw [i64_0, i64_40] at i3
  unfold f_X7_late f_X8_late
  simp only [tr_bd]
  rw [← em0, n_has hN hv.1 hv.2, n_has hN hu.1 hu.2, r_nod hP hv, r_nod hP hu, i1, i2, i3]
  simp only [tr_bn_some]
  by_cases c1 : 0 ≤ v ∧ v < n
  · by_cases c1' : 0 ≤ u ∧ u < n
    · obtain ⟨a, rfl⟩ : ∃ a : Nat, v = (a : Int) := ⟨v.toNat, by omega⟩
      obtain ⟨b, rfl⟩ : ∃ b : Nat, u = (b : Int) := ⟨u.toNat, by omega⟩
      rw [if_pos c1, if_pos c1, if_pos c1', if_pos c1', if_neg n10, if_neg n10, if_pos rfl, if_pos rfl]
      by_cases c2 : 1 ≤ d ∧ d ≤ 30
      · rw [if_pos c2, if_neg n10, if_neg (show ¬ iI d < 1 by rw [iI_1, iI_lt (by omega) (by omega) (by omega) (by omega)]; omega), if_neg (show ¬ 30 < iI d by rw [iI_30, iI_lt (by omega) (by omega) (by omega) (by omega)]; omega)]
        by_cases c3 : 0 ≤ p ∧ p ≤ 20
        · rw [if_pos c3, if_neg n10, if_neg (show ¬ iI p < 0 by rw [iI_0, iI_lt (by omega) (by omega) (by omega) (by omega)]; omega), if_pos (show iI p ≤ 20 by rw [iI_20, iI_le (by omega) (by omega) (by omega) (by omega)]; omega)]
          by_cases c5 : 0 ≤ r ∧ r ≤ 40
          · obtain ⟨R, rfl⟩ : ∃ R : Nat, r = (R : Int) := ⟨r.toNat, by omega⟩
            rw [if_pos c5, if_neg n10, if_neg (show ¬ iI (R : Int) < 0 by rw [iI_0, iI_lt (by omega) (by omega) (by omega) (by omega)]; omega), if_pos (show iI (R : Int) ≤ 40 by rw [iI_40, iI_le (by omega) (by omega) (by omega) (by omega)]; omega)]
            obtain ⟨x1, a1, a2⟩ := w_kept hN c3.1 c3.2
            obtain ⟨m1, b1, b2⟩ := r_isPeriod hP c3.1 (show p ≤ 100 by omega)
            rw [a1, tr_b2_some, b1, tr_b2_some]
            have hN1 := tN_fr a2 (by simp) (by simp) hN
            have hP1 := tP_R b2 hP
            have hR1 := Rl_fr (fr_up a2 (by decide)) (gM_R b2) hR0
            by_cases c4 : pac n w ≤ 60 * p
            · have hk : kept n w p := ⟨c4, c3.1, c3.2⟩
              obtain ⟨x2, d1, d2, d3⟩ := w_set hN1 hk
              obtain ⟨m2, e1, e2, e3⟩ := r_set hP1 hk
              have hN2 := tN_fr d2 (by simp) (by simp) hN1
              have hP2 := tP_fr e2 (by simp) hP1
              obtain ⟨g, f1, f2⟩ := w_spread hN2 hk d3 (at_ := a) (by omega) (show R ≤ 40 by omega)
              have lx := w_lateness (h := tr_sa x2 26 g) (d := d) (r := R) (v := b) hN.2.1 hk (by omega) (by rw [tr_sa_at]; exact f2) (Nat.le_refl _) (by omega) (by omega)
              obtain ⟨m3, g1, g2, g3⟩ := r_beginLate (h := m2) (n := n) (w := w) (p := p) (d := d) (at_ := a) (by omega)
              have hP3 := tP_fr g2 (by simp) hP2
              obtain ⟨m4, j1, j2, j3⟩ := r_rounds hP3 hk (fun v hv => by rw [g2.1 13 (by decide)]; exact e3 v hv) (by omega) g3 (show R ≤ 40 by omega)
              rw [if_pos c4, if_neg n10, if_neg n10, d1, tr_bn_some, e1, tr_bn_some, f1, tr_bn_some, lx, tr_bn_some, g1, tr_bn_some, show ((0 : Int32), m3) = (iI (0 : Nat), m3) from rfl, j1, tr_bn_some]
              unfold f_X8_late_E120
              rw [tr_gdI (by omega) (by omega) (by omega), iI_ix (by omega), j3 b (by omega)]
              refine ⟨_, _, _, rfl, rfl, Rl_fr (fr_tr (fr_up d2 (by decide)) (fr_sa _ _ (by decide))) (gM_tr (gM_f e2 (by decide) (by decide)) (gM_tr (gM_f g2 (by decide) (by decide)) (gM_f j2 (by decide) (by decide)))) hR1⟩
            · rw [if_neg c4, if_pos rfl, if_pos rfl]
              exact ⟨_, _, _, rfl, rfl, hR1⟩
          · rw [if_neg c5, if_pos rfl]
            refine ⟨-2, hx, m0, ?_, rfl, hR0⟩
            by_cases c4 : r < 0
            · rw [if_pos (show iI r < 0 by rw [iI_0, iI_lt (by omega) (by omega) (by omega) (by omega)]; omega)]
            · rw [if_neg (show ¬ iI r < 0 by rw [iI_0, iI_lt (by omega) (by omega) (by omega) (by omega)]; omega), if_neg (show ¬ iI r ≤ 40 by rw [iI_40, iI_le (by omega) (by omega) (by omega) (by omega)]; omega)]
        · rw [if_neg c3, if_pos rfl]
          refine ⟨-2, hx, m0, ?_, rfl, hR0⟩
          by_cases c4 : p < 0
          · rw [if_pos (show iI p < 0 by rw [iI_0, iI_lt (by omega) (by omega) (by omega) (by omega)]; omega)]
          · rw [if_neg (show ¬ iI p < 0 by rw [iI_0, iI_lt (by omega) (by omega) (by omega) (by omega)]; omega), if_neg (show ¬ iI p ≤ 20 by rw [iI_20, iI_le (by omega) (by omega) (by omega) (by omega)]; omega)]
      · rw [if_neg c2, if_pos rfl]
        refine ⟨-2, hx, m0, ?_, rfl, hR0⟩
        by_cases c4 : d < 1
        · rw [if_pos (show iI d < 1 by rw [iI_1, iI_lt (by omega) (by omega) (by omega) (by omega)]; omega)]
        · rw [if_neg (show ¬ iI d < 1 by rw [iI_1, iI_lt (by omega) (by omega) (by omega) (by omega)]; omega), if_pos (show 30 < iI d by rw [iI_30, iI_lt (by omega) (by omega) (by omega) (by omega)]; omega)]
    · rw [if_pos c1, if_pos c1, if_neg c1', if_neg c1', if_neg n10, if_pos rfl, if_pos rfl, if_neg n10]
      exact ⟨_, _, _, rfl, rfl, hR0⟩
  · rw [if_neg c1, if_neg c1, if_pos rfl, if_neg n10]
    exact ⟨_, _, _, rfl, rfl, hR0⟩
