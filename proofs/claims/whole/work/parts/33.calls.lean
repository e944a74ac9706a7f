/-! doings, undone; the net; the slots -/
theorem Rw_fr {n : Nat} {w : Nat → Int} {hx gx hm gm : tr_H} (f1 : fr LX hx gx) (f2 : gM hm gm) (h : Rw n w hx hm) : Rw n w gx gm := by
  obtain ⟨⟨⟨h1, h2⟩, D, W, h3⟩, ⟨L, tx, h4⟩, h5, ⟨Z, h6⟩, h7⟩ := h
  have c := fun (k : Nat) (hk : k ∉ LX) => f1.1 k hk
  have m := fun (k : Nat) (hk : k ∉ [0, 2, 4, 11, 12, 13, 14, 15, 16]) => f2.1 k hk
  refine ⟨⟨⟨tN_fr f1 (by decide) (by decide) h1, tP_M f2 h2⟩, D, W, dgs_c (c 13 (by decide)) (c 14 (by decide)) (c 15 (by decide)) (c 16 (by decide)) (f2.2.1 9 (by omega)) (m 5 (by decide)) h3⟩, ⟨L, tx, txt_c (by rw [c 0 (by decide)]) (c 1 (by decide)) (f2.2.1 2 (by omega)) (m 1 (by decide)) h4⟩, slo_c (c 11 (by decide)) (c 6 (by decide)) (c 7 (by decide)) (c 8 (by decide)) (c 9 (by decide)) (m 7 (by decide)) (m 6 (by decide)) h5, ⟨Z, sen_c (c 17 (by decide)) (c 18 (by decide)) (c 19 (by decide)) (c 20 (by decide)) (f2.2.1 12 (by omega)) (m 8 (by decide)) (m 9 (by decide)) (m 10 (by decide)) h6⟩, ?_⟩
  rw [f1.2, f2.2.2]
  exact h7
theorem Rw_0 {n : Nat} {w : Nat → Int} {hx hm : tr_H} (h : Rw n w hx hm) : Rw n w hx (tr_si hm 0 0 0) := Rw_fr (fr_rf _ _) (gM_0 _ _ (by omega)) h
theorem ix37 {a b : Nat} : 1 + 6 * iI a + iI b = iI (1 + (6 * a + b) : Nat) := by
  rw [iI_1, iI_6, iI_mul, iI_add, iI_add]
  congr 1
  omega
theorem cvn_nn {v : Int} (h : 0 ≤ v) : cvn v = v + 1 := by
  unfold cvn
  rw [if_neg (by omega)]
theorem s_put : ∀ (v0 : Int32) (v1 : Int32) (v2 : Int32) (hx hm : tr_H), Rl hx hm → ∃ (r0 : Int32) (gx gm : tr_H), f_X7_put v0 v1 v2 hx = some (r0, gx) ∧ f_X8_put v0 v1 v2 hm = some (r0, gm) ∧ Rl gx gm := by
  intro v0 v1 v2 hx hm hR
  obtain ⟨v, hv, rfl⟩ := ex_iI v0
  obtain ⟨u, hu, rfl⟩ := ex_iI v1
  obtain ⟨t, ht, rfl⟩ := ex_iI v2
  obtain ⟨n, w, hR⟩ := Rl_w hR
  have hR0 := Rw_0 hR
  obtain ⟨m0, em0⟩ : ∃ m0, m0 = tr_si hm 0 0 0 := ⟨_, rfl⟩
  rw [← em0] at hR0
  obtain ⟨hN, hP⟩ := hR0.1.1
  have h6 := hN.2.1.2.1
  have i1 := r_inv ht 0 9
  rw [i64_0, i64_9] at i1
  unfold f_X7_put f_X8_put
  simp only [tr_bd]
  rw [← em0, n_has hN hv.1 hv.2, n_has hN hu.1 hu.2, r_nod hP hv, r_nod hP hu, i1]
  simp only [tr_bn_some]
  by_cases c1 : 0 ≤ v ∧ v < n
  · by_cases c2 : 0 ≤ u ∧ u < n
    · obtain ⟨a, rfl⟩ : ∃ a : Nat, v = (a : Int) := ⟨v.toNat, by omega⟩
      obtain ⟨b, rfl⟩ : ∃ b : Nat, u = (b : Int) := ⟨u.toNat, by omega⟩
      rw [if_pos c1, if_pos c1, if_pos c2, if_pos c2, if_neg n10, if_neg n10, if_pos rfl, if_pos rfl]
      by_cases c3 : 0 ≤ t ∧ t ≤ 9
      · rw [if_pos c3, if_neg n10, if_neg (show ¬ iI t < 0 by rw [iI_0, iI_lt (by omega) (by omega) (by omega) (by omega)]; omega), if_pos (show iI t ≤ 9 by rw [iI_9, iI_le (by omega) (by omega) (by omega) (by omega)]; omega), n_of hN hv.1 hv.2 hu.1 hu.2, woI_in (by omega) (by omega), tr_bn_some, r_isThere hP (i := a) (j := b) (by omega) (by omega), tr_bn_some]
        have b3 := okn_b hN.2.1 (c := 6 * a + b) (by omega)
        by_cases c4 : w (6 * a + b) = -9
        · obtain ⟨gx, gm, k1, k2, k3, k4⟩ := chg hR0 (a := a) (b := b) (v := t) (by omega) (by omega) (Or.inr c3)
          rw [if_pos c4, if_pos rfl, c4, if_pos (show iI (-9) = -9 from rfl), k1, tr_b2_some, k2, tr_bn_some, ix37, tr_gdI (by omega) (by omega) (by omega), iI_ix (by omega), iI_1, iI_add, ← cvn_nn c3.1, n_waits k4.1.1.1, tr_bn_some, r_waits k4.1.1.2, tr_bn_some]
          exact ⟨_, _, _, rfl, rfl, Rw_l k4⟩
        · rw [if_neg c4, if_neg n10, if_neg (show ¬ iI (w (6 * a + b)) = -9 by rw [iI_m9, iI_eq (by omega) (by omega) (by omega) (by omega)]; exact c4)]
          exact ⟨_, _, _, rfl, rfl, Rw_l hR0⟩
      · rw [if_neg c3, if_pos rfl]
        refine ⟨-2, hx, m0, ?_, rfl, Rw_l hR0⟩
        by_cases c4 : t < 0
        · rw [if_pos (show iI t < 0 by rw [iI_0, iI_lt (by omega) (by omega) (by omega) (by omega)]; omega)]
        · rw [if_neg (show ¬ iI t < 0 by rw [iI_0, iI_lt (by omega) (by omega) (by omega) (by omega)]; omega), if_neg (show ¬ iI t ≤ 9 by rw [iI_9, iI_le (by omega) (by omega) (by omega) (by omega)]; omega)]
    · rw [if_pos c1, if_pos c1, if_neg c2, if_neg c2, if_neg n10, if_pos rfl, if_pos rfl, if_neg n10]
      exact ⟨_, _, _, rfl, rfl, Rw_l hR0⟩
  · rw [if_neg c1, if_neg c1, if_pos rfl, if_neg n10]
    exact ⟨_, _, _, rfl, rfl, Rw_l hR0⟩
theorem s_cut : ∀ (v0 : Int32) (v1 : Int32) (hx hm : tr_H), Rl hx hm → ∃ (r0 : Int32) (gx gm : tr_H), f_X7_cut v0 v1 hx = some (r0, gx) ∧ f_X8_cut v0 v1 hm = some (r0, gm) ∧ Rl gx gm := by
  intro v0 v1 hx hm hR
  obtain ⟨v, hv, rfl⟩ := ex_iI v0
  obtain ⟨u, hu, rfl⟩ := ex_iI v1
  obtain ⟨n, w, hR⟩ := Rl_w hR
  have hR0 := Rw_0 hR
  obtain ⟨m0, em0⟩ : ∃ m0, m0 = tr_si hm 0 0 0 := ⟨_, rfl⟩
  rw [← em0] at hR0
  obtain ⟨hN, hP⟩ := hR0.1.1
  have h6 := hN.2.1.2.1
  unfold f_X7_cut f_X8_cut
  simp only [tr_bd]
  rw [← em0, n_has hN hv.1 hv.2, n_has hN hu.1 hu.2, r_nod hP hv, r_nod hP hu]
  simp only [tr_bn_some]
  by_cases c1 : 0 ≤ v ∧ v < n
  · by_cases c2 : 0 ≤ u ∧ u < n
    · obtain ⟨a, rfl⟩ : ∃ a : Nat, v = (a : Int) := ⟨v.toNat, by omega⟩
      obtain ⟨b, rfl⟩ : ∃ b : Nat, u = (b : Int) := ⟨u.toNat, by omega⟩
      rw [if_pos c1, if_pos c1, if_pos c2, if_pos c2, if_neg n10, if_neg n10, if_pos rfl, if_pos rfl, n_of hN hv.1 hv.2 hu.1 hu.2, woI_in (by omega) (by omega), tr_bn_some, r_isThere hP (i := a) (j := b) (by omega) (by omega), tr_bn_some]
      have b3 := okn_b hN.2.1 (c := 6 * a + b) (by omega)
      have b4 := cvn_b hN.2.1 (c := 6 * a + b) (by omega)
      by_cases c4 : w (6 * a + b) = -9
      · rw [if_pos c4, if_pos rfl, c4, if_pos (show iI (-9) = -9 from rfl)]
        exact ⟨_, _, _, rfl, rfl, Rw_l hR0⟩
      · obtain ⟨gx, gm, k1, k2, k3, k4⟩ := chg hR0 (a := a) (b := b) (v := -9) (by omega) (by omega) (Or.inl rfl)
        rw [if_neg c4, if_neg n10, if_neg (show ¬ iI (w (6 * a + b)) = -9 by rw [iI_m9, iI_eq (by omega) (by omega) (by omega) (by omega)]; exact c4), show (-9 : Int32) = iI (-9) from rfl, k1, tr_b2_some, k2, tr_bn_some, r_minutesOf k3 (i := a) (j := b) (by omega) (by omega), tr_bn_some, ix37, tr_gdI (by omega) (by omega) (by omega), iI_ix (by omega), b4.2.2.2 c4, show w (6 * a + b) + 1 - 1 = w (6 * a + b) by omega]
        exact ⟨_, _, _, rfl, rfl, Rw_l k4⟩
    · rw [if_pos c1, if_pos c1, if_neg c2, if_neg c2, if_neg n10, if_pos rfl, if_pos rfl, if_neg n10]
      exact ⟨_, _, _, rfl, rfl, Rw_l hR0⟩
  · rw [if_neg c1, if_neg c1, if_pos rfl, if_neg n10]
    exact ⟨_, _, _, rfl, rfl, Rw_l hR0⟩
theorem s_time : ∀ (v0 : Int32) (v1 : Int32) (v2 : Int32) (hx hm : tr_H), Rl hx hm → ∃ (r0 : Int32) (gx gm : tr_H), f_X7_time v0 v1 v2 hx = some (r0, gx) ∧ f_X8_time v0 v1 v2 hm = some (r0, gm) ∧ Rl gx gm := by
  intro v0 v1 v2 hx hm hR
  obtain ⟨v, hv, rfl⟩ := ex_iI v0
  obtain ⟨u, hu, rfl⟩ := ex_iI v1
  obtain ⟨t, ht, rfl⟩ := ex_iI v2
  obtain ⟨n, w, hR⟩ := Rl_w hR
  have hR0 := Rw_0 hR
  obtain ⟨m0, em0⟩ : ∃ m0, m0 = tr_si hm 0 0 0 := ⟨_, rfl⟩
  rw [← em0] at hR0
  obtain ⟨hN, hP⟩ := hR0.1.1
  have h6 := hN.2.1.2.1
  have i1 := r_inv ht 0 9
  rw [i64_0, i64_9] at i1
  unfold f_X7_time f_X8_time
  simp only [tr_bd]
  rw [← em0, n_has hN hv.1 hv.2, n_has hN hu.1 hu.2, r_nod hP hv, r_nod hP hu, i1]
  simp only [tr_bn_some]
  by_cases c1 : 0 ≤ v ∧ v < n
  · by_cases c2 : 0 ≤ u ∧ u < n
    · obtain ⟨a, rfl⟩ : ∃ a : Nat, v = (a : Int) := ⟨v.toNat, by omega⟩
      obtain ⟨b, rfl⟩ : ∃ b : Nat, u = (b : Int) := ⟨u.toNat, by omega⟩
      rw [if_pos c1, if_pos c1, if_pos c2, if_pos c2, if_neg n10, if_neg n10, if_pos rfl, if_pos rfl]
      by_cases c3 : 0 ≤ t ∧ t ≤ 9
      · rw [if_pos c3, if_neg n10, if_neg (show ¬ iI t < 0 by rw [iI_0, iI_lt (by omega) (by omega) (by omega) (by omega)]; omega), if_pos (show iI t ≤ 9 by rw [iI_9, iI_le (by omega) (by omega) (by omega) (by omega)]; omega), n_of hN hv.1 hv.2 hu.1 hu.2, woI_in (by omega) (by omega), tr_bn_some, r_isThere hP (i := a) (j := b) (by omega) (by omega), tr_bn_some]
        have b3 := okn_b hN.2.1 (c := 6 * a + b) (by omega)
        have b4 := cvn_b hN.2.1 (c := 6 * a + b) (by omega)
        by_cases c4 : w (6 * a + b) = -9
        · rw [if_pos c4, if_pos rfl, c4, if_pos (show iI (-9) = -9 from rfl)]
          exact ⟨_, _, _, rfl, rfl, Rw_l hR0⟩
        · obtain ⟨gx, gm, k1, k2, k3, k4⟩ := chg hR0 (a := a) (b := b) (v := t) (by omega) (by omega) (Or.inr c3)
          rw [if_neg c4, if_neg n10, if_neg (show ¬ iI (w (6 * a + b)) = -9 by rw [iI_m9, iI_eq (by omega) (by omega) (by omega) (by omega)]; exact c4), k1, tr_b2_some, k2, tr_bn_some, r_minutesOf k3 (i := a) (j := b) (by omega) (by omega), tr_bn_some, ix37, tr_gdI (by omega) (by omega) (by omega), iI_ix (by omega), b4.2.2.2 c4, show w (6 * a + b) + 1 - 1 = w (6 * a + b) by omega, iI_1, iI_add, ← cvn_nn c3.1]
          exact ⟨_, _, _, rfl, rfl, Rw_l k4⟩
      · rw [if_neg c3, if_pos rfl]
        refine ⟨-2, hx, m0, ?_, rfl, Rw_l hR0⟩
        by_cases c4 : t < 0
        · rw [if_pos (show iI t < 0 by rw [iI_0, iI_lt (by omega) (by omega) (by omega) (by omega)]; omega)]
        · rw [if_neg (show ¬ iI t < 0 by rw [iI_0, iI_lt (by omega) (by omega) (by omega) (by omega)]; omega), if_neg (show ¬ iI t ≤ 9 by rw [iI_9, iI_le (by omega) (by omega) (by omega) (by omega)]; omega)]
    · rw [if_pos c1, if_pos c1, if_neg c2, if_neg c2, if_neg n10, if_pos rfl, if_pos rfl, if_neg n10]
      exact ⟨_, _, _, rfl, rfl, Rw_l hR0⟩
  · rw [if_neg c1, if_neg c1, if_pos rfl, if_neg n10]
    exact ⟨_, _, _, rfl, rfl, Rw_l hR0⟩
theorem s_undo : ∀ (hx hm : tr_H), Rl hx hm → ∃ (r0 : Int32) (gx gm : tr_H), f_X7_undo hx = some (r0, gx) ∧ f_X8_undo hm = some (r0, gm) ∧ Rl gx gm := by
  intro hx hm hR
  obtain ⟨n, w, hR⟩ := Rl_w hR
  have hR0 := Rw_0 hR
  obtain ⟨m0, em0⟩ : ∃ m0, m0 = tr_si hm 0 0 0 := ⟨_, rfl⟩
  rw [← em0] at hR0
  have hR1 := hR0
  obtain ⟨⟨⟨hN, hP⟩, D, W, d1, d2, d3, d4, d5⟩, ⟨L, tx, k2⟩, k3, ⟨Z, k4⟩, k5⟩ := hR1
  have h6 := hN.2.1.2.1
  unfold f_X7_undo f_X8_undo
  simp only [tr_bd]
  rw [← em0, d2, d3]
  by_cases c : D = 0
  · rw [c, if_pos (show iI ((0 : Nat) : Int) = 0 from rfl), if_pos (show iI ((0 : Nat) : Int) = 0 from rfl)]
    exact ⟨_, _, _, rfl, rfl, Rw_l hR0⟩
  · obtain ⟨E, rfl⟩ : ∃ E, D = E + 1 := ⟨D - 1, by omega⟩
    have e5 : iI ((E + 1 : Nat) : Int) - 1 = iI (E : Nat) := by
      rw [iI_1, iI_sub]
      congr 1
      omega
    rw [if_neg (show ¬ iI ((E + 1 : Nat) : Int) = 0 by rw [iI_0, iI_eq (by omega) (by omega) (by omega) (by omega)]; omega), if_neg (show ¬ iI ((E + 1 : Nat) : Int) = 0 by rw [iI_0, iI_eq (by omega) (by omega) (by omega) (by omega)]; omega), e5]
    obtain ⟨y1, ⟨a, b, ya, yb, y4, y5, y6, y7⟩, y8, y9⟩ := d5 E (by omega)
    rw [d4] at y7
    have hval : W E (6 * a + b) = -9 ∨ (0 ≤ W E (6 * a + b) ∧ W E (6 * a + b) ≤ 9) := (y1.2.2 _ (by omega)).1
    have hN1 : tN (tr_si hx 13 3 (iI E)) 2 n w := tN_fr (L := [13]) (fr_si _ _ _ (by simp)) (by simp) (by simp) hN
    have hl := n_lay hN1 (a := (a : Int)) (b := (b : Int)) (W E (6 * a + b)) (by omega) (by omega) (by omega) (by omega)
    rw [if_pos (by omega)] at hl
    simp only [Int.toNat_natCast] at hl
    have hN2 := tN_up hN1 (a := a) (b := b) (v := W E (6 * a + b)) ya yb hval
    rw [← y7] at hN2
    have fx : fr [3, 13] hx (tr_sa (tr_si hx 13 3 (iI E)) (2 + 1) (upd ((tr_si hx 13 3 (iI E)).1 (2 + 1)) (6 * a + b) (iI (W E (6 * a + b))))) := fr_tr (b := tr_si hx 13 3 (iI E)) (fr_si _ _ _ (by simp)) (fr_sa _ _ (by simp))
    have gx13 : (tr_sa (tr_si hx 13 3 (iI E)) (2 + 1) (upd ((tr_si hx 13 3 (iI E)).1 (2 + 1)) (6 * a + b) (iI (W E (6 * a + b))))).1 13 3 = iI E := by rw [tr_sa_ne _ _ (by decide), si_s]
    have hTB : f_X1_takeBack 2 hx = some (tr_sa (tr_si hx 13 3 (iI E)) (2 + 1) (upd ((tr_si hx 13 3 (iI E)).1 (2 + 1)) (6 * a + b) (iI (W E (6 * a + b))))) := by
      unfold f_X1_takeBack
      rw [d2, if_neg (show ¬ iI ((E + 1 : Nat) : Int) < 1 by rw [iI_1, iI_lt (by omega) (by omega) (by omega) (by omega)]; omega), if_pos (show iI ((E + 1 : Nat) : Int) ≤ 14 by rw [iI_14, iI_le (by omega) (by omega) (by omega) (by omega)]; omega), e5]
      simp only [tr_bd, si_s]
      simp (disch := omega) only [tr_gdI, iI_ix, si_c, y4, y5, y6]
      rw [hl, tr_b2_some, si_c _ _ _ (show (2 + 1 : Nat) ≠ 13 by decide)]
    generalize tr_sa (tr_si hx 13 3 (iI E)) (2 + 1) (upd ((tr_si hx 13 3 (iI E)).1 (2 + 1)) (6 * a + b) (iI (W E (6 * a + b)))) = gx at hN2 fx gx13 hTB
    obtain ⟨gm, j1, j2, j3, -⟩ := cpy (f := fun q => f_X8_undo_L27 q.1 q.2) (src := 5) (dst := 3) (so := 37 * E) (off := 0) (N := 37) (by decide) (tr_si m0 0 9 (iI E)) (by
      intro m h2 hm f2
      have hc2 : h2.1 0 9 = iI E := by rw [f2.1 0 (by decide), si_s]
      have ec : iI 37 * iI E + iI m = iI (37 * E + m : Nat) := by
        rw [iI_mul, iI_add]
        congr 1
      show f_X8_undo_L27 (iI m) h2 = _
      unfold f_X8_undo_L27
      rw [if_neg (by rw [iI_37, iI_le (by omega) (by omega) (by omega) (by omega)]; omega), hc2, iI_37, ec]
      simp (disch := omega) only [tr_bd, tr_gdI, iI_ix]
      rw [iI_1, iI_add, show 0 + m = m by omega]
      rfl) (by
      intro h2 f2
      rfl)
    have fm : ∀ c, c ≠ 0 → c ≠ 3 → gm.1 c = m0.1 c := fun c z0 z3 => by rw [j2.1 c (by simpa using z3), si_c _ _ _ z0]
    have m09 : gm.1 0 9 = iI E := by rw [j2.1 0 (by decide), si_s]
    have m0k : ∀ k, k ≠ 9 → gm.1 0 k = m0.1 0 k := fun k hk => by rw [j2.1 0 (by decide), si_n _ _ _ hk]
    refine ⟨iI E, gx, gm, ?_, ?_, ?_⟩
    · rw [hTB, tr_bn_some, gx13]
    · rw [show ((0 : Int32), tr_si m0 0 9 (iI E)) = (iI (0 : Nat), tr_si m0 0 9 (iI E)) from rfl, j1, tr_bn_some]
      unfold f_X8_undo_E59
      rw [m09]
    · have ff : ∀ c, c ∉ [3, 13] → gx.1 c = hx.1 c := fun c hc => fx.1 c hc
      refine ⟨⟨n, W E, ⟨hN2, Or.inr (Or.inl rfl), y1, ?_, fun c hc => ?_⟩, E, W, by omega, gx13, m09, rfl, fun k hk => ?_⟩, ⟨L, tx, txt_c (by rw [ff 0 (by simp)]) (ff 1 (by simp)) (m0k 2 (by decide)) (fm 1 (by decide) (by decide)) k2⟩, slo_c (ff 11 (by simp)) (ff 6 (by simp)) (ff 7 (by simp)) (ff 8 (by simp)) (ff 9 (by simp)) (fm 7 (by decide) (by decide)) (fm 6 (by decide) (by decide)) k3, ⟨Z, sen_c (ff 17 (by simp)) (ff 18 (by simp)) (ff 19 (by simp)) (ff 20 (by simp)) (m0k 12 (by decide)) (fm 8 (by decide) (by decide)) (fm 9 (by decide) (by decide)) (fm 10 (by decide) (by decide)) k4⟩, ?_⟩
      · have := j3 0 (by decide)
        rw [show (0 : Nat) + 0 = 0 from rfl, si_c _ _ _ (by decide), show 37 * E + 0 = 37 * E from rfl, y8] at this
        exact this
      · have := j3 (1 + c) (by omega)
        rw [show (0 : Nat) + (1 + c) = 1 + c by omega, si_c _ _ _ (by decide), y9 c hc] at this
        exact this
      · have := d5 k (by omega)
        unfold bkP at this ⊢
        rw [ff 14 (by simp), ff 15 (by simp), ff 16 (by simp), fm 5 (by decide) (by decide)]
        exact this
      · rw [fx.2, j2.2, si_2]
        exact k5
theorem s_net : ∀ (hx hm : tr_H), Rl hx hm → ∃ (r0 : Int32) (gx gm : tr_H), f_X7_net hx = some (r0, gx) ∧ f_X8_net hm = some (r0, gm) ∧ Rl gx gm := by
  intro hx hm hR
  have hR0 := Rl_0 hR
  obtain ⟨m0, em0⟩ : ∃ m0, m0 = tr_si hm 0 0 0 := ⟨_, rfl⟩
  rw [← em0] at hR0
  obtain ⟨L, tx, ⟨⟨t1, t2⟩, ⟨t3, t4⟩, t5⟩⟩ := hR0.2.1
  obtain ⟨r, x1, m1, k1, k2, k3, k4, k5, k6⟩ := rd_all t1 t2 t4 t5
  have hR1 := Rl_fr (fr_up k3 (by decide)) (gM_g k4) hR0
  unfold f_X7_net f_X8_net
  simp only [tr_bd]
  rw [t3, k1, tr_b2_some, ← em0, k2, tr_b2_some]
  by_cases c : r = -9
  · obtain ⟨n, w, hN, hP⟩ := k6 c
    have h6 := hN.2.1.2.1
    rw [c, if_pos (show iI (-9) = -9 from rfl), if_pos (show iI (-9) = -9 from rfl)]
    obtain ⟨x2, a1, a2, a3⟩ := n_copy hN (j := 2) (Or.inl rfl) (by decide)
    obtain ⟨x3, b1, b2, b3⟩ := tr_inv (f := fun q => f_X7_net_L47 q.1 q.2) (fun m s => ∃ h1, s = (iI m, h1) ∧ fr [11] (tr_si x2 13 3 0) h1 ∧ ∀ k, k < m → h1.1 11 k = 0) (fun h1 => fr [11] (tr_si x2 13 3 0) h1 ∧ ∀ k, k < 2 → h1.1 11 k = 0) (hi := 2) (by
      rintro m s hm ⟨h1, rfl, g1, g2⟩
      refine ⟨(iI (m + 1 : Nat), tr_si h1 11 m 0), ?_, _, rfl, fr_tr g1 (fr_si _ _ _ (by simp)), fun k hk => ?_⟩
      · show f_X7_net_L47 (iI m) h1 = _
        unfold f_X7_net_L47
        rw [if_neg (by rw [iI_2, iI_le (by omega) (by omega) (by omega) (by omega)]; omega), tr_gdI (by omega) (by omega) (by omega)]
        simp only [tr_bd]
        rw [iI_ix (by omega), iI_1, iI_add]
        rfl
      · by_cases e : k = m
        · rw [e, si_s]
        · rw [si_n _ _ _ e]; exact g2 k (by omega)) (by
      rintro s ⟨h1, rfl, g1, g2⟩
      exact ⟨h1, rfl, g1, g2⟩) 0 (iI (0 : Nat), tr_si x2 13 3 0) (by omega) ⟨_, rfl, fr_rf _ _, fun k hk => by omega⟩
    obtain ⟨m2, j1, j2, j3, -⟩ := cpy (f := fun q => f_X8_net_L19 q.1 q.2) (src := 2) (dst := 3) (so := 0) (off := 0) (N := 37) (by decide) m1 (by
      intro m h2 hm f2
      show f_X8_net_L19 (iI m) h2 = _
      unfold f_X8_net_L19
      rw [if_neg (by rw [iI_37, iI_le (by omega) (by omega) (by omega) (by omega)]; omega)]
      simp (disch := omega) only [tr_bd, tr_gdI, iI_ix]
      rw [iI_1, iI_add, show 0 + m = m by omega]
      rfl) (by
      intro h2 f2
      rfl)
    obtain ⟨m3, em3⟩ : ∃ m3, m3 = tr_si (tr_si (tr_si m2 0 9 0) 7 0 0) 7 1 0 := ⟨_, rfl⟩
    have fx : ∀ c, c ∉ [2, 3, 11, 13] → x3.1 c = x1.1 c := fun c hc => by
      rw [b2.1 c (fun z => hc (by simp at z; simp [z])), si_c _ _ _ (fun z => hc (by simp [z])), a2.1 c (fun z => hc (by simp at z; simp; omega))]
    have fm : ∀ c, c ∉ [0, 3, 7] → m3.1 c = m1.1 c := fun c hc => by
      rw [em3, si_c _ _ _ (fun z => hc (by simp [z])), si_c _ _ _ (fun z => hc (by simp [z])), si_c _ _ _ (fun z => hc (by simp [z])), j2.1 c (fun z => hc (by simp at z; simp [z]))]
    have fm0 : ∀ k, k ≠ 9 → m3.1 0 k = m1.1 0 k := fun k hk => by
      rw [em3, si_c _ _ _ (by decide), si_c _ _ _ (by decide), si_n _ _ _ hk, j2.1 0 (by decide)]
    have hN3 : tN x3 2 n w := tN_fr b2 (by simp) (by simp) (tN_fr (L := [13]) (fr_si _ _ _ (by simp)) (by simp) (by simp) a3)
    have hP3 : tP m3 3 n w := by
      have e3 : m3.1 3 = m2.1 3 := by rw [em3, si_c _ _ _ (by decide), si_c _ _ _ (by decide), si_c _ _ _ (by decide)]
      refine ⟨Or.inr (Or.inl rfl), hP.2.1, ?_, fun c hc => ?_⟩
      · have := j3 0 (by decide)
        rw [e3]
        exact this.trans hP.2.2.1
      · have := j3 (1 + c) (by omega)
        rw [show (0 : Nat) + (1 + c) = 1 + c by omega] at this
        rw [e3]
        exact this.trans (hP.2.2.2 c hc)
    refine ⟨iI (nwt w), x3, m3, ?_, ?_, ?_⟩
    · rw [a1, tr_bn_some]
      unfold f_X1_forget tr_bd
      dsimp only
      rw [tr_bn_some, show ((0 : Int32), tr_si x2 13 3 0) = (iI (0 : Nat), tr_si x2 13 3 0) from rfl, b1, tr_bn_some]
      unfold f_X7_net_E65
      rw [n_waits hN3, tr_bn_some]
    · rw [show ((0 : Int32), m1) = (iI (0 : Nat), m1) from rfl, j1, tr_bn_some]
      unfold f_X8_net_E43
      simp only [tr_bd]
      rw [show (0 : Int32).toNatClampNeg = 0 from rfl, show (1 : Int32).toNatClampNeg = 1 from rfl, ← em3, r_waits hP3, tr_bn_some]
    · obtain ⟨-, ⟨L', tx', h4⟩, -, ⟨Z, h5⟩, h7⟩ := hR1
      refine ⟨⟨n, w, ⟨hN3, hP3⟩, 0, fun _ => w, by omega, ?_, ?_, rfl, fun k hk => by omega⟩, ⟨L', tx', txt_c (by rw [fx 0 (by simp)]) (fx 1 (by simp)) (fm0 2 (by decide)) (fm 1 (by simp)) h4⟩, fun s hs => ⟨?_, Or.inl (b3 s hs)⟩, ⟨Z, sen_c (fx 17 (by simp)) (fx 18 (by simp)) (fx 19 (by simp)) (fx 20 (by simp)) (fm0 12 (by decide)) (fm 8 (by simp)) (fm 9 (by simp)) (fm 10 (by simp)) h5⟩, ?_⟩
      · rw [b2.1 13 (by simp), si_s]; rfl
      · rw [em3, si_c _ _ _ (by decide), si_c _ _ _ (by decide), si_s]; rfl
      · rw [b3 s hs, em3]
        rcases (show s = 0 ∨ s = 1 by omega) with rfl | rfl
        · rw [si_n _ _ _ (by decide), si_s]
        · rw [si_s]
      · rw [b2.2, si_2, a2.2, em3, si_2, si_2, si_2, j2.2]
        exact h7
  · rw [if_neg (show ¬ iI r = -9 by rw [iI_m9, iI_eq (by omega) (by omega) (by omega) (by omega)]; exact c), if_neg (show ¬ iI r = -9 by rw [iI_m9, iI_eq (by omega) (by omega) (by omega) (by omega)]; exact c)]
    exact ⟨_, _, _, rfl, rfl, hR1⟩
theorem s_keep : ∀ (v0 : Int32) (hx hm : tr_H), Rl hx hm → ∃ (r0 : Int32) (gx gm : tr_H), f_X7_keep v0 hx = some (r0, gx) ∧ f_X8_keep v0 hm = some (r0, gm) ∧ Rl gx gm := by
  intro v0 hx hm hR
  obtain ⟨v, hv, rfl⟩ := ex_iI v0
  have hR0 := Rl_0 hR
  obtain ⟨m0, em0⟩ : ∃ m0, m0 = tr_si hm 0 0 0 := ⟨_, rfl⟩
  rw [← em0] at hR0
  have hin := r_inv hv 0 1
  rw [i64_0, i64_1] at hin
  unfold f_X7_keep f_X8_keep
  simp only [tr_bd]
  rw [← em0, hin, tr_bn_some]
  by_cases c : 0 ≤ v ∧ v ≤ 1
  · obtain ⟨s, rfl⟩ : ∃ s : Nat, v = (s : Int) := ⟨v.toNat, by omega⟩
    obtain ⟨⟨n, w, ⟨hN, hP⟩, D, W, h3⟩, ⟨L, tx, h4⟩, h5, ⟨Z, h6⟩, h7⟩ := hR0
    have hn6 := hN.2.1.2.1
    rw [if_pos c, if_neg n10, if_neg (show ¬ iI (s : Int) < 0 by rw [iI_0, iI_lt (by omega) (by omega) (by omega) (by omega)]; omega), if_pos (show iI (s : Int) < 2 by rw [iI_2, iI_lt (by omega) (by omega) (by omega) (by omega)]; omega), tr_gdI (by omega) (by omega) (by omega), tr_gdI (by omega) (by omega) (by omega), iI_ix (by omega)]
    have hns : netI (6 + 2 * s) := by unfold netI; omega
    obtain ⟨x1, a1, a2, a3⟩ := n_copy hN (j := 6 + 2 * s) hns (by omega)
    rw [a1, tr_bn_some, tr_gdI (by omega) (by omega) (by omega)]
    have hN1 : tN (tr_si x1 11 s 1) 2 n w := tN_fr (L := [11]) (fr_si _ _ _ (by simp)) (by simp) (by simp) (tN_fr a2 (by simp; omega) (by simp; omega) hN)
    obtain ⟨m1, j1, j2, j3, j4⟩ := cpy (f := fun q => f_X8_keep_L26 (iI s) q.1 q.2) (src := 3) (dst := 6) (so := 0) (off := 37 * s) (N := 37) (by decide) (tr_si m0 7 s 1) (by
      intro m h2 hm f2
      have ec : iI 37 * iI s + iI m = iI (37 * s + m : Nat) := by
        rw [iI_mul, iI_add]
        congr 1
      show f_X8_keep_L26 (iI s) (iI m) h2 = _
      unfold f_X8_keep_L26
      rw [if_neg (by rw [iI_37, iI_le (by omega) (by omega) (by omega) (by omega)]; omega), iI_37, ec]
      simp (disch := omega) only [tr_bd, tr_gdI, iI_ix]
      rw [iI_1, iI_add, show 0 + m = m by omega]
      rfl) (by
      intro h2 f2
      rfl)
    have fm : ∀ c, c ≠ 6 → c ≠ 7 → m1.1 c = m0.1 c := fun c z1 z2 => by rw [j2.1 c (by simpa using z1), si_c _ _ _ z2]
    have hP1 : tP m1 3 n w := tP_fr j2 (by simp) (tP_fr (L := [7]) (fr_si _ _ _ (by simp)) (by simp) hP)
    rw [n_waits hN1, tr_bn_some, show ((0 : Int32), tr_si m0 7 s 1) = (iI (0 : Nat), tr_si m0 7 s 1) from rfl, j1, tr_bn_some]
    unfold f_X8_keep_E55
    rw [r_waits hP1, tr_bn_some]
    refine ⟨_, _, _, rfl, rfl, ?_⟩
    have fx : ∀ c, c ∉ [6 + 2 * s, 6 + 2 * s + 1, 11] → (tr_si x1 11 s 1).1 c = hx.1 c := fun c hc => by
      rw [si_c _ _ _ (fun z => hc (by simp [z])), a2.1 c (fun z => hc (by simp at z; simp; omega))]
    refine ⟨⟨n, w, ⟨hN1, hP1⟩, D, W, dgs_c (fx 13 (by simp; omega)) (fx 14 (by simp; omega)) (fx 15 (by simp; omega)) (fx 16 (by simp; omega)) (by rw [fm 0 (by decide) (by decide)]) (fm 5 (by decide) (by decide)) h3⟩, ⟨L, tx, txt_c (by rw [fx 0 (by simp; omega)]) (fx 1 (by simp; omega)) (by rw [fm 0 (by decide) (by decide)]) (fm 1 (by decide) (by decide)) h4⟩, fun s' hs' => ?_, ⟨Z, sen_c (fx 17 (by simp; omega)) (fx 18 (by simp; omega)) (fx 19 (by simp; omega)) (fx 20 (by simp; omega)) (by rw [fm 0 (by decide) (by decide)]) (fm 8 (by decide) (by decide)) (fm 9 (by decide) (by decide)) (fm 10 (by decide) (by decide)) h6⟩, ?_⟩
    · have e7 : m1.1 7 = (tr_si m0 7 s 1).1 7 := j2.1 7 (by simp)
      by_cases e : s' = s
      · subst e
        refine ⟨by rw [e7, si_s, si_s], Or.inr ⟨si_s _ _ _ _, n, w, tN_fr (L := [11]) (fr_si _ _ _ (by simp)) (by simp; omega) (by simp; omega) a3, ?_, fun c hc => ?_⟩⟩
        · have := j3 0 (by decide)
          rw [si_c _ _ _ (by decide)] at this
          exact this.trans hP.2.2.1
        · have := j3 (1 + c) (by omega)
          rw [si_c _ _ _ (by decide), show (0 : Nat) + (1 + c) = 1 + c by omega] at this
          exact this.trans (hP.2.2.2 c hc)
      · obtain ⟨g1, g2⟩ := h5 s' hs'
        have ex11 : (tr_si x1 11 s 1).1 11 s' = hx.1 11 s' := by rw [si_n _ _ _ e, a2.1 11 (by simp; omega)]
        rw [e7, si_n _ _ _ e, ex11]
        refine ⟨g1, g2.imp id ?_⟩
        rintro ⟨g3, n', w', g4, g5, g6⟩
        refine ⟨g3, n', w', ?_, ?_, fun c hc => ?_⟩
        · exact tN_fr (L := [11]) (fr_si _ _ _ (by simp)) (by simp; omega) (by simp; omega) (tN_fr a2 (by simp; omega) (by simp; omega) g4)
        · rw [j4 _ (by omega), si_c _ _ _ (by decide)]; exact g5
        · rw [j4 _ (by omega), si_c _ _ _ (by decide)]; exact g6 c hc
    · rw [si_2, a2.2, j2.2, si_2]
      exact h7
  · rw [if_neg c, if_pos rfl]
    refine ⟨-1, hx, m0, ?_, rfl, hR0⟩
    by_cases c4 : v < 0
    · rw [if_pos (show iI v < 0 by rw [iI_0, iI_lt (by omega) (by omega) (by omega) (by omega)]; omega)]
    · rw [if_neg (show ¬ iI v < 0 by rw [iI_0, iI_lt (by omega) (by omega) (by omega) (by omega)]; omega), if_neg (show ¬ iI v < 2 by rw [iI_2, iI_lt (by omega) (by omega) (by omega) (by omega)]; omega)]
theorem s_again : ∀ (v0 : Int32) (hx hm : tr_H), Rl hx hm → ∃ (r0 : Int32) (gx gm : tr_H), f_X7_again v0 hx = some (r0, gx) ∧ f_X8_again v0 hm = some (r0, gm) ∧ Rl gx gm := by
  intro v0 hx hm hR
  obtain ⟨v, hv, rfl⟩ := ex_iI v0
  have hR0 := Rl_0 hR
  obtain ⟨m0, em0⟩ : ∃ m0, m0 = tr_si hm 0 0 0 := ⟨_, rfl⟩
  rw [← em0] at hR0
  have hin := r_inv hv 0 1
  rw [i64_0, i64_1] at hin
  unfold f_X7_again f_X8_again
  simp only [tr_bd]
  rw [← em0, hin, tr_bn_some]
  by_cases c : 0 ≤ v ∧ v ≤ 1
  · obtain ⟨s, rfl⟩ : ∃ s : Nat, v = (s : Int) := ⟨v.toNat, by omega⟩
    have hR1 := hR0
    obtain ⟨⟨n0, w0, ⟨hN, hP⟩, D, W, h3⟩, ⟨L, tx, h4⟩, h5, ⟨Z, h6⟩, h7⟩ := hR1
    obtain ⟨g1, g2⟩ := h5 s (by omega)
    rw [if_pos c, if_neg n10, if_neg (show ¬ iI (s : Int) < 0 by rw [iI_0, iI_lt (by omega) (by omega) (by omega) (by omega)]; omega), if_pos (show iI (s : Int) < 2 by rw [iI_2, iI_lt (by omega) (by omega) (by omega) (by omega)]; omega)]
    simp (disch := omega) only [tr_gdI, iI_ix]
    rw [g1]
    rcases g2 with g2 | ⟨g2, n, w, g3, g4, g5⟩
    · rw [g2, if_pos rfl, if_pos rfl]
      exact ⟨_, _, _, rfl, rfl, hR0⟩
    · rw [g2, if_neg n10, if_neg n10]
      obtain ⟨x1, a1, a2, a3⟩ := n_copy g3 (j := 2) (Or.inl rfl) (by omega)
      obtain ⟨m1, j1, j2, j3, -⟩ := cpy (f := fun q => f_X8_again_L31 (iI s) q.1 q.2) (src := 6) (dst := 3) (so := 37 * s) (off := 0) (N := 37) (by decide) m0 (by
        intro m h2 hm f2
        have ec : iI 37 * iI s + iI m = iI (37 * s + m : Nat) := by
          rw [iI_mul, iI_add]
          congr 1
        show f_X8_again_L31 (iI s) (iI m) h2 = _
        unfold f_X8_again_L31
        rw [if_neg (by rw [iI_37, iI_le (by omega) (by omega) (by omega) (by omega)]; omega), iI_37, ec]
        simp (disch := omega) only [tr_bd, tr_gdI, iI_ix]
        rw [iI_1, iI_add, show 0 + m = m by omega]
        rfl) (by
        intro h2 f2
        rfl)
      have hN1 : tN (tr_si x1 13 3 0) 2 n w := tN_fr (L := [13]) (fr_si _ _ _ (by simp)) (by simp) (by simp) a3
      have hP1 : tP (tr_si m1 0 9 0) 3 n w := by
        refine ⟨Or.inr (Or.inl rfl), g3.2.1, ?_, fun c hc => ?_⟩
        · rw [si_c _ _ _ (by decide)]
          exact (j3 0 (by decide)).trans g4
        · have := j3 (1 + c) (by omega)
          rw [show (0 : Nat) + (1 + c) = 1 + c by omega] at this
          rw [si_c _ _ _ (by decide)]
          exact this.trans (g5 c hc)
      have fx : ∀ c, c ∉ [2, 3, 13] → (tr_si x1 13 3 0).1 c = hx.1 c := fun c hc => by
        rw [si_c _ _ _ (fun z => hc (by simp [z])), a2.1 c (fun z => hc (by simp at z; simp; omega))]
      have fm : ∀ c, c ≠ 0 → c ≠ 3 → (tr_si m1 0 9 0).1 c = m0.1 c := fun c z1 z2 => by rw [si_c _ _ _ z1, j2.1 c (by simpa using z2)]
      have fm0 : ∀ k, k ≠ 9 → (tr_si m1 0 9 0).1 0 k = m0.1 0 k := fun k hk => by rw [si_n _ _ _ hk, j2.1 0 (by decide)]
      refine ⟨iI (nwt w), tr_si x1 13 3 0, tr_si m1 0 9 0, ?_, ?_, ?_⟩
      · rw [a1, tr_bn_some]
        unfold f_X1_forget tr_bd
        dsimp only
        rw [tr_bn_some, n_waits hN1, tr_bn_some]
      · rw [show ((0 : Int32), m0) = (iI (0 : Nat), m0) from rfl, j1, tr_bn_some]
        unfold f_X8_again_E60
        simp only [tr_bd]
        rw [r_waits hP1, tr_bn_some]
      · refine ⟨⟨n, w, ⟨hN1, hP1⟩, 0, fun _ => w, by omega, by rw [si_s]; rfl, by rw [si_s]; rfl, rfl, fun k hk => by omega⟩, ⟨L, tx, txt_c (by rw [fx 0 (by simp)]) (fx 1 (by simp)) (fm0 2 (by decide)) (fm 1 (by decide) (by decide)) h4⟩, slo_c (fx 11 (by simp)) (fx 6 (by simp)) (fx 7 (by simp)) (fx 8 (by simp)) (fx 9 (by simp)) (fm 7 (by decide) (by decide)) (fm 6 (by decide) (by decide)) h5, ⟨Z, sen_c (fx 17 (by simp)) (fx 18 (by simp)) (fx 19 (by simp)) (fx 20 (by simp)) (fm0 12 (by decide)) (fm 8 (by decide) (by decide)) (fm 9 (by decide) (by decide)) (fm 10 (by decide) (by decide)) h6⟩, ?_⟩
        rw [si_2, a2.2, si_2, j2.2]
        exact h7
  · rw [if_neg c, if_pos rfl]
    refine ⟨-1, hx, m0, ?_, rfl, hR0⟩
    by_cases c4 : v < 0
    · rw [if_pos (show iI v < 0 by rw [iI_0, iI_lt (by omega) (by omega) (by omega) (by omega)]; omega)]
    · rw [if_neg (show ¬ iI v < 0 by rw [iI_0, iI_lt (by omega) (by omega) (by omega) (by omega)]; omega), if_neg (show ¬ iI v < 2 by rw [iI_2, iI_lt (by omega) (by omega) (by omega) (by omega)]; omega)]
