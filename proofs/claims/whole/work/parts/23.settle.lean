/-! both sides lay the times -/
theorem max_le_ite (a b : Int) : max a b = if b ≤ a then a else b := by
  by_cases c : b ≤ a
  · rw [if_pos c]; omega
  · rw [if_neg c]; omega
theorem w_settle {h : tr_H} {i n : Nat} {w : Nat → Int} {p : Int} (hN : tN h i n w) (hk : kept n w p) : ∃ g, f_X0_settle i (iI p) h = some (tr_sa (tr_si h 24 2 (iI p)) 25 g) ∧ ∀ v, v < 6 → g v = iI (TM n w p n v) := by
  have hw := hN.2.1
  have h6 := hw.2.1
  have hi := hN.1
  have hp := hk.2
  obtain ⟨hb, ehb⟩ : ∃ hb, hb = tr_si h 24 2 (iI p) := ⟨_, rfl⟩
  have hNb : ∀ g, tN (tr_sa hb 25 g) i n w := by
    intro g
    refine tN_ne ?_ g (by unfold netI at hi; omega) (by unfold netI at hi; omega)
    rw [ehb]
    unfold tr_si
    exact tN_ne hN _ (by unfold netI at hi; omega) (by unfold netI at hi; omega)
  have hsz : ∀ g, (tr_sa hb 25 g).1 i 1 = iI n := fun g => (hNb g).2.2.1
  have hpc : ∀ g, (tr_sa hb 25 g).1 24 2 = iI p := fun g => by rw [tr_sa_ne _ _ (by decide), ehb, si_s]
  obtain ⟨r1, k1, g1, rfl, t1⟩ := tr_inv (f := fun q => f_X0_settle_L15 i q.1 q.2) (fun m s => ∃ g, s = (iI m, tr_sa hb 25 g) ∧ ∀ v, v < 6 → g v = iI (TM n w p m v)) (fun r => ∃ g, r = tr_sa hb 25 g ∧ ∀ v, v < 6 → g v = iI (TM n w p n v)) (hi := n) (by
    rintro m s hm ⟨g, rfl, hg⟩
    have hT := TW_TM (p := p) hw m
    obtain ⟨r2, k2, g2, rfl, t2⟩ := tr_inv (f := fun q => f_X0_settle_L26 i q.1 q.2) (fun a s => ∃ g, s = (iI a, tr_sa hb 25 g) ∧ ∀ v, v < 6 → g v = iI (itr (fun i T => rlr n w p i T) a (TM n w p m) v)) (fun r => ∃ g, r = tr_sa hb 25 g ∧ ∀ v, v < 6 → g v = iI (rnd n w p (TM n w p m) v)) (hi := n) (by
      rintro a s ha ⟨g, rfl, hg⟩
      have hTa := (TW_rnd hw hT a (by omega)).1
      generalize hTae : itr (fun i T => rlr n w p i T) a (TM n w p m) = Ta at hg hTa
      obtain ⟨r3, k3, g3, rfl, t3⟩ := tr_inv (f := fun q => f_X0_settle_L38 i (iI a) q.1 q.2) (fun b s => ∃ g, s = (iI b, tr_sa hb 25 g) ∧ ∀ v, v < 6 → g v = iI (itr (fun j T => rlx w p a j T) b Ta v)) (fun r => ∃ g, r = tr_sa hb 25 g ∧ ∀ v, v < 6 → g v = iI (rlr n w p a Ta v)) (hi := n) (by
        rintro b s hb2 ⟨g, rfl, hg⟩
        have hTb := (TW_rlr hw hTa ha b (by omega)).1
        have b1 := TW_b hw hk hTb a
        have b2 := TW_b hw hk hTb b
        have hgb := hg b (by omega)
        have hga := hg a (by omega)
        have ho := n_of (hNb g) (a := (a : Int)) (b := (b : Int)) (by omega) (by omega) (by omega) (by omega)
        rw [woI_in ha hb2] at ho
        have b3 := okn_b hw (c := 6 * a + b) (by omega)
        show ∃ s', f_X0_settle_L38 i (iI a) (iI b) (tr_sa hb 25 g) = some (.inl s') ∧ ∃ g, s' = (iI (b + 1 : Nat), tr_sa hb 25 g) ∧ ∀ v, v < 6 → g v = iI (rlx w p a b (itr (fun j T => rlx w p a j T) b Ta) v)
        generalize itr (fun j T => rlx w p a j T) b Ta = Tb at hg hTb b1 b2 hgb hga
        unfold f_X0_settle_L38
        rw [hsz, ho, hpc]
        by_cases c : w (6 * a + b) = -9
        · refine ⟨_, ?_, g, rfl, ?_⟩
          · simp (disch := omega) only [iI_0, iI_1, iI_2, iI_3, iI_4, iI_5, iI_6, iI_7, iI_8, iI_9, iI_10, iI_11, iI_12, iI_14, iI_20, iI_30, iI_31, iI_36, iI_37, iI_40, iI_48, iI_60, iI_63, iI_64, iI_78, iI_100, iI_255, iI_481, iI_1000000, iI_m1, iI_m2, iI_m3, iI_m4, iI_m9, iI_m1000000, iI_add, iI_sub, iI_mul, iI_neg, iI_lt, iI_le, iI_eq, iI_cl, tr_bd, tr_bn_some, tr_b2_some, tr_gdI, tr_nzI, if_pos, if_neg, ↓reduceIte, c]
            rfl
          · unfold rlx
            rw [if_pos c]
            exact hg
        · refine ⟨_, ?_, upd g b (iI (max (Tb b) (Tb a + w (6 * a + b) - p))), rfl, ?_⟩
          · simp (disch := omega) only [iI_0, iI_1, iI_2, iI_3, iI_4, iI_5, iI_6, iI_7, iI_8, iI_9, iI_10, iI_11, iI_12, iI_14, iI_20, iI_30, iI_31, iI_36, iI_37, iI_40, iI_48, iI_60, iI_63, iI_64, iI_78, iI_100, iI_255, iI_481, iI_1000000, iI_m1, iI_m2, iI_m3, iI_m4, iI_m9, iI_m1000000, iI_add, iI_sub, iI_mul, iI_neg, iI_lt, iI_le, iI_eq, iI_cl, tr_bd, tr_bn_some, tr_b2_some, tr_gdI, tr_nzI, if_pos, if_neg, ↓reduceIte, tr_maxI, tr_minI, Int.toNat_natCast, tr_si, tr_sa_at, tr_sa_sa, hga, hgb]
            rfl
          · intro v hv
            unfold rlx upd
            rw [if_neg c]
            by_cases e : v = b
            · rw [if_pos e, if_pos e]
            · rw [if_neg e, if_neg e, hg v hv]) (by
        rintro s ⟨g, rfl, hg⟩
        refine ⟨tr_sa hb 25 g, ?_, g, rfl, hg⟩
        show f_X0_settle_L38 i (iI a) (iI n) (tr_sa hb 25 g) = _
        unfold f_X0_settle_L38
        rw [hsz, if_pos (Int32.le_refl _)]) 0 (iI (0 : Nat), tr_sa hb 25 g) (by omega) ⟨g, rfl, hg⟩
      refine ⟨(iI (a + 1 : Nat), tr_sa hb 25 g3), ?_, g3, rfl, fun v hv => by show g3 v = iI (rlr n w p a (itr (fun i T => rlr n w p i T) a (TM n w p m)) v); rw [hTae]; exact t3 v hv⟩
      show f_X0_settle_L26 i (iI a) (tr_sa hb 25 g) = _
      unfold f_X0_settle_L26
      rw [hsz, if_neg (by rw [iI_le (by omega) (by omega) (by omega) (by omega)]; omega), show ((0 : Int32), tr_sa hb 25 g) = (iI (0 : Nat), tr_sa hb 25 g) from rfl, k3, tr_bn_some]
      unfold f_X0_settle_E102 tr_bd
      rw [iI_1, iI_add]
      rfl) (by
      rintro s ⟨g, rfl, hg⟩
      refine ⟨tr_sa hb 25 g, ?_, g, rfl, hg⟩
      show f_X0_settle_L26 i (iI n) (tr_sa hb 25 g) = _
      unfold f_X0_settle_L26
      rw [hsz, if_pos (Int32.le_refl _)]) 0 (iI (0 : Nat), tr_sa hb 25 g) (by omega) ⟨g, rfl, hg⟩
    refine ⟨(iI (m + 1 : Nat), tr_sa hb 25 g2), ?_, g2, rfl, t2⟩
    show f_X0_settle_L15 i (iI m) (tr_sa hb 25 g) = _
    unfold f_X0_settle_L15
    rw [hsz, if_neg (by rw [iI_le (by omega) (by omega) (by omega) (by omega)]; omega), show ((0 : Int32), tr_sa hb 25 g) = (iI (0 : Nat), tr_sa hb 25 g) from rfl, k2, tr_bn_some]
    unfold f_X0_settle_E108 tr_bd
    rw [iI_1, iI_add]
    rfl) (by
    rintro s ⟨g, rfl, hg⟩
    refine ⟨tr_sa hb 25 g, ?_, g, rfl, hg⟩
    show f_X0_settle_L15 i (iI n) (tr_sa hb 25 g) = _
    unfold f_X0_settle_L15
    rw [hsz, if_pos (Int32.le_refl _)]) 0 (iI (0 : Nat), tr_sa hb 25 (fun j => if j < 6 then 0 else hb.1 25 j)) (by omega) ⟨_, rfl, fun v hv => by rw [if_pos hv]; rfl⟩
  refine ⟨g1, ?_, t1⟩
  unfold f_X0_settle tr_bd
  dsimp only
  rw [← ehb, j_fill hb 25 6 0 (by decide), tr_bn_some, show ((0 : Int32), tr_sa hb 25 (fun j => if j < 6 then 0 else hb.1 25 j)) = (iI (0 : Nat), tr_sa hb 25 (fun j => if j < 6 then 0 else hb.1 25 j)) from rfl, k1]
  rfl
theorem r_layTimes {h : tr_H} {q n : Nat} {w : Nat → Int} {p : Int} (hP : tP h q n w) (hk : kept n w p) : ∃ g, f_X8_layTimes q (iI p) h = some (tr_sa h 13 g) ∧ ∀ v, v < 6 → g v = iI (TM n w p n v) := by
  have hw := hP.2.1
  have h6 := hw.2.1
  have hq := hP.1
  have hp := hk.2
  have hPb : ∀ g, tP (tr_sa h 13 g) q n w := by
    intro g
    obtain ⟨a1, a2, a3, a4⟩ := hP
    have e : (tr_sa h 13 g).1 q = h.1 q := tr_sa_ne _ _ (by unfold pagI at hq; omega)
    exact ⟨a1, a2, by rw [e]; exact a3, fun c hc => by rw [e]; exact a4 c hc⟩
  have hsz : ∀ g, (tr_sa h 13 g).1 q ((0 : Int32).toNatClampNeg) = iI n := fun g => (hPb g).2.2.1
  rw [← TM_six hw hk]
  obtain ⟨r1, k1, g1, rfl, t1⟩ := tr_inv (f := fun z => f_X8_layTimes_L23 q (iI p) z.1 z.2) (fun m s => ∃ g, s = (iI m, tr_sa h 13 g) ∧ ∀ v, v < 6 → g v = iI (TM n w p m v)) (fun r => ∃ g, r = tr_sa h 13 g ∧ ∀ v, v < 6 → g v = iI (TM n w p 6 v)) (hi := 6) (by
    rintro m s hm ⟨g, rfl, hg⟩
    have hT := TW_TM (p := p) hw m
    obtain ⟨r2, k2, g2, rfl, t2⟩ := tr_inv (f := fun z => f_X8_layTimes_L32 q (iI p) z.1 z.2) (fun a s => ∃ g, s = (iI a, tr_sa h 13 g) ∧ ∀ v, v < 6 → g v = iI (itr (fun i T => rlr n w p i T) a (TM n w p m) v)) (fun r => ∃ g, r = tr_sa h 13 g ∧ ∀ v, v < 6 → g v = iI (rnd n w p (TM n w p m) v)) (hi := n) (by
      rintro a s ha ⟨g, rfl, hg⟩
      have hTa := (TW_rnd hw hT a (by omega)).1
      generalize hTae : itr (fun i T => rlr n w p i T) a (TM n w p m) = Ta at hg hTa
      obtain ⟨r3, k3, g3, rfl, t3⟩ := tr_inv (f := fun z => f_X8_layTimes_L43 q (iI a) (iI p) z.1 z.2) (fun b s => ∃ g, s = (iI b, tr_sa h 13 g) ∧ ∀ v, v < 6 → g v = iI (itr (fun j T => rlx w p a j T) b Ta v)) (fun r => ∃ g, r = tr_sa h 13 g ∧ ∀ v, v < 6 → g v = iI (rlr n w p a Ta v)) (hi := n) (by
        rintro b s hb2 ⟨g, rfl, hg⟩
        have hTb := (TW_rlr hw hTa ha b (by omega)).1
        have b1 := TW_b hw hk hTb a
        have b2 := TW_b hw hk hTb b
        have hgb := hg b (by omega)
        have hga := hg a (by omega)
        have hm1 := r_minutesOf (hPb g) (i := a) (j := b) (by omega) (by omega)
        have hm2 := r_isThere (hPb g) (i := a) (j := b) (by omega) (by omega)
        have b3 := cvn_b hw (c := 6 * a + b) (by omega)
        show ∃ s', f_X8_layTimes_L43 q (iI a) (iI p) (iI b) (tr_sa h 13 g) = some (.inl s') ∧ ∃ g, s' = (iI (b + 1 : Nat), tr_sa h 13 g) ∧ ∀ v, v < 6 → g v = iI (rlx w p a b (itr (fun j T => rlx w p a j T) b Ta) v)
        generalize itr (fun j T => rlx w p a j T) b Ta = Tb at hg hTb b1 b2 hgb hga
        unfold f_X8_layTimes_L43
        rw [hsz, hm1, hm2]
        have usame : upd g b (iI (Tb b)) = g := by
          funext j
          unfold upd
          by_cases e : j = b
          · rw [if_pos e, e, hgb]
          · rw [if_neg e]
        by_cases c : w (6 * a + b) = -9
        · rw [if_pos c]
          refine ⟨_, ?_, g, rfl, ?_⟩
          · simp (disch := omega) only [iI_0, iI_1, iI_2, iI_3, iI_4, iI_5, iI_6, iI_7, iI_8, iI_9, iI_10, iI_11, iI_12, iI_14, iI_20, iI_30, iI_31, iI_36, iI_37, iI_40, iI_48, iI_60, iI_63, iI_64, iI_78, iI_100, iI_255, iI_481, iI_1000000, iI_m1, iI_m2, iI_m3, iI_m4, iI_m9, iI_m1000000, iI_add, iI_sub, iI_mul, iI_neg, iI_lt, iI_le, iI_eq, iI_cl, tr_bd, tr_bn_some, tr_b2_some, tr_gdI, tr_nzI, if_pos, if_neg, ↓reduceIte, tr_maxI, tr_minI, Int.toNat_natCast, tr_si, tr_sa_at, tr_sa_sa, hga, hgb, usame]
            rfl
          · unfold rlx
            rw [if_pos c]
            exact hg
        · rw [if_neg c]
          have e1 := b3.2.2.2 c
          rw [e1]
          have b4 := okn_b hw (c := 6 * a + b) (by omega)
          by_cases c2 : Tb a + w (6 * a + b) - p ≤ Tb b
          · refine ⟨_, ?_, g, rfl, ?_⟩
            · have e2 : Tb a + (w (6 * a + b) + 1 - 1) - p = Tb a + w (6 * a + b) - p := by omega
              simp (disch := omega) only [iI_0, iI_1, iI_2, iI_3, iI_4, iI_5, iI_6, iI_7, iI_8, iI_9, iI_10, iI_11, iI_12, iI_14, iI_20, iI_30, iI_31, iI_36, iI_37, iI_40, iI_48, iI_60, iI_63, iI_64, iI_78, iI_100, iI_255, iI_481, iI_1000000, iI_m1, iI_m2, iI_m3, iI_m4, iI_m9, iI_m1000000, iI_add, iI_sub, iI_mul, iI_neg, iI_lt, iI_le, iI_eq, iI_cl, tr_bd, tr_bn_some, tr_b2_some, tr_gdI, tr_nzI, if_pos, if_neg, ↓reduceIte, tr_maxI, tr_minI, Int.toNat_natCast, tr_si, tr_sa_at, tr_sa_sa, hga, hgb, usame, e2]
              rfl
            · intro v hv
              unfold rlx
              rw [if_neg c]
              by_cases e : v = b
              · rw [if_pos e, e, hgb]
                congr 1
                omega
              · rw [if_neg e, hg v hv]
          · refine ⟨_, ?_, upd g b (iI (Tb a + w (6 * a + b) - p)), rfl, ?_⟩
            · have e2 : Tb a + (w (6 * a + b) + 1 - 1) - p = Tb a + w (6 * a + b) - p := by omega
              simp (disch := omega) only [iI_0, iI_1, iI_2, iI_3, iI_4, iI_5, iI_6, iI_7, iI_8, iI_9, iI_10, iI_11, iI_12, iI_14, iI_20, iI_30, iI_31, iI_36, iI_37, iI_40, iI_48, iI_60, iI_63, iI_64, iI_78, iI_100, iI_255, iI_481, iI_1000000, iI_m1, iI_m2, iI_m3, iI_m4, iI_m9, iI_m1000000, iI_add, iI_sub, iI_mul, iI_neg, iI_lt, iI_le, iI_eq, iI_cl, tr_bd, tr_bn_some, tr_b2_some, tr_gdI, tr_nzI, if_pos, if_neg, ↓reduceIte, tr_maxI, tr_minI, Int.toNat_natCast, tr_si, tr_sa_at, tr_sa_sa, hga, hgb, e2]
              rfl
            · intro v hv
              unfold rlx upd
              rw [if_neg c]
              by_cases e : v = b
              · rw [if_pos e, if_pos e]
                congr 1
                omega
              · rw [if_neg e, if_neg e, hg v hv]) (by
        rintro s ⟨g, rfl, hg⟩
        refine ⟨tr_sa h 13 g, ?_, g, rfl, hg⟩
        show f_X8_layTimes_L43 q (iI a) (iI p) (iI n) (tr_sa h 13 g) = _
        unfold f_X8_layTimes_L43
        rw [hsz, if_pos (Int32.le_refl _)]) 0 (iI (0 : Nat), tr_sa h 13 g) (by omega) ⟨g, rfl, hg⟩
      refine ⟨(iI (a + 1 : Nat), tr_sa h 13 g3), ?_, g3, rfl, fun v hv => by show g3 v = iI (rlr n w p a (itr (fun i T => rlr n w p i T) a (TM n w p m)) v); rw [hTae]; exact t3 v hv⟩
      show f_X8_layTimes_L32 q (iI p) (iI a) (tr_sa h 13 g) = _
      unfold f_X8_layTimes_L32
      rw [hsz, if_neg (by rw [iI_le (by omega) (by omega) (by omega) (by omega)]; omega), show ((0 : Int32), tr_sa h 13 g) = (iI (0 : Nat), tr_sa h 13 g) from rfl, k3, tr_bn_some]
      unfold f_X8_layTimes_E119 tr_bd
      rw [iI_1, iI_add]
      rfl) (by
      rintro s ⟨g, rfl, hg⟩
      refine ⟨tr_sa h 13 g, ?_, g, rfl, hg⟩
      show f_X8_layTimes_L32 q (iI p) (iI n) (tr_sa h 13 g) = _
      unfold f_X8_layTimes_L32
      rw [hsz, if_pos (Int32.le_refl _)]) 0 (iI (0 : Nat), tr_sa h 13 g) (by omega) ⟨g, rfl, hg⟩
    refine ⟨(iI (m + 1 : Nat), tr_sa h 13 g2), ?_, g2, rfl, t2⟩
    show f_X8_layTimes_L23 q (iI p) (iI m) (tr_sa h 13 g) = _
    unfold f_X8_layTimes_L23
    rw [if_neg (by rw [iI_6, iI_le (by omega) (by omega) (by omega) (by omega)]; omega), show ((0 : Int32), tr_sa h 13 g) = (iI (0 : Nat), tr_sa h 13 g) from rfl, k2, tr_bn_some]
    unfold f_X8_layTimes_E125 tr_bd
    rw [iI_1, iI_add]
    rfl) (by
    rintro s ⟨g, rfl, hg⟩
    exact ⟨tr_sa h 13 g, rfl, g, rfl, hg⟩) 0 (iI (0 : Nat), tr_sa h 13 (fun j => if j < 6 then 0 else h.1 13 j)) (by omega) ⟨_, rfl, fun v hv => by rw [if_pos hv]; rfl⟩
  refine ⟨g1, ?_, t1⟩
  unfold f_X8_layTimes
  have k0 := tr_seq (f := fun z => f_X8_layTimes_L2 z.1 z.2) (fun m => (iI m, tr_sa h 13 (fun j => if j < m then 0 else h.1 13 j))) (lo := 0) (hi := 6) (r := tr_sa h 13 (fun j => if j < 6 then 0 else h.1 13 j)) (by omega) (by
    intro m _ hm
    show f_X8_layTimes_L2 (iI m) _ = some (.inl (iI ((m + 1 : Nat)), _))
    unfold f_X8_layTimes_L2
    simp (disch := omega) only [iI_0, iI_1, iI_2, iI_3, iI_4, iI_5, iI_6, iI_7, iI_8, iI_9, iI_10, iI_11, iI_12, iI_14, iI_20, iI_30, iI_31, iI_36, iI_37, iI_40, iI_48, iI_60, iI_63, iI_64, iI_78, iI_100, iI_255, iI_481, iI_1000000, iI_m1, iI_m2, iI_m3, iI_m4, iI_m9, iI_m1000000, iI_add, iI_sub, iI_mul, iI_neg, iI_lt, iI_le, iI_eq, iI_cl, tr_bd, tr_bn_some, tr_b2_some, tr_gdI, tr_nzI, if_pos, if_neg, ↓reduceIte, Int.toNat_natCast, tr_si, tr_sa_at, tr_sa_sa]
    have e2 : upd (fun j => if j < m then iI 0 else h.1 13 j) m (iI 0) = fun j => if j < m + 1 then iI 0 else h.1 13 j := by
      funext j
      unfold upd
      by_cases e : j = m
      · rw [if_pos e, if_pos (by omega)]
      · rw [if_neg e]
        dsimp only
        by_cases q : j < m
        · rw [if_pos q, if_pos (by omega)]
        · rw [if_neg q, if_neg (by omega)]
    rw [e2]
    rfl) rfl
  have e1 : ((0 : Int32), h) = (iI (0 : Nat), tr_sa h 13 (fun j => if j < 0 then 0 else h.1 13 j)) := by
    have : (fun j => if j < 0 then (0 : Int32) else h.1 13 j) = h.1 13 := by funext j; simp
    rw [this, tr_sa_self]
    rfl
  rw [e1, k0, tr_bn_some]
  unfold f_X8_layTimes_E21
  rw [show ((0 : Int32), tr_sa h 13 (fun j => if j < 6 then 0 else h.1 13 j)) = (iI (0 : Nat), tr_sa h 13 (fun j => if j < 6 then 0 else h.1 13 j)) from rfl, k1]
  rfl
