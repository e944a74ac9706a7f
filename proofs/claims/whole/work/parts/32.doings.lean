/-! rows copied, doings, slots -/
theorem cpy {f : Int32 × tr_H → Option ((Int32 × tr_H) ⊕ tr_H)} {src dst so off N : Nat} (hne : src ≠ dst) (h : tr_H) (step : ∀ m h1, m < N → fr [dst] h h1 → f (iI m, h1) = some (.inl (iI (m + 1 : Nat), tr_si h1 dst (off + m) (h1.1 src (so + m))))) (ex : ∀ h1, fr [dst] h h1 → f (iI N, h1) = some (.inr h1)) : ∃ h', tr_lp f (iI (0 : Nat), h) = some h' ∧ fr [dst] h h' ∧ (∀ m, m < N → h'.1 dst (off + m) = h.1 src (so + m)) ∧ ∀ k, (k < off ∨ off + N ≤ k) → h'.1 dst k = h.1 dst k := by
  obtain ⟨r, k1, k2⟩ := tr_inv (f := f) (fun m s => ∃ h1, s = (iI m, h1) ∧ fr [dst] h h1 ∧ (∀ j, j < m → h1.1 dst (off + j) = h.1 src (so + j)) ∧ ∀ k, (k < off ∨ off + m ≤ k) → h1.1 dst k = h.1 dst k) (fun h1 => fr [dst] h h1 ∧ (∀ j, j < N → h1.1 dst (off + j) = h.1 src (so + j)) ∧ ∀ k, (k < off ∨ off + N ≤ k) → h1.1 dst k = h.1 dst k) (hi := N) (by
    rintro m s hm ⟨h1, rfl, f1, g1, g2⟩
    refine ⟨_, step m h1 hm f1, _, rfl, fr_tr f1 (fr_si _ _ _ (by simp)), fun j hj => ?_, fun k hk => ?_⟩
    · by_cases e : j = m
      · rw [e, si_s, f1.1 src (by simpa using hne)]
      · rw [si_n _ _ _ (by omega)]
        exact g1 j (by omega)
    · rw [si_n _ _ _ (by omega)]
      exact g2 k (by omega)) (by
    rintro s ⟨h1, rfl, f1, g1, g2⟩
    exact ⟨h1, ex h1 f1, f1, g1, g2⟩) 0 (iI (0 : Nat), h) (by omega) ⟨h, rfl, fr_rf _ _, fun j hj => by omega, fun _ _ => rfl⟩
  exact ⟨r, k1, k2⟩
theorem n_copy {h : tr_H} {i j n : Nat} {w : Nat → Int} (hN : tN h i n w) (hj : netI j) (hne : i ≠ j) : ∃ h', f_X2_copyFrom j i h = some h' ∧ fr [j, j + 1] h h' ∧ tN h' j n w := by
  have hi := hN.1
  refine ⟨tr_cp (tr_si h j 1 (h.1 i 1)) (i + 1) (j + 1), rfl, fr_tr (b := tr_si h j 1 (h.1 i 1)) (fr_si h 1 (h.1 i 1) (by simp)) (by unfold tr_cp; exact fr_sa _ _ (by simp)), hj, hN.2.1, ?_, fun c hc => ?_⟩
  · unfold tr_cp
    rw [tr_sa_ne _ _ (by omega), si_s]
    exact hN.2.2.1
  · unfold tr_cp
    rw [tr_sa_at]
    unfold va_cpy
    rw [if_pos (by omega), si_c _ _ _ (by unfold netI at hi hj; omega), show 0 + (c - 0) = c by omega]
    exact hN.2.2.2 c hc
/-! a doing is noted -/
theorem c_add {h : tr_H} {D a b : Nat} {z : Int} (hD : D ≤ 14) (hc : h.1 13 3 = iI D) : ∃ h' o D1, D = D1 + o ∧ o ≤ 1 ∧ D1 ≤ 13 ∧ (o = 1 → D = 14) ∧ (D = 14 → o = 1) ∧ f_X1_add (iI a) (iI b) (iI z) h = some h' ∧ fr [13, 14, 15, 16] h h' ∧ h'.1 13 3 = iI (D1 + 1 : Nat) ∧ (∀ k, k < D1 → h'.1 14 k = h.1 14 (k + o) ∧ h'.1 15 k = h.1 15 (k + o) ∧ h'.1 16 k = h.1 16 (k + o)) ∧ h'.1 14 D1 = iI a ∧ h'.1 15 D1 = iI b ∧ h'.1 16 D1 = iI z := by
  have hj : ∀ (D1 : Nat) (h1 : tr_H), D1 ≤ 13 → h1.1 13 3 = iI D1 → ∃ h', f_X1_add_J13 (iI a) (iI b) (iI z) h1 = some h' ∧ fr [13, 14, 15, 16] h1 h' ∧ h'.1 13 3 = iI (D1 + 1 : Nat) ∧ (∀ k, k < D1 → h'.1 14 k = h1.1 14 k ∧ h'.1 15 k = h1.1 15 k ∧ h'.1 16 k = h1.1 16 k) ∧ h'.1 14 D1 = iI a ∧ h'.1 15 D1 = iI b ∧ h'.1 16 D1 = iI z := by
    intro D1 h1 hD1 hc1
    refine ⟨tr_si (tr_si (tr_si (tr_si h1 14 D1 (iI a)) 15 D1 (iI b)) 16 D1 (iI z)) 13 3 (iI (D1 + 1 : Nat)), ?_, fr_tr (fr_tr (fr_tr (fr_si _ _ _ (by simp)) (fr_si _ _ _ (by simp))) (fr_si _ _ _ (by simp))) (fr_si _ _ _ (by simp)), si_s _ _ _ _, fun k hk => ⟨?_, ?_, ?_⟩, ?_, ?_, ?_⟩
    · unfold f_X1_add_J13
      rw [hc1, if_neg (show ¬ iI (D1 : Int) < 0 by rw [iI_0, iI_lt (by omega) (by omega) (by omega) (by omega)]; omega), if_pos (show iI (D1 : Int) < 14 by rw [iI_14, iI_lt (by omega) (by omega) (by omega) (by omega)]; omega)]
      simp (disch := omega) only [tr_bd, tr_gdI, iI_ix, si_c, hc1]
      rw [iI_1, iI_add]
      rfl
    · rw [si_c _ _ _ (by decide), si_c _ _ _ (by decide), si_c _ _ _ (by decide), si_n _ _ _ (by omega)]
    · rw [si_c _ _ _ (by decide), si_c _ _ _ (by decide), si_n _ _ _ (by omega), si_c _ _ _ (by decide)]
    · rw [si_c _ _ _ (by decide), si_n _ _ _ (by omega), si_c _ _ _ (by decide), si_c _ _ _ (by decide)]
    · rw [si_c _ _ _ (by decide), si_c _ _ _ (by decide), si_c _ _ _ (by decide), si_s]
    · rw [si_c _ _ _ (by decide), si_c _ _ _ (by decide), si_s]
    · rw [si_c _ _ _ (by decide), si_s]
  by_cases c : D < 14
  · obtain ⟨h', k1, k2, k3, k4, k5⟩ := hj D h (by omega) hc
    refine ⟨h', 0, D, rfl, by omega, by omega, by omega, by omega, ?_, k2, k3, k4, k5⟩
    unfold f_X1_add
    rw [hc, if_pos (show iI (D : Int) < 14 by rw [iI_14, iI_lt (by omega) (by omega) (by omega) (by omega)]; omega)]
    exact k1
  · obtain rfl : D = 14 := by omega
    obtain ⟨h1, e1, f1, g1, g2⟩ := tr_inv (f := fun q => f_X1_forgetFirst_L2 q.1 q.2) (fun m s => ∃ h1, s = (iI m, h1) ∧ 1 ≤ m ∧ fr [13, 14, 15, 16] h h1 ∧ (∀ k, k + 1 < m → h1.1 14 k = h.1 14 (k + 1) ∧ h1.1 15 k = h.1 15 (k + 1) ∧ h1.1 16 k = h.1 16 (k + 1)) ∧ ∀ k, m ≤ k + 1 → h1.1 14 k = h.1 14 k ∧ h1.1 15 k = h.1 15 k ∧ h1.1 16 k = h.1 16 k) (fun h1 => fr [13, 14, 15, 16] h h1 ∧ (∀ k, k + 1 < 14 → h1.1 14 k = h.1 14 (k + 1) ∧ h1.1 15 k = h.1 15 (k + 1) ∧ h1.1 16 k = h.1 16 (k + 1)) ∧ True) (hi := 14) (by
      rintro m s hm ⟨h1, rfl, hm1, f1, g1, g2⟩
      obtain ⟨m', rfl⟩ : ∃ m', m = m' + 1 := ⟨m - 1, by omega⟩
      have e5 : iI ((m' + 1 : Nat) : Int) - 1 = iI (m' : Nat) := by
        rw [iI_1, iI_sub]
        congr 1
        omega
      refine ⟨(iI (m' + 1 + 1 : Nat), tr_si (tr_si (tr_si h1 14 m' (h1.1 14 (m' + 1))) 15 m' (h1.1 15 (m' + 1))) 16 m' (h1.1 16 (m' + 1))), ?_, _, rfl, by omega, fr_tr f1 (fr_tr (fr_tr (fr_si _ _ _ (by simp)) (fr_si _ _ _ (by simp))) (fr_si _ _ _ (by simp))), fun k hk => ?_, fun k hk => ?_⟩
      · show f_X1_forgetFirst_L2 (iI (m' + 1 : Nat)) h1 = _
        unfold f_X1_forgetFirst_L2
        rw [if_neg (by rw [iI_14, iI_le (by omega) (by omega) (by omega) (by omega)]; omega), e5]
        simp (disch := omega) only [tr_bd, tr_gdI, iI_ix, si_c]
        rw [iI_1, iI_add]
        rfl
      · have z := g2 (m' + 1) (by omega)
        by_cases e : k = m'
        · subst e
          refine ⟨?_, ?_, ?_⟩
          · rw [si_c _ _ _ (by decide), si_c _ _ _ (by decide), si_s]; exact z.1
          · rw [si_c _ _ _ (by decide), si_s]; exact z.2.1
          · rw [si_s]; exact z.2.2
        · have y := g1 k (by omega)
          refine ⟨?_, ?_, ?_⟩
          · rw [si_c _ _ _ (by decide), si_c _ _ _ (by decide), si_n _ _ _ e]; exact y.1
          · rw [si_c _ _ _ (by decide), si_n _ _ _ e, si_c _ _ _ (by decide)]; exact y.2.1
          · rw [si_n _ _ _ e, si_c _ _ _ (by decide), si_c _ _ _ (by decide)]; exact y.2.2
      · have y := g2 k (by omega)
        have e : k ≠ m' := by omega
        refine ⟨?_, ?_, ?_⟩
        · rw [si_c _ _ _ (by decide), si_c _ _ _ (by decide), si_n _ _ _ e]; exact y.1
        · rw [si_c _ _ _ (by decide), si_n _ _ _ e, si_c _ _ _ (by decide)]; exact y.2.1
        · rw [si_n _ _ _ e, si_c _ _ _ (by decide), si_c _ _ _ (by decide)]; exact y.2.2) (by
      rintro s ⟨h1, rfl, hm1, f1, g1, g2⟩
      exact ⟨h1, rfl, f1, g1, trivial⟩) 1 (iI (1 : Nat), h) (by omega) ⟨h, rfl, by omega, fr_rf _ _, fun k hk => by omega, fun k hk => ⟨rfl, rfl, rfl⟩⟩
    obtain ⟨h', k1, k2, k3, k4, k5⟩ := hj 13 (tr_si h1 13 3 13) (by omega) (by rw [si_s]; rfl)
    refine ⟨h', 1, 13, rfl, by omega, by omega, by omega, by omega, ?_, fr_tr f1 (fr_tr (fr_si _ _ _ (by simp)) k2), k3, fun k hk => ?_, k5⟩
    · unfold f_X1_add
      rw [hc, if_neg (by decide)]
      unfold f_X1_forgetFirst
      rw [show ((1 : Int32), h) = (iI (1 : Nat), h) from rfl, e1, tr_bn_some]
      exact k1
    · have y := g1 k (by omega)
      have z := k4 k hk
      rw [si_c _ _ _ (by decide), si_c _ _ _ (by decide), si_c _ _ _ (by decide)] at z
      exact ⟨z.1.trans y.1, z.2.1.trans y.2.1, z.2.2.trans y.2.2⟩
theorem r_note {h : tr_H} {D : Nat} (hD : D ≤ 14) (hc : h.1 0 9 = iI D) {o D1 : Nat} (e1 : D = D1 + o) (e2 : o ≤ 1) (e3 : D1 ≤ 13) (e4 : o = 1 → D = 14) (e5 : D = 14 → o = 1) : ∃ h', f_X8_note h = some h' ∧ (∀ c, c ≠ 0 → c ≠ 5 → h'.1 c = h.1 c) ∧ (∀ k, k ≠ 9 → h'.1 0 k = h.1 0 k) ∧ h'.2 = h.2 ∧ h'.1 0 9 = iI (D1 + 1 : Nat) ∧ (∀ k, k < 37 * D1 → h'.1 5 k = h.1 5 (k + 37 * o)) ∧ ∀ k, k < 37 → h'.1 5 (37 * D1 + k) = h.1 3 k := by
  have hj : ∀ (h1 : tr_H), h1.1 0 9 = iI D1 → ∃ h', f_X8_note_J49 h1 = some h' ∧ (∀ c, c ≠ 0 → c ≠ 5 → h'.1 c = h1.1 c) ∧ (∀ k, k ≠ 9 → h'.1 0 k = h1.1 0 k) ∧ h'.2 = h1.2 ∧ h'.1 0 9 = iI (D1 + 1 : Nat) ∧ (∀ k, k < 37 * D1 → h'.1 5 k = h1.1 5 k) ∧ ∀ k, k < 37 → h'.1 5 (37 * D1 + k) = h1.1 3 k := by
    intro h1 hc1
    obtain ⟨h2, k1, k2, k3, k4⟩ := cpy (f := fun q => f_X8_note_L51 q.1 q.2) (src := 3) (dst := 5) (so := 0) (off := 37 * D1) (N := 37) (by decide) h1 (by
      intro m h2 hm f2
      have hc2 : h2.1 0 9 = iI D1 := by rw [f2.1 0 (by decide)]; exact hc1
      have ec : iI 37 * iI D1 + iI m = iI (37 * D1 + m : Nat) := by
        rw [iI_mul, iI_add]
        congr 1
      show f_X8_note_L51 (iI m) h2 = _
      unfold f_X8_note_L51
      rw [if_neg (by rw [iI_37, iI_le (by omega) (by omega) (by omega) (by omega)]; omega), tr_gdI (by omega) (by omega) (by omega), hc2, iI_37, ec]
      simp (disch := omega) only [tr_bd, tr_gdI, iI_ix]
      rw [iI_1, iI_add, show 0 + m = m by omega]
      rfl) (by
      intro h2 f2
      rfl)
    refine ⟨tr_si h2 0 9 (iI (D1 + 1 : Nat)), ?_, fun c q1 q2 => ?_, fun k hk => ?_, by rw [si_2]; exact k2.2, si_s _ _ _ _, fun k hk => ?_, fun k hk => ?_⟩
    · unfold f_X8_note_J49
      rw [show ((0 : Int32), h1) = (iI (0 : Nat), h1) from rfl, k1, tr_bn_some]
      unfold f_X8_note_E83 tr_bd
      rw [k2.1 0 (by decide), hc1, iI_1, iI_add]
      rfl
    · rw [si_c _ _ _ q1, k2.1 c (by simpa using q2)]
    · rw [si_n _ _ _ hk, k2.1 0 (by decide)]
    · rw [si_c _ _ _ (by decide)]; exact k4 k (Or.inl hk)
    · rw [si_c _ _ _ (by decide), k3 k hk, show 0 + k = k by omega]
  by_cases c : D = 14
  · have ho := e5 c
    subst ho
    obtain ⟨h1, k1, f1, g1, g2⟩ := tr_inv (f := fun q => f_X8_note_L11 q.1 q.2) (fun m s => ∃ h1, s = (iI m, h1) ∧ fr [5] h h1 ∧ (∀ k, k < m → h1.1 5 k = h.1 5 (k + 37)) ∧ ∀ k, m ≤ k → h1.1 5 k = h.1 5 k) (fun h1 => fr [5] h h1 ∧ (∀ k, k < 481 → h1.1 5 k = h.1 5 (k + 37)) ∧ True) (hi := 481) (by
      rintro m s hm ⟨h1, rfl, f1, g1, g2⟩
      refine ⟨(iI (m + 1 : Nat), tr_si h1 5 m (h1.1 5 (m + 37))), ?_, _, rfl, fr_tr f1 (fr_si _ _ _ (by simp)), fun k hk => ?_, fun k hk => ?_⟩
      · show f_X8_note_L11 (iI m) h1 = _
        unfold f_X8_note_L11
        rw [if_neg (by rw [iI_481, iI_le (by omega) (by omega) (by omega) (by omega)]; omega), iI_37, iI_add, show ((m : Int) + 37) = ((m + 37 : Nat) : Int) from rfl]
        simp (disch := omega) only [tr_bd, tr_gdI, iI_ix]
        rw [iI_1, iI_add]
        rfl
      · by_cases e : k = m
        · rw [e, si_s, g2 (m + 37) (by omega)]
        · rw [si_n _ _ _ e]; exact g1 k (by omega)
      · rw [si_n _ _ _ (by omega)]; exact g2 k (by omega)) (by
      rintro s ⟨h1, rfl, f1, g1, g2⟩
      exact ⟨h1, rfl, f1, g1, trivial⟩) 0 (iI (0 : Nat), h) (by omega) ⟨h, rfl, fr_rf _ _, fun k hk => by omega, fun _ _ => rfl⟩
    obtain ⟨h', j1, j2, j3, j4, j5, j6, j7⟩ := hj (tr_si h1 0 9 (iI D1)) (si_s _ _ _ _)
    refine ⟨h', ?_, fun c q1 q2 => ?_, fun k hk => ?_, ?_, j5, fun k hk => ?_, fun k hk => ?_⟩
    · unfold f_X8_note
      rw [hc, c, if_pos (show iI ((14 : Nat) : Int) = 14 from rfl), show ((0 : Int32), h) = (iI (0 : Nat), h) from rfl, k1, tr_bn_some]
      unfold f_X8_note_E39 tr_bd
      dsimp only
      rw [f1.1 0 (by decide), hc, iI_1, iI_sub, show ((D : Int) - 1) = (D1 : Int) by omega]
      exact j1
    · rw [j2 c q1 q2, si_c _ _ _ q1, f1.1 c (by simpa using q2)]
    · rw [j3 k hk, si_n _ _ _ hk, f1.1 0 (by decide)]
    · rw [j4, si_2, f1.2]
    · rw [j6 k hk, si_c _ _ _ (by decide), g1 k (by omega)]
    · rw [j7 k hk, si_c _ _ _ (by decide), f1.1 3 (by decide)]
  · have ho : o = 0 := by
      apply Classical.byContradiction
      intro q
      exact c (e4 (by omega))
    subst ho
    have : D1 = D := by omega
    subst this
    obtain ⟨h', j1, j2, j3, j4, j5, j6, j7⟩ := hj h hc
    refine ⟨h', ?_, j2, j3, j4, j5, j6, j7⟩
    unfold f_X8_note
    rw [hc, if_neg (by rw [iI_14, iI_eq (by omega) (by omega) (by omega) (by omega)]; omega)]
    exact j1
theorem wup_back (w : Nat → Int) (c : Nat) (v : Int) : wup (wup w c v) c (w c) = w := by
  funext k
  unfold wup
  by_cases e : k = c
  · rw [if_pos e, e]
  · rw [if_neg e, if_neg e]
def Rw (n : Nat) (w : Nat → Int) (hx hm : tr_H) : Prop := ((tN hx 2 n w ∧ tP hm 3 n w) ∧ ∃ D W, dgs hx hm n w D W) ∧ (∃ L tx, txt hx hm L tx) ∧ slo hx hm ∧ (∃ Z, sen hx hm Z) ∧ hx.2 0 12 = hm.2 0 16
theorem Rl_w {hx hm : tr_H} (h : Rl hx hm) : ∃ n w, Rw n w hx hm := by
  obtain ⟨⟨n, w, h1⟩, h2⟩ := h
  exact ⟨n, w, h1, h2⟩
theorem Rw_l {n : Nat} {w : Nat → Int} {hx hm : tr_H} (h : Rw n w hx hm) : Rl hx hm := ⟨⟨n, w, h.1⟩, h.2⟩
/-- a doing, on both sides -/
theorem chg {hx hm : tr_H} {n : Nat} {w : Nat → Int} (hR : Rw n w hx hm) {a b : Nat} (ha : a < n) (hb : b < n) {v : Int} (hv : v = -9 ∨ (0 ≤ v ∧ v ≤ 9)) :
    ∃ gx gm, f_X7_change (iI a) (iI b) (iI v) hx = some (iI (w (6 * a + b)), gx) ∧ f_X8_note hm = some gm ∧ tP gm 3 n w ∧ Rw n (wup w (6 * a + b) v) gx (tr_si gm 3 (1 + (6 * a + b)) (iI (cvn v))) := by
  obtain ⟨⟨⟨hN, hP⟩, D, W, d1, d2, d3, d4, d5⟩, ⟨L, tx, k2⟩, k3, ⟨Z, k4⟩, k5⟩ := hR
  have h6 := hN.2.1.2.1
  obtain ⟨g1, o, D1, e1, e2, e3, e4, e5, q1, q2, q3, q4, q5, q6, q7⟩ := c_add (a := a) (b := b) (z := w (6 * a + b)) d1 d2
  obtain ⟨gm, r1, r2, r3, r4, r5, r6, r7⟩ := r_note d1 d3 e1 e2 e3 e4 e5
  have hN1 : tN g1 2 n w := tN_fr q2 (by simp) (by simp) hN
  have ho := n_of hN (a := (a : Int)) (b := (b : Int)) (by omega) (by omega) (by omega) (by omega)
  rw [woI_in ha hb] at ho
  have hl := n_lay hN1 (a := (a : Int)) (b := (b : Int)) v (by omega) (by omega) (by omega) (by omega)
  rw [if_pos (by omega)] at hl
  simp only [Int.toNat_natCast] at hl
  have hN2 := tN_up hN1 (a := a) (b := b) (v := v) ha hb hv
  have fx : fr [3] g1 (tr_sa g1 (2 + 1) (upd (g1.1 (2 + 1)) (6 * a + b) (iI v))) := fr_sa _ _ (by simp)
  generalize tr_sa g1 (2 + 1) (upd (g1.1 (2 + 1)) (6 * a + b) (iI v)) = gx at hl hN2 fx
  have hP1 : tP gm 3 n w := by
    obtain ⟨a1, a2, a3, a4⟩ := hP
    exact ⟨a1, a2, by rw [r2 3 (by decide) (by decide)]; exact a3, fun c hc => by rw [r2 3 (by decide) (by decide)]; exact a4 c hc⟩
  have ff : ∀ c, c ∉ [3, 13, 14, 15, 16] → gx.1 c = hx.1 c := fun c hc => by
    rw [fx.1 c (fun z => hc (by simp at z; simp [z])), q2.1 c (fun z => hc (by simp at z; simp; omega))]
  refine ⟨gx, gm, ?_, r1, hP1, ?_⟩
  · unfold f_X7_change
    rw [ho, tr_bn_some, q1, tr_bn_some, hl, tr_b2_some]
  · have hP2 := tP_up hP1 (a := a) (b := b) (v := v) ha hb hv
    have fm : fr [3] gm (tr_si gm 3 (1 + (6 * a + b)) (iI (cvn v))) := fr_si _ _ _ (by simp)
    generalize tr_si gm 3 (1 + (6 * a + b)) (iI (cvn v)) = gm2 at hP2 fm
    have mm : ∀ c, c ≠ 0 → c ≠ 3 → c ≠ 5 → gm2.1 c = hm.1 c := fun c z0 z3 z5 => by rw [fm.1 c (by simpa using z3), r2 c z0 z5]
    have m0 : ∀ k, k ≠ 9 → gm2.1 0 k = hm.1 0 k := fun k hk => by rw [fm.1 0 (by simp), r3 k hk]
    refine ⟨⟨⟨hN2, hP2⟩, D1 + 1, fun k => if k < D1 then W (k + o) else if k = D1 then wup (wup w (6 * a + b) v) (6 * a + b) (w (6 * a + b)) else wup w (6 * a + b) v, by omega, ?_, ?_, ?_, fun k hk => ?_⟩, ⟨L, tx, txt_c (by rw [ff 0 (by simp)]) (ff 1 (by simp)) (m0 2 (by decide)) (mm 1 (by decide) (by decide) (by decide)) k2⟩, slo_c (ff 11 (by simp)) (ff 6 (by simp)) (ff 7 (by simp)) (ff 8 (by simp)) (ff 9 (by simp)) (mm 7 (by decide) (by decide) (by decide)) (mm 6 (by decide) (by decide) (by decide)) k3, ⟨Z, sen_c (ff 17 (by simp)) (ff 18 (by simp)) (ff 19 (by simp)) (ff 20 (by simp)) (m0 12 (by decide)) (mm 8 (by decide) (by decide) (by decide)) (mm 9 (by decide) (by decide) (by decide)) (mm 10 (by decide) (by decide) (by decide)) k4⟩, ?_⟩
    · rw [fx.1 13 (by simp)]; exact q3
    · rw [fm.1 0 (by simp)]; exact r5
    · dsimp only
      rw [if_neg (by omega), if_neg (by omega)]
    · have hbk : gm2.1 5 = gm.1 5 := fm.1 5 (by simp)
      by_cases c : k < D1
      · obtain ⟨y1, ⟨a', b', y2, y3, y4, y5, y6, y7⟩, y8, y9⟩ := d5 (k + o) (by omega)
        have y10 := q4 k c
        dsimp only
        rw [if_pos c]
        refine ⟨y1, ⟨a', b', y2, y3, ?_, ?_, ?_, ?_⟩, ?_, fun z hz => ?_⟩
        · rw [fx.1 14 (by simp), y10.1]; exact y4
        · rw [fx.1 15 (by simp), y10.2.1]; exact y5
        · rw [fx.1 16 (by simp), y10.2.2]; exact y6
        · by_cases c2 : k + 1 < D1
          · rw [if_pos c2, show k + 1 + o = k + o + 1 by omega]
            exact y7
          · rw [if_neg c2, if_pos (by omega), wup_back]
            have e9 : k + o + 1 = D := by omega
            rw [e9, d4] at y7
            exact y7
        · rw [hbk, r6 _ (by omega), show 37 * k + 37 * o = 37 * (k + o) by rw [Nat.mul_add]]; exact y8
        · rw [hbk, r6 _ (by omega), show 37 * k + (1 + z) + 37 * o = 37 * (k + o) + (1 + z) by omega]; exact y9 z hz
      · obtain rfl : k = D1 := by omega
        dsimp only
        rw [if_neg c, if_pos rfl, if_neg (by omega), if_neg (by omega), wup_back]
        refine ⟨hN.2.1, ⟨a, b, ha, hb, ?_, ?_, ?_, (wup_back _ _ _).symm⟩, ?_, fun z hz => ?_⟩
        · rw [fx.1 14 (by simp)]; exact q5
        · rw [fx.1 15 (by simp)]; exact q6
        · rw [fx.1 16 (by simp)]; exact q7
        · rw [hbk, show 37 * k = 37 * k + 0 from rfl, r7 0 (by omega)]; exact hP.2.2.1
        · rw [hbk, r7 (1 + z) (by omega)]; exact hP.2.2.2 z hz
    · rw [fx.2, q2.2, fm.2, r4]
      exact k5
