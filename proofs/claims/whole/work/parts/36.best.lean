/-! what is tried: best, drawn -/
theorem r_begin {h : tr_H} {n : Nat} {w : Nat → Int} (hP : tP h 3 n w) : ∃ h', f_X8_begin h = some h' ∧ fr [4] h h' ∧ tP h' 4 n w := by
  obtain ⟨h', j1, j2, j3, -⟩ := cpy (f := fun q => f_X8_begin_L2 q.1 q.2) (src := 3) (dst := 4) (so := 0) (off := 0) (N := 37) (by decide) h (by
    intro m h2 hm f2
    show f_X8_begin_L2 (iI m) h2 = _
    unfold f_X8_begin_L2
    rw [if_neg (by rw [iI_37, iI_le (by omega) (by omega) (by omega) (by omega)]; omega)]
    simp (disch := omega) only [tr_bd, tr_gdI, iI_ix]
    rw [iI_1, iI_add, show 0 + m = m by omega]
    rfl) (by
    intro h2 f2
    rfl)
  refine ⟨h', ?_, j2, Or.inr (Or.inr rfl), hP.2.1, ?_, fun c hc => ?_⟩
  · unfold f_X8_begin
    rw [show ((0 : Int32), h) = (iI (0 : Nat), h) from rfl, j1]
    rfl
  · exact (j3 0 (by decide)).trans hP.2.2.1
  · have := j3 (1 + c) (by omega)
    rw [show (0 : Nat) + (1 + c) = 1 + c by omega] at this
    exact this.trans (hP.2.2.2 c hc)
theorem r_sixP {h : tr_H} {n : Nat} {w : Nat → Int} {q : Nat} (hP : tP h q n w) : ∃ h', f_X8_sixtiethsOf q 63 h = some (iI (pac n w), h') ∧ mR h h' := by
  have h6 := hP.2.1.2.1
  obtain ⟨P, h', k1, k2, k3⟩ := r_sixt (mask := 63) (by decide) hP
  have e := isPace_one k3 (pac_isPace hP.2.1 (fun y hy => m63 y (by omega)))
  subst e
  exact ⟨h', k1, k2⟩
abbrev skp (how : Int) (w : Nat → Int) (c : Nat) : Prop := w c = -9 ∨ (how = 0 ∧ w c = 0)
def tri1 (how : Int) (w : Nat → Int) (c : Nat) : Nat → Int := wup w c (if how = 0 then w c - 1 else -9)
def bst (how : Int) (n : Nat) (w : Nat → Int) (c : Nat) (s : Int × Int) : Int × Int := if skp how w c then s else if pac n (tri1 how w c) < s.2 then ((10 * (c / 6) + c % 6 : Nat), pac n (tri1 how w c)) else s
def bsF (how : Int) (n : Nat) (w : Nat → Int) (m : Nat) : Int × Int := itr (bst how n w) m (-9, 1000000)
section BST
variable {how : Int} {n : Nat} {w : Nat → Int}
theorem bsF_s (m : Nat) : bsF how n w (m + 1) = bst how n w m (bsF how n w m) := rfl
theorem bsF_no {m : Nat} : ∀ d, (∀ j, m ≤ j → j < m + d → w j = -9) → bsF how n w (m + d) = bsF how n w m := by
  intro d
  induction d with
  | zero => intro _; rfl
  | succ d ih =>
    intro h
    show bst how n w (m + d) (bsF how n w (m + d)) = _
    rw [ih (fun j h1 h2 => h j h1 (by omega))]
    unfold bst
    rw [if_pos (Or.inl (h (m + d) (by omega) (by omega)))]
theorem tri1_ok (hw : okn n w) {c : Nat} (hc : c < 36) (hs : ¬ skp how w c) (hh : how = 0 ∨ how = 1) : c / 6 < n ∧ c % 6 < n ∧ okn n (tri1 how w c) ∧ ((if how = 0 then w c - 1 else -9) = -9 ∨ (0 ≤ (if how = 0 then w c - 1 else -9) ∧ (if how = 0 then w c - 1 else -9) ≤ 9)) := by
  have h6 := hw.2.1
  have h9 : w c ≠ -9 := fun q => hs (Or.inl q)
  have hlt : c / 6 < n ∧ c % 6 < n := by
    apply Classical.byContradiction
    intro q
    exact h9 ((hw.2.2 c hc).2 (by omega))
  have hv := (hw.2.2 c hc).1
  have hz : (if how = 0 then w c - 1 else -9) = -9 ∨ (0 ≤ (if how = 0 then w c - 1 else -9) ∧ (if how = 0 then w c - 1 else -9) ≤ 9) := by
    rcases hh with e | e
    · rw [if_pos e]
      have : w c ≠ 0 := fun q => hs (Or.inr ⟨e, q⟩)
      omega
    · rw [if_neg (by omega)]
      omega
  refine ⟨hlt.1, hlt.2, ?_, hz⟩
  have := okn_up hw (i := c / 6) (j := c % 6) hlt.1 hlt.2 hz
  rw [show 6 * (c / 6) + c % 6 = c by omega] at this
  exact this
theorem bsF_b (hw : okn n w) (hh : how = 0 ∨ how = 1) : ∀ m, m ≤ 36 → ((bsF how n w m).1 = -9 ∧ (bsF how n w m).2 = 1000000) ∨ ((0 ≤ (bsF how n w m).1 ∧ (bsF how n w m).1 ≤ 100) ∧ -1 ≤ (bsF how n w m).2 ∧ (bsF how n w m).2 ≤ 540) := by
  intro m
  induction m with
  | zero => intro _; exact Or.inl ⟨rfl, rfl⟩
  | succ m ih =>
    intro hm
    rw [bsF_s]
    unfold bst
    by_cases c : skp how w m
    · rw [if_pos c]; exact ih (by omega)
    · have hb := pac_b (tri1_ok hw (by omega) c hh).2.2.1
      rw [if_neg c]
      by_cases c2 : pac n (tri1 how w m) < (bsF how n w m).2
      · rw [if_pos c2]
        right
        exact ⟨by show (0 : Int) ≤ ((10 * (m / 6) + m % 6 : Nat) : Int) ∧ ((10 * (m / 6) + m % 6 : Nat) : Int) ≤ 100; omega, hb⟩
      · rw [if_neg c2]; exact ih (by omega)
/-- the class's look -/
theorem w_bestStep {H : tr_H} (hN : tN H 2 n w) (hT : tN H 4 n w) (hh : how = 0 ∨ how = 1) {f t : Nat} (hf : f < n) (ht : t < n) : ∃ H', f_X7_best_L47 (iI f) (iI how) (iI (bsF how n w (6 * f + t)).1) (iI (bsF how n w (6 * f + t)).2) (iI t) H = some (.inl (iI (bsF how n w (6 * f + t + 1)).1, iI (bsF how n w (6 * f + t + 1)).2, iI (t + 1 : Nat), H')) ∧ fr LX H H' ∧ tN H' 2 n w ∧ tN H' 4 n w := by
  have hw := hN.2.1
  have h6 := hw.2.1
  have ho := n_of hN (a := (f : Int)) (b := (t : Int)) (by omega) (by omega) (by omega) (by omega)
  rw [woI_in hf ht] at ho
  have b3 := okn_b hw (c := 6 * f + t) (by omega)
  have hbs := bsF_b (how := how) hw hh (6 * f + t) (by omega)
  rw [bsF_s]
  unfold bst
  by_cases c : skp how w (6 * f + t)
  · refine ⟨H, ?_, fr_rf _ _, hN, hT⟩
    rw [if_pos c]
    unfold f_X7_best_L47
    rw [hN.2.2.1, if_neg (by rw [iI_le (by omega) (by omega) (by omega) (by omega)]; omega), ho, tr_bn_some]
    rcases c with c | ⟨c, c2⟩
    · rw [c, if_pos (show iI (-9) = -9 from rfl)]
      unfold tr_bd
      rw [iI_1, iI_add]
      rfl
    · rw [c2, if_neg (show ¬ iI 0 = -9 by decide), c, if_pos (show iI 0 = 0 from rfl), if_pos (show iI 0 = 0 from rfl)]
      unfold tr_bd
      rw [iI_1, iI_add]
      rfl
  · obtain ⟨-, -, ok1, hz⟩ := tri1_ok hw (c := 6 * f + t) (by omega) c hh
    rw [if_neg c]
    obtain ⟨z, ez⟩ : ∃ z, z = (if how = 0 then w (6 * f + t) - 1 else -9) := ⟨_, rfl⟩
    have etri : tri1 how w (6 * f + t) = wup w (6 * f + t) z := by unfold tri1; rw [ez]
    rw [← ez] at hz
    rw [etri] at ok1 ⊢
    -- laid, looked at, laid back
    have l1 := n_lay hT (a := (f : Int)) (b := (t : Int)) z (by omega) (by omega) (by omega) (by omega)
    rw [if_pos (by omega)] at l1
    simp only [Int.toNat_natCast] at l1
    have hT1 := tN_up hT (a := f) (b := t) (v := z) hf ht hz
    have f1 : fr LX H (tr_sa H (4 + 1) (upd (H.1 (4 + 1)) (6 * f + t) (iI z))) := fr_sa _ _ (by decide)
    generalize tr_sa H (4 + 1) (upd (H.1 (4 + 1)) (6 * f + t) (iI z)) = H1 at l1 hT1 f1
    obtain ⟨H2, s1, s2⟩ := w_slow hT1
    have hT2 := tN_fr s2 (by simp) (by simp) hT1
    have l2 := n_lay hT2 (a := (f : Int)) (b := (t : Int)) (w (6 * f + t)) (by omega) (by omega) (by omega) (by omega)
    rw [if_pos (by omega)] at l2
    simp only [Int.toNat_natCast] at l2
    have hT3 := tN_up hT2 (a := f) (b := t) (v := w (6 * f + t)) hf ht (hw.2.2 _ (by omega)).1
    rw [wup_back] at hT3
    have f3 : fr LX H2 (tr_sa H2 (4 + 1) (upd (H2.1 (4 + 1)) (6 * f + t) (iI (w (6 * f + t))))) := fr_sa _ _ (by decide)
    generalize tr_sa H2 (4 + 1) (upd (H2.1 (4 + 1)) (6 * f + t) (iI (w (6 * f + t)))) = H3 at l2 hT3 f3
    have fA : fr LX H H3 := fr_tr f1 (fr_tr (fr_up s2 (by decide)) f3)
    have hb := pac_b ok1
    refine ⟨H3, ?_, fA, tN_fr fA (by decide) (by decide) hN, hT3⟩
    have hJ : f_X7_best_J112 (iI f) (iI t) H (iI (w (6 * f + t))) (iI (bsF how n w (6 * f + t)).2) (iI (bsF how n w (6 * f + t)).1) (iI z) = some (.inl (iI (if pac n (wup w (6 * f + t) z) < (bsF how n w (6 * f + t)).2 then (((10 * ((6 * f + t) / 6) + (6 * f + t) % 6 : Nat) : Int), pac n (wup w (6 * f + t) z)) else bsF how n w (6 * f + t)).1, iI (if pac n (wup w (6 * f + t) z) < (bsF how n w (6 * f + t)).2 then (((10 * ((6 * f + t) / 6) + (6 * f + t) % 6 : Nat) : Int), pac n (wup w (6 * f + t) z)) else bsF how n w (6 * f + t)).2, iI (t + 1 : Nat), H3)) := by
      unfold f_X7_best_J112
      rw [l1, tr_b2_some, s1, tr_b2_some, l2, tr_b2_some]
      by_cases c2 : pac n (wup w (6 * f + t) z) < (bsF how n w (6 * f + t)).2
      · rw [if_pos c2, if_neg (by rw [iI_le (by omega) (by omega) (by omega) (by omega)]; omega)]
        unfold tr_bd
        rw [iI_10, iI_mul, iI_add, iI_1, iI_add, show (6 * f + t) / 6 = f by omega, show (6 * f + t) % 6 = t by omega]
        rfl
      · rw [if_neg c2, if_pos (by rw [iI_le (by omega) (by omega) (by omega) (by omega)]; omega)]
        unfold tr_bd
        rw [iI_1, iI_add]
        rfl
    unfold f_X7_best_L47
    have c9 : w (6 * f + t) ≠ -9 := fun q => c (Or.inl q)
    rw [hN.2.2.1, if_neg (by rw [iI_le (by omega) (by omega) (by omega) (by omega)]; omega), ho, tr_bn_some, if_neg (show ¬ iI (w (6 * f + t)) = -9 by rw [iI_m9, iI_eq (by omega) (by omega) (by omega) (by omega)]; exact c9)]
    rcases hh with e | e
    · have c0 : w (6 * f + t) ≠ 0 := fun q => c (Or.inr ⟨e, q⟩)
      rw [if_pos (show iI how = 0 by rw [e]; rfl), if_neg (show ¬ iI (w (6 * f + t)) = 0 by rw [iI_0, iI_eq (by omega) (by omega) (by omega) (by omega)]; exact c0)]
      unfold f_X7_best_J91
      rw [if_pos (show iI how = 0 by rw [e]; rfl), iI_1, iI_sub, show w (6 * f + t) - 1 = z by rw [ez, if_pos e]]
      exact hJ
    · rw [if_neg (show ¬ iI how = 0 by rw [e]; decide)]
      unfold f_X7_best_J91
      rw [if_neg (show ¬ iI how = 0 by rw [e]; decide), show (-9 : Int32) = iI z by rw [ez, if_neg (by omega)]; rfl]
      exact hJ
theorem w_bestAll {h : tr_H} (hN : tN h 2 n w) (hh : how = 0 ∨ how = 1) : ∃ h', f_X7_best_J12 h (iI how) = some (iI (bsF how n w 36).1, h') ∧ fr LX h h' := by
  have hw := hN.2.1
  have h6 := hw.2.1
  obtain ⟨h1, a1, a2, a3⟩ := n_copy hN (j := 4) (Or.inr (Or.inl rfl)) (by decide)
  have f1 : fr LX h h1 := fr_up a2 (by decide)
  have hN1 := tN_fr f1 (by decide) (by decide) hN
  obtain ⟨r, k1, h2, k2, k3⟩ := tr_inv (f := fun q => f_X7_best_L32 (iI how) q.1 q.2.1 q.2.2.1 q.2.2.2) (fun f s => ∃ H, s = (iI (bsF how n w (6 * f)).1, iI (bsF how n w (6 * f)).2, iI f, H) ∧ fr LX h H ∧ tN H 2 n w ∧ tN H 4 n w) (fun s => ∃ H, s = (iI (bsF how n w (6 * n)).1, H) ∧ fr LX h H) (hi := n) (by
    rintro f s hf ⟨H, rfl, g1, g2, g3⟩
    obtain ⟨r2, j1, H2, j2, j3, j4, j5⟩ := tr_inv (f := fun q => f_X7_best_L47 (iI f) (iI how) q.1 q.2.1 q.2.2.1 q.2.2.2) (fun t s => ∃ H, s = (iI (bsF how n w (6 * f + t)).1, iI (bsF how n w (6 * f + t)).2, iI t, H) ∧ fr LX h H ∧ tN H 2 n w ∧ tN H 4 n w) (fun s => ∃ H, s = (iI (bsF how n w (6 * f + n)).1, iI (bsF how n w (6 * f + n)).2, H) ∧ fr LX h H ∧ tN H 2 n w ∧ tN H 4 n w) (hi := n) (by
      rintro t s ht ⟨H, rfl, g1, g2, g3⟩
      obtain ⟨H', q1, q2, q3, q4⟩ := w_bestStep g2 g3 hh hf ht
      exact ⟨_, q1, H', rfl, fr_tr g1 q2, q3, q4⟩) (by
      rintro s ⟨H, rfl, g1, g2, g3⟩
      refine ⟨_, ?_, H, rfl, g1, g2, g3⟩
      show f_X7_best_L47 (iI f) (iI how) _ _ (iI n) H = _
      unfold f_X7_best_L47
      rw [g2.2.2.1, if_pos (Int32.le_refl _)]) 0 (iI (bsF how n w (6 * f)).1, iI (bsF how n w (6 * f)).2, iI (0 : Nat), H) (by omega) ⟨H, rfl, g1, g2, g3⟩
    have erow : bsF how n w (6 * f + n) = bsF how n w (6 * (f + 1)) := by
      have := bsF_no (how := how) (n := n) (w := w) (m := 6 * f + n) (6 - n) (fun j q1 q2 => (hw.2.2 j (by omega)).2 (by omega))
      rw [show 6 * f + n + (6 - n) = 6 * (f + 1) by omega] at this
      exact this.symm
    rw [erow] at j2
    refine ⟨(iI (bsF how n w (6 * (f + 1))).1, iI (bsF how n w (6 * (f + 1))).2, iI (f + 1 : Nat), H2), ?_, H2, rfl, j3, j4, j5⟩
    show f_X7_best_L32 (iI how) _ _ (iI f) H = _
    unfold f_X7_best_L32
    rw [g2.2.2.1, if_neg (by rw [iI_le (by omega) (by omega) (by omega) (by omega)]; omega), show (iI (bsF how n w (6 * f)).1, iI (bsF how n w (6 * f)).2, (0 : Int32), H) = (iI (bsF how n w (6 * f)).1, iI (bsF how n w (6 * f)).2, iI (0 : Nat), H) from rfl, j1, tr_bn_some, j2]
    unfold f_X7_best_E167 tr_bd
    rw [iI_1, iI_add]
    rfl) (by
    rintro s ⟨H, rfl, g1, g2, g3⟩
    refine ⟨_, ?_, H, rfl, g1⟩
    show f_X7_best_L32 (iI how) _ _ (iI n) H = _
    unfold f_X7_best_L32
    rw [g2.2.2.1, if_pos (Int32.le_refl _)]) 0 (iI (bsF how n w (6 * 0)).1, iI (bsF how n w (6 * 0)).2, iI (0 : Nat), h1) (by omega) ⟨h1, rfl, f1, hN1, a3⟩
  refine ⟨h2, ?_, k3⟩
  have eend : bsF how n w (6 * n) = bsF how n w 36 := by
    have := bsF_no (how := how) (n := n) (w := w) (m := 6 * n) (36 - 6 * n) (fun j q1 q2 => (hw.2.2 j (by omega)).2 (by omega))
    rw [show 6 * n + (36 - 6 * n) = 36 by omega] at this
    exact this.symm
  unfold f_X7_best_J12
  rw [a1, tr_bn_some, show ((-9 : Int32), (1000000 : Int32), (0 : Int32), h1) = (iI (bsF how n w (6 * 0)).1, iI (bsF how n w (6 * 0)).2, iI (0 : Nat), h1) from rfl, k1, tr_bn_some, k2, eend]
  rfl
/-- the reference's look -/
theorem r_bestStep {h : tr_H} (hP : tP h 3 n w) (hh : how = 0 ∨ how = 1) {m : Nat} (hm : m < 36) {l : Int} (hl : -1 ≤ l ∧ l ≤ 540) (hle : (bsF how n w m).1 ≠ -9 → l = (bsF how n w m).2) : ∃ h' l', f_X8_best_L26 (iI how) (iI (bsF how n w m).1) (iI l) (iI m) h = some (.inl (iI (bsF how n w (m + 1)).1, iI l', iI (m + 1 : Nat), h')) ∧ gM h h' ∧ (-1 ≤ l' ∧ l' ≤ 540) ∧ ((bsF how n w (m + 1)).1 ≠ -9 → l' = (bsF how n w (m + 1)).2) := by
  have hw := hP.2.1
  have h6 := hw.2.1
  have b3 := cvn_b hw hm
  have hv := (hw.2.2 m hm).1
  have hbs := bsF_b (how := how) hw hh m (by omega)
  have hpg := hP.2.2.2 m hm
  have e1 : (1 : Int32) + iI m = iI (1 + m : Nat) := by
    rw [iI_1, iI_add]
    rfl
  have e2 : (1 : Int32) - iI how = iI (1 - how) := by rw [iI_1, iI_sub]
  rw [bsF_s]
  unfold bst
  by_cases c : skp how w m
  · refine ⟨h, l, ?_, gM_rf _, hl, by rw [if_pos c]; exact hle⟩
    rw [if_pos c]
    unfold f_X8_best_L26
    rw [if_neg (by rw [iI_36, iI_le (by omega) (by omega) (by omega) (by omega)]; omega)]
    simp only [tr_bd]
    have hcond : cvn (w m) ≤ 1 - how := by
      rcases c with c | ⟨c, c2⟩
      · rw [b3.2.2.1.mpr c]; omega
      · rw [b3.2.2.2 (by omega), c2, c]; omega
    rw [e1, tr_gdI (by omega) (by omega) (by omega), iI_ix (by omega), hpg, e2, if_pos (by rw [iI_le (by omega) (by omega) (by omega) (by omega)]; exact hcond), iI_1, iI_add]
    rfl
  · obtain ⟨hl1, hl2, ok1, hz⟩ := tri1_ok hw hm c hh
    have hm6 : 6 * (m / 6) + m % 6 = m := by omega
    obtain ⟨z, ez⟩ : ∃ z, z = (if how = 0 then w m - 1 else -9) := ⟨_, rfl⟩
    have etri : tri1 how w m = wup w m z := by unfold tri1; rw [ez]
    rw [← ez] at hz
    rw [etri] at ok1 ⊢
    have c9 : w m ≠ -9 := fun q => c (Or.inl q)
    have hw1 := b3.2.2.2 c9
    obtain ⟨h1, a1, a2, a3⟩ := r_begin hP
    have hP2 := tP_up a3 (a := m / 6) (b := m % 6) (v := z) hl1 hl2 hz
    rw [hm6] at hP2
    obtain ⟨h3, s1, s2⟩ := r_sixP hP2
    have hb := pac_b ok1
    have fA : gM h h3 := gM_tr (gM_f a2 (by decide) (by decide)) (gM_tr (gM_f (fr_si (L := [4]) _ _ _ (by simp)) (by decide) (by decide)) (gM_R s2))
    have hJ : f_X8_best_J79 (iI m) h1 (iI (bsF how n w m).1) (iI l) (iI (cvn z)) = some (.inl (iI (if pac n (wup w m z) < (bsF how n w m).2 then (((10 * (m / 6) + m % 6 : Nat) : Int), pac n (wup w m z)) else bsF how n w m).1, iI (if pac n (wup w m z) < (bsF how n w m).2 then pac n (wup w m z) else l), iI (m + 1 : Nat), h3)) := by
      unfold f_X8_best_J79
      simp only [tr_bd]
      rw [e1, tr_gdI (by omega) (by omega) (by omega), iI_ix (by omega), s1, tr_b2_some]
      have hup : f_X8_best_J104 (iI m) (iI l) h3 (iI (pac n (wup w m z))) (iI (bsF how n w m).1) = some (.inl (iI ((10 * (m / 6) + m % 6 : Nat) : Int), iI (pac n (wup w m z)), iI (m + 1 : Nat), h3)) := by
        unfold f_X8_best_J104 f_X8_best_J109
        rw [if_neg n10]
        unfold f_X8_best_J134
        rw [if_neg n10]
        simp only [tr_bd]
        have d1 := iI_rem (a := (m : Int)) (b := 6) (by omega) (by omega) (by omega) (by omega)
        have d2 := iI_div (a := (m : Int)) (b := 6) (by omega) (by omega) (by omega) (by omega)
        rw [iI_6, d1, d2, iI_10, iI_mul, iI_add, iI_1, iI_add]
        have d3 : (10 : Int) * ((m : Int) / 6) + (m : Int) % 6 = ((10 * (m / 6) + m % 6 : Nat) : Int) := by omega
        rw [d3]
        rfl
      rcases hbs with ⟨q1, q2⟩ | ⟨⟨q1, q2⟩, q3, q4⟩
      · rw [if_pos (show iI (bsF how n w m).1 = -9 by rw [q1]; rfl), hup, if_pos (show pac n (wup w m z) < (bsF how n w m).2 by omega), if_pos (show pac n (wup w m z) < (bsF how n w m).2 by omega)]
      · rw [if_neg (show ¬ iI (bsF how n w m).1 = -9 by rw [iI_m9, iI_eq (by omega) (by omega) (by omega) (by omega)]; omega)]
        have hl3 := hle (by omega)
        by_cases c2 : pac n (wup w m z) < (bsF how n w m).2
        · rw [if_neg (show ¬ iI l ≤ iI (pac n (wup w m z)) by rw [iI_le (by omega) (by omega) (by omega) (by omega)]; omega), hup, if_pos c2, if_pos c2]
        · rw [if_pos (show iI l ≤ iI (pac n (wup w m z)) by rw [iI_le (by omega) (by omega) (by omega) (by omega)]; omega), if_neg c2, if_neg c2]
          unfold f_X8_best_J109
          rw [if_pos rfl]
          unfold f_X8_best_J134
          rw [if_pos rfl]
          simp only [tr_bd]
          rw [iI_1, iI_add]
          rfl
    refine ⟨h3, if pac n (wup w m z) < (bsF how n w m).2 then pac n (wup w m z) else l, ?_, fA, ?_, ?_⟩
    · rw [if_neg c]
      have hcond : ¬ cvn (w m) ≤ 1 - how := by
        rcases hh with e | e
        · have : w m ≠ 0 := fun q => c (Or.inr ⟨e, q⟩)
          omega
        · omega
      unfold f_X8_best_L26
      rw [if_neg (by rw [iI_36, iI_le (by omega) (by omega) (by omega) (by omega)]; omega)]
      simp only [tr_bd]
      rw [e1, tr_gdI (by omega) (by omega) (by omega), iI_ix (by omega), hpg, e2, if_neg (by rw [iI_le (by omega) (by omega) (by omega) (by omega)]; exact hcond), a1, tr_bn_some]
      rcases hh with e | e
      · rw [if_pos (show iI how = 0 by rw [e]; rfl), tr_gdI (by omega) (by omega) (by omega), a3.2.2.2 m hm, iI_1, iI_sub, show cvn (w m) - 1 = cvn z by rw [hw1, cvn_nn (show 0 ≤ z by rw [ez, if_pos e]; have : w m ≠ 0 := fun q => c (Or.inr ⟨e, q⟩); omega), ez, if_pos e]; omega]
        exact hJ
      · rw [if_neg (show ¬ iI how = 0 by rw [e]; decide), show (0 : Int32) = iI (cvn z) by rw [ez, if_neg (by omega)]; rfl]
        exact hJ
    · split <;> omega
    · rw [if_neg c]
      by_cases c2 : pac n (wup w m z) < (bsF how n w m).2
      · rw [if_pos c2, if_pos c2]
        intro _
        rfl
      · rw [if_neg c2, if_neg c2]
        exact hle
end BST
theorem s_best : ∀ (v0 : Int32) (hx hm : tr_H), Rl hx hm → ∃ (r0 : Int32) (gx gm : tr_H), f_X7_best v0 hx = some (r0, gx) ∧ f_X8_best v0 hm = some (r0, gm) ∧ Rl gx gm := by
  intro v0 hx hm hR
  obtain ⟨how, hv, rfl⟩ := ex_iI v0
  have hR0 := Rl_0 hR
  obtain ⟨m0, em0⟩ : ∃ m0, m0 = tr_si hm 0 0 0 := ⟨_, rfl⟩
  rw [← em0] at hR0
  obtain ⟨n, w, hN, hP⟩ := Rl_net hR0
  have hin := r_inv hv 0 1
  rw [i64_0, i64_1] at hin
  unfold f_X7_best f_X8_best
  simp only [tr_bd]
  rw [← em0, hin, tr_bn_some]
  by_cases c : 0 ≤ how ∧ how ≤ 1
  · have hh : how = 0 ∨ how = 1 := by omega
    obtain ⟨x1, a1, a2⟩ := w_bestAll hN hh
    obtain ⟨r, k1, m1, k2, k3⟩ := tr_inv (f := fun q => f_X8_best_L26 (iI how) q.1 q.2.1 q.2.2.1 q.2.2.2) (fun m s => ∃ h1 l, s = (iI (bsF how n w m).1, iI l, iI m, h1) ∧ gM m0 h1 ∧ (-1 ≤ l ∧ l ≤ 540) ∧ ((bsF how n w m).1 ≠ -9 → l = (bsF how n w m).2)) (fun s => ∃ h1, s = (iI (bsF how n w 36).1, h1) ∧ gM m0 h1) (hi := 36) (by
      rintro m s hm36 ⟨h1, l, rfl, g1, g2, g3⟩
      obtain ⟨h', l', q1, q2, q3, q4⟩ := r_bestStep (tP_M g1 hP) hh hm36 g2 g3
      exact ⟨_, q1, h', l', rfl, gM_tr g1 q2, q3, q4⟩) (by
      rintro s ⟨h1, l, rfl, g1, g2, g3⟩
      exact ⟨_, rfl, h1, rfl, g1⟩) 0 (iI (-9), iI 0, iI (0 : Nat), m0) (by omega) ⟨m0, 0, rfl, gM_rf _, by omega, fun q => absurd rfl q⟩
    have hx12 : (if iI how = 0 then f_X7_best_J12 hx (iI how) else if iI how = 1 then f_X7_best_J12 hx (iI how) else some (-2, hx)) = some (iI (bsF how n w 36).1, x1) := by
      rcases hh with e | e
      · rw [if_pos (show iI how = 0 by rw [e]; rfl)]; exact a1
      · rw [if_neg (show ¬ iI how = 0 by rw [e]; decide), if_pos (show iI how = 1 by rw [e]; rfl)]; exact a1
    rw [hx12, if_pos c, if_neg n10, show ((-9 : Int32), (0 : Int32), (0 : Int32), m0) = (iI (-9), iI 0, iI (0 : Nat), m0) from rfl, k1, tr_bn_some, k2]
    exact ⟨_, _, _, rfl, rfl, Rl_fr a2 k3 hR0⟩
  · rw [if_neg c, if_pos rfl, if_neg (show ¬ iI how = 0 by rw [iI_0, iI_eq (by omega) (by omega) (by omega) (by omega)]; omega), if_neg (show ¬ iI how = 1 by rw [iI_1, iI_eq (by omega) (by omega) (by omega) (by omega)]; omega)]
    exact ⟨_, _, _, rfl, rfl, hR0⟩
/-! drawn by the seed -/
theorem drw (x : Int64) : ∃ v : Nat, v < 2147483648 ∧ (((x.toUInt64 >>> ((33 : Int32).toInt64.toUInt64 &&& Int64.toUInt64 63)).toInt64 : Int64).toInt32) = iI (v : Int) := by
  obtain ⟨k, hk, rfl⟩ := wb_of x
  refine ⟨k / 2 ^ 33, ?_, ?_⟩
  · rw [Nat.div_lt_iff_lt_mul (by decide)]
    exact Nat.lt_of_lt_of_le hk (by decide)
  · have := wb_shr (n := k) (k := 33) hk (by decide)
    rw [show (33 : Int32) = nI 33 from rfl, this, lN_i, iI_nat]
theorem Rl_sl {hx hm : tr_H} (v : Int64) (h : Rl hx hm) : Rl (tr_sl hx 0 12 v) (tr_sl hm 0 16 v) := by
  obtain ⟨k1, k2, k3, k4, k5⟩ := h
  refine ⟨k1, k2, k3, k4, ?_⟩
  rw [sl_s, sl_s]
theorem tN_sl {h : tr_H} {i n c k : Nat} {w : Nat → Int} {v : Int64} (hN : tN h i n w) : tN (tr_sl h c k v) i n w := hN
theorem tP_sl {h : tr_H} {i n c k : Nat} {w : Nat → Int} {v : Int64} (hP : tP h i n w) : tP (tr_sl h c k v) i n w := hP
theorem dv60 {P S B : Int} (h1 : 1 ≤ B) (h2 : B ≤ 6) (h : 60 * S = P * B) (h0 : 0 ≤ P) : S / B = P / 60 := by
  rcases (show B = 1 ∨ B = 2 ∨ B = 3 ∨ B = 4 ∨ B = 5 ∨ B = 6 by omega) with rfl | rfl | rfl | rfl | rfl | rfl <;> omega
theorem drawn_lay {hx1 hm1 : tr_H} {n : Nat} {w : Nat → Int} (hN1 : tN hx1 4 n w) (hP1 : tP hm1 4 n w) {a b q : Nat} (ha : a < 6) (hb : b < 6) (hq : q < 11) {z : Int} (ez : z = if q ≤ 9 then (q : Int) else -9) : ∃ w' x2 m2, (∃ u, f_X2_lay 4 (iI a) (iI b) (iI z) hx1 = some (u, x2)) ∧ f_X8_draw (iI a) (iI b) (iI q) hm1 = some m2 ∧ fr LX hx1 x2 ∧ gM hm1 m2 ∧ tN x2 4 n w' ∧ tP m2 4 n w' := by
  have h6 := hN1.2.1.2.1
  have hz : z = -9 ∨ (0 ≤ z ∧ z ≤ 9) := by rw [ez]; split <;> omega
  have l1 := n_lay hN1 (a := (a : Int)) (b := (b : Int)) z (by omega) (by omega) (by omega) (by omega)
  have e0 : (0 : Int32).toNatClampNeg = 0 := rfl
  by_cases c : a < n ∧ b < n
  · rw [if_pos (by omega)] at l1
    simp only [Int.toNat_natCast] at l1
    refine ⟨_, _, tr_si hm1 4 (1 + (6 * a + b)) (iI (cvn z)), ⟨_, l1⟩, ?_, fr_sa _ _ (by decide), gM_f (fr_si (L := [4]) _ _ _ (by simp)) (by decide) (by decide), tN_up hN1 c.1 c.2 hz, tP_up hP1 c.1 c.2 hz⟩
    unfold f_X8_draw
    simp only [tr_bd]
    rw [e0, hP1.2.2.1, if_neg (by rw [iI_le (by omega) (by omega) (by omega) (by omega)]; omega), if_neg (by rw [iI_le (by omega) (by omega) (by omega) (by omega)]; omega), ix37, tr_gdI (by omega) (by omega) (by omega), tr_gdI (by omega) (by omega) (by omega), iI_ix (by omega)]
    by_cases c2 : q ≤ 9
    · rw [if_neg (by rw [iI_10, iI_eq (by omega) (by omega) (by omega) (by omega)]; omega), show cvn z = (q : Int) + 1 by rw [ez, if_pos c2, cvn_nn (by omega)], iI_1, iI_add]
    · rw [if_pos (by rw [iI_10, iI_eq (by omega) (by omega) (by omega) (by omega)]; omega), show cvn z = 0 by rw [ez, if_neg c2]; rfl, iI_0]
  · rw [if_neg (by omega)] at l1
    refine ⟨w, hx1, hm1, ⟨_, l1⟩, ?_, fr_rf _ _, gM_rf _, hN1, hP1⟩
    unfold f_X8_draw
    rw [e0, hP1.2.2.1]
    by_cases c2 : a < n
    · rw [if_neg (by rw [iI_le (by omega) (by omega) (by omega) (by omega)]; omega), if_pos (by rw [iI_le (by omega) (by omega) (by omega) (by omega)]; omega)]
    · rw [if_pos (by rw [iI_le (by omega) (by omega) (by omega) (by omega)]; omega)]
theorem drawn_fig {v : Nat} (hv : v < 2147483648) : ∃ a b q : Nat, a < 6 ∧ b < 6 ∧ q < 11 ∧ iI (v : Int) - iI (v : Int) / iI 6 * iI 6 = iI a ∧ iI (v : Int) / iI 8 - iI (v : Int) / iI 8 / iI 6 * iI 6 = iI b ∧ iI (v : Int) / iI 64 - iI (v : Int) / iI 64 / iI 11 * iI 11 = iI q := by
  refine ⟨v % 6, v / 8 % 6, v / 64 % 11, Nat.mod_lt _ (by decide), Nat.mod_lt _ (by decide), Nat.mod_lt _ (by decide), ?_, ?_, ?_⟩
  · rw [iI_rem (by omega) (by omega) (by omega) (by omega)]
    rfl
  · rw [iI_div (by omega) (by omega) (by omega) (by omega), iI_rem (by omega) (by omega) (by omega) (by omega)]
    rfl
  · rw [iI_div (by omega) (by omega) (by omega) (by omega), iI_rem (by omega) (by omega) (by omega) (by omega)]
    rfl
theorem drawn_core {hx1 hm1 : tr_H} {n : Nat} {w : Nat → Int} (hR1 : Rl hx1 hm1) (hN1 : tN hx1 4 n w) (hP1 : tP hm1 4 n w) {v : Nat} (hv : v < 2147483648) (T i : Int32) : ∃ T' gx gm w', (if (iI (v : Int) / 64 - iI (v : Int) / 64 / 11 * 11) ≤ 9 then f_X7_drawn_J101 (iI (v : Int)) hx1 T i (iI (v : Int) / 64 - iI (v : Int) / 64 / 11 * 11) else f_X7_drawn_J101 (iI (v : Int)) hx1 T i (-9)) = some (.inl (T', i + 1, gx)) ∧ (tr_bn (f_X8_draw (iI (v : Int) - iI (v : Int) / 6 * 6) (iI (v : Int) / 8 - iI (v : Int) / 8 / 6 * 6) (iI (v : Int) / 64 - iI (v : Int) / 64 / 11 * 11) hm1) fun th16 =>
  tr_bn (f_X8_find 4 th16) fun th18 =>
  if (th18.1 0 19) = 0 then (some (.inl (T + 0, i + 1, th18))) else (tr_nz (th18.1 0 19) <| some (.inl (T + ((th18.1 0 18) / (th18.1 0 19)), i + 1, th18)) : Option ((Int32 × Int32 × tr_H) ⊕ (Int32 × tr_H)))) = some (.inl (T', i + 1, gm)) ∧ Rl gx gm ∧ tN gx 4 n w' ∧ tP gm 4 n w' := by
  have h6 := hN1.2.1.2.1
  obtain ⟨a, b, q, ha, hb', hq, a1, a3, a5⟩ := drawn_fig hv
  obtain ⟨z, ez⟩ : ∃ z : Int, z = if q ≤ 9 then (q : Int) else -9 := ⟨_, rfl⟩
  have hz : z = -9 ∨ (0 ≤ z ∧ z ≤ 9) := by rw [ez]; split <;> omega
  obtain ⟨w', x2, m2, ⟨u, l1⟩, l2, f1, f2, hN2, hP2⟩ := drawn_lay hN1 hP1 ha hb' hq ez
  obtain ⟨x3, s1, s2⟩ := w_slow hN2
  obtain ⟨S, B, m3, b1, b2, -, b4, b5, b6⟩ := r_find hP2
  have hb := pac_b hN2.2.1
  have hR3 := Rl_fr (fr_tr f1 (fr_up s2 (by decide))) (gM_tr f2 (gM_R b2)) hR1
  have hN3 := tN_fr s2 (by simp) (by simp) hN2
  have hP3 := tP_R b2 hP2
  have hJ : f_X7_drawn_J101 (iI (v : Int)) hx1 T i (iI z) = some (.inl (T + iI (max 0 (pac n w') / 60), i + 1, x3)) := by
    unfold f_X7_drawn_J101
    simp only [tr_bd]
    rw [iI_6, a1, iI_8, a3, l1, tr_b2_some, s1, tr_b2_some, iI_0, tr_maxI (by omega) (by omega) (by omega) (by omega), iI_60, iI_div (by omega) (by omega) (by omega) (by omega)]
  refine ⟨T + iI (max 0 (pac n w') / 60), x3, m3, w', ?_, ?_, hR3, hN3, hP3⟩
  · rw [iI_64, iI_11, a5]
    by_cases c2 : q ≤ 9
    · rw [if_pos (by rw [iI_9, iI_le (by omega) (by omega) (by omega) (by omega)]; omega), show ((q : Nat) : Int) = z by rw [ez, if_pos c2]]
      exact hJ
    · rw [if_neg (by rw [iI_9, iI_le (by omega) (by omega) (by omega) (by omega)]; omega), show (-9 : Int32) = iI z by rw [ez, if_neg c2]; rfl]
      exact hJ
  · rw [iI_6, a1, iI_8, a3, iI_64, iI_11, a5, l2, tr_bn_some, b1, tr_bn_some, b5]
    rcases b6 with ⟨c1, c2⟩ | ⟨c1, c2, c3, c4, c5, c6, c7⟩
    · rw [c2, if_pos (show iI 0 = 0 from rfl), c1, show max 0 (-1 : Int) / 60 = 0 from by decide, iI_0]
    · rw [if_neg (show ¬ iI B = 0 by rw [iI_0, iI_eq (by omega) (by omega) (by omega) (by omega)]; omega), tr_nzI (by omega) (by omega) (by omega), b4, iI_div (by omega) (by omega) (by omega) (by omega), dv60 c3 c4 c7 c1, show max 0 (pac n w') = pac n w' by omega]
