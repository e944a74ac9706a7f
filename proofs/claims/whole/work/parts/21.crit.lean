/-! critical waits, on both sides -/
def onR (n : Nat) (w : Nat → Int) (a b : Nat) : Prop := ∃ x l, ring (eP (eB n w)) x l ∧ (a, b) ∈ edg x (l ++ [x])
def crR (n : Nat) (w : Nat → Int) (a b : Nat) : Prop := ∃ x l, ring (eP (eB n w)) x l ∧ (a, b) ∈ edg x (l ++ [x]) ∧ 60 * wsm (wN w) x (l ++ [x]) = pac n w * (l.length + 1 : Nat)
theorem onR_ed {n : Nat} {w : Nat → Int} {a b : Nat} (h : onR n w a b) : eP (eB n w) a b := by
  obtain ⟨x, l, h1, h2⟩ := h
  exact (edg_chn _ _ h1.2 _ h2).1
theorem crR_on {n : Nat} {w : Nat → Int} {a b : Nat} (h : crR n w a b) : onR n w a b := by
  obtain ⟨x, l, h1, h2, -⟩ := h
  exact ⟨x, l, h1, h2⟩
theorem FW_on {n : Nat} {w : Nat → Int} (hw : okn n w) {a b : Nat} (he : eP (eB n w) a b) : FW n w (pac n w) n b a ≠ NOW ↔ onR n w a b := (FW_ring hw (pac_noGain hw) he).1
theorem FW_cr {n : Nat} {w : Nat → Int} (hw : okn n w) {a b : Nat} (he : eP (eB n w) a b) : (FW n w (pac n w) n b a ≠ NOW ∧ rdw w (pac n w) a b + FW n w (pac n w) n b a = 0) ↔ crR n w a b := by
  have h := FW_ring hw (pac_noGain hw) he
  have e : ∀ x l, wsm (rdw w (pac n w)) x (l ++ [x]) = 0 ↔ 60 * wsm (wN w) x (l ++ [x]) = pac n w * (l.length + 1 : Nat) := by
    intro x l
    unfold rdw
    rw [wsm_red, List.length_append, List.length_singleton]
    omega
  constructor
  · rintro ⟨h1, h2⟩
    obtain ⟨x, l, r1, r2, r3⟩ := (h.2 h1).mp h2
    exact ⟨x, l, r1, r2, (e x l).mp r3⟩
  · rintro ⟨x, l, r1, r2, r3⟩
    have h1 := h.1.mpr ⟨x, l, r1, r2⟩
    exact ⟨h1, (h.2 h1).mpr ⟨x, l, r1, r2, (e x l).mpr r3⟩⟩
/-- a heap in which the gains lie -/
def gainsH (H : tr_H) (i n : Nat) (w : Nat → Int) : Prop := tN H i n w ∧ H.1 21 2 = iI (pac n w) ∧ ∀ a b, a < n → b < n → H.1 23 (6 * a + b) = iI (FW n w (pac n w) n a b)
theorem w_comp {h : tr_H} {i n : Nat} {w : Nat → Int} (hN : tN h i n w) : ∃ f g, f_X6_compare i h = some (tr_sa (tr_si (tr_sa h 22 f) 21 2 (iI (pac n w))) 23 g) ∧ gainsH (tr_sa (tr_si (tr_sa h 22 f) 21 2 (iI (pac n w))) 23 g) i n w := by
  obtain ⟨f, g, h1, h2⟩ := w_compare hN
  have hi := hN.1
  refine ⟨f, g, h1, ?_, ?_, ?_⟩
  · refine tN_ne ?_ g (by unfold netI at hi; omega) (by unfold netI at hi; omega)
    unfold tr_si
    refine tN_ne ?_ _ (by unfold netI at hi; omega) (by unfold netI at hi; omega)
    exact tN_ne hN f (by unfold netI at hi; omega) (by unfold netI at hi; omega)
  · rw [tr_sa_ne _ _ (by decide), si_s]
  · intro a b ha hb
    rw [tr_sa_at]
    exact h2 a b ha hb
theorem w_comesBack {H : tr_H} {i n : Nat} {w : Nat → Int} (hH : gainsH H i n w) {a b : Nat} (he : eP (eB n w) a b) : (onR n w a b → f_X6_comesBack (iI a) (iI b) H = some 1) ∧ (¬ onR n w a b → f_X6_comesBack (iI a) (iI b) H = some 0) := by
  have hw := hH.1.2.1
  have h6 := hw.2.1
  have hab := eB_b a b he
  have g := hH.2.2 b a hab.2 hab.1
  have bb := FW_b hw (pac_noGain hw) (k := n) (Nat.le_refl _) hab.2 hab.1
  have ho := FW_on hw he
  have n1 : ((b : Int) * 6 + (a : Int)).toNat = 6 * b + a := by omega
  unfold f_X6_comesBack
  unfold NOW at bb ho
  constructor
  · intro q
    have q2 := ho.mpr q
    simp (disch := omega) only [iI_0, iI_1, iI_2, iI_3, iI_4, iI_5, iI_6, iI_7, iI_8, iI_9, iI_10, iI_11, iI_12, iI_14, iI_20, iI_30, iI_31, iI_36, iI_37, iI_40, iI_48, iI_60, iI_63, iI_64, iI_78, iI_100, iI_255, iI_481, iI_1000000, iI_m1, iI_m2, iI_m3, iI_m4, iI_m9, iI_m1000000, iI_add, iI_sub, iI_mul, iI_neg, iI_lt, iI_le, iI_eq, iI_cl, tr_bd, tr_bn_some, tr_b2_some, tr_gdI, tr_nzI, if_pos, if_neg, ↓reduceIte, n1, g]
  · intro q
    have q2 : FW n w (pac n w) n b a = -1000000 := by
      apply Classical.byContradiction
      intro q3
      exact q (ho.mp q3)
    rw [q2] at g
    simp (disch := omega) only [iI_0, iI_1, iI_2, iI_3, iI_4, iI_5, iI_6, iI_7, iI_8, iI_9, iI_10, iI_11, iI_12, iI_14, iI_20, iI_30, iI_31, iI_36, iI_37, iI_40, iI_48, iI_60, iI_63, iI_64, iI_78, iI_100, iI_255, iI_481, iI_1000000, iI_m1, iI_m2, iI_m3, iI_m4, iI_m9, iI_m1000000, iI_add, iI_sub, iI_mul, iI_neg, iI_lt, iI_le, iI_eq, iI_cl, tr_bd, tr_bn_some, tr_b2_some, tr_gdI, tr_nzI, if_pos, if_neg, ↓reduceIte, n1, g]
theorem w_isCritical {H : tr_H} {i n : Nat} {w : Nat → Int} (hH : gainsH H i n w) {a b : Nat} (ha : a < 10) (hb : b < 10) : (crR n w a b → f_X6_isCritical i (iI a) (iI b) H = some 1) ∧ (¬ crR n w a b → f_X6_isCritical i (iI a) (iI b) H = some 0) := by
  have hw := hH.1.2.1
  have h6 := hw.2.1
  have ho := n_of hH.1 (a := (a : Int)) (b := (b : Int)) (by omega) (by omega) (by omega) (by omega)
  unfold f_X6_isCritical
  rw [ho, tr_bn_some]
  by_cases he : eP (eB n w) a b
  · have hab := eB_b a b he
    have hne : w (6 * a + b) ≠ -9 := by simp [eP, eB] at he; exact he.2.2
    have b1 := okn_b hw (c := 6 * a + b) (by omega)
    have g := hH.2.2 b a hab.2 hab.1
    have bb := FW_b hw (pac_noGain hw) (k := n) (Nat.le_refl _) hab.2 hab.1
    have hg := w_gainOf hH.1 hH.2.1 hab.1 hab.2
    rw [if_neg hne] at hg
    have hc := FW_cr hw he
    have hcb := w_comesBack hH he
    have hpb := pac_b hw
    have hon := FW_on hw he
    have n1 : ((b : Int) * 6 + (a : Int)).toNat = 6 * b + a := by omega
    rw [woI_in hab.1 hab.2, if_neg (by rw [iI_m9, iI_eq (by omega) (by omega) (by omega) (by omega)]; exact hne)]
    unfold rdw wN at hc
    by_cases co : onR n w a b
    · rw [hcb.1 co, tr_bn_some, if_neg (show ¬ (1 : Int32) = 0 by decide), hg, tr_bn_some]
      have q1 := hon.mpr co
      have bb2 := bb.resolve_left q1
      constructor
      · intro q
        have q2 := (hc.mpr q).2
        simp (disch := omega) only [iI_0, iI_1, iI_2, iI_3, iI_4, iI_5, iI_6, iI_7, iI_8, iI_9, iI_10, iI_11, iI_12, iI_14, iI_20, iI_30, iI_31, iI_36, iI_37, iI_40, iI_48, iI_60, iI_63, iI_64, iI_78, iI_100, iI_255, iI_481, iI_1000000, iI_m1, iI_m2, iI_m3, iI_m4, iI_m9, iI_m1000000, iI_add, iI_sub, iI_mul, iI_neg, iI_lt, iI_le, iI_eq, iI_cl, tr_bd, tr_bn_some, tr_b2_some, tr_gdI, tr_nzI, if_pos, if_neg, ↓reduceIte, n1, g]
      · intro q
        have q2 : ¬ 60 * w (6 * a + b) - pac n w + FW n w (pac n w) n b a = 0 := fun z => q (hc.mp ⟨q1, z⟩)
        simp (disch := omega) only [iI_0, iI_1, iI_2, iI_3, iI_4, iI_5, iI_6, iI_7, iI_8, iI_9, iI_10, iI_11, iI_12, iI_14, iI_20, iI_30, iI_31, iI_36, iI_37, iI_40, iI_48, iI_60, iI_63, iI_64, iI_78, iI_100, iI_255, iI_481, iI_1000000, iI_m1, iI_m2, iI_m3, iI_m4, iI_m9, iI_m1000000, iI_add, iI_sub, iI_mul, iI_neg, iI_lt, iI_le, iI_eq, iI_cl, tr_bd, tr_bn_some, tr_b2_some, tr_gdI, tr_nzI, if_pos, if_neg, ↓reduceIte, n1, g]
    · rw [hcb.2 co, tr_bn_some, if_pos rfl]
      exact ⟨fun q => absurd (crR_on q) co, fun _ => rfl⟩
  · have e : woI n w a b = -9 := by
      unfold woI
      by_cases c : (0 : Int) ≤ a ∧ (a : Int) < n ∧ (0 : Int) ≤ b ∧ (b : Int) < n
      · rw [if_pos c]
        simp only [Int.toNat_natCast]
        apply Classical.byContradiction
        intro q
        apply he
        simp [eP, eB]
        exact ⟨by omega, by omega, q⟩
      · rw [if_neg c]
    rw [e, if_pos (show iI (-9) = -9 from rfl)]
    exact ⟨fun q => absurd (onR_ed (crR_on q)) he, fun _ => rfl⟩
/-- the reference's bits -/
theorem rF_bits {h : tr_H} {n : Nat} {w : Nat → Int} (hw : okn n w) (hF : rF h w (ringsL (eB n w) n (fun k => (63 : Nat).testBit k))) : ∃ (rwt cw cd : Nat), h.2 0 20 = lN cw ∧ h.1 0 21 = nI cd ∧ h.2 0 22 = lN rwt ∧ rwt < 2 ^ 36 ∧ cw < 2 ^ 36 ∧ cd < 2 ^ 6 ∧ (∀ a b, a < 6 → b < 6 → (rwt.testBit (6 * a + b) = true ↔ onR n w a b)) ∧ (∀ a b, a < 6 → b < 6 → (cw.testBit (6 * a + b) = true ↔ crR n w a b)) ∧ (∀ a, cd.testBit a = true ↔ ∃ b, crR n w a b) := by
  have h6 := hw.2.1
  obtain ⟨-, S, B, rwt, cw, cd, f2, f3, f4, f5, f6, f7, f8, f9⟩ := id hF
  -- a bit of a ring's waits
  have hE : ∀ (q : Nat × List Nat), q ∈ ringsL (eB n w) n (fun k => (63 : Nat).testBit k) → ∀ k, hasE q k → k < 36 ∧ ∀ a b, a < 6 → b < 6 → k = 6 * a + b → (a, b) ∈ edg q.1 (q.2 ++ [q.1]) := by
    rintro ⟨x, l⟩ hq k ⟨p, p1, p2⟩
    have r := (mem_ringsL.mp hq).1
    have pl := eB_b _ _ (edg_chn _ _ r.2 _ p1).1
    refine ⟨by omega, fun a b ha hb e => ?_⟩
    have e1 : p = (a, b) := Prod.ext (by show p.1 = a; omega) (by show p.2 = b; omega)
    rw [← e1]
    exact p1
  have hin : ∀ x l, ring (eP (eB n w)) x l → ∃ x' l', (x', l') ∈ ringsL (eB n w) n (fun k => (63 : Nat).testBit k) ∧ l'.length = l.length ∧ wsm (wN w) x' (l' ++ [x']) = wsm (wN w) x (l ++ [x]) ∧ (∀ p, p ∈ edg x' (l' ++ [x']) ↔ p ∈ edg x (l ++ [x])) ∧ ∀ y, y ∈ x' :: l' ↔ y ∈ x :: l := fun x l hr => ring_in hr (fun y hy => ⟨ring_lt hr y hy, m63 y (by have := ring_lt hr y hy; omega)⟩) (wN w)
  have hr1 : ∀ a b, a < 6 → b < 6 → (rwt.testBit (6 * a + b) = true ↔ onR n w a b) := by
    intro a b ha hb
    rw [f8]
    constructor
    · rintro ⟨⟨x, l⟩, q1, q2⟩
      exact ⟨x, l, (mem_ringsL.mp q1).1, (hE _ q1 _ q2).2 a b ha hb rfl⟩
    · rintro ⟨x, l, r1, r2⟩
      obtain ⟨x', l', i1, -, -, i4, -⟩ := hin x l r1
      exact ⟨(x', l'), i1, (a, b), (i4 _).mpr r2, rfl⟩
  have hr2 : rwt < 2 ^ 36 := Nat.lt_pow_two_of_testBit _ (fun k hk => by
    apply Classical.byContradiction
    intro q
    have q2 : rwt.testBit k = true := by simpa using q
    obtain ⟨z, z1, z2⟩ := (f8 k).mp q2
    have := (hE z z1 k z2).1
    omega)
  -- where the mean is the greatest
  obtain ⟨P, S', B', g1, g2, g3, g4⟩ := rF_pace hw hF
  have eP' := isPace_one g1 (pac_isPace hw (fun y hy => m63 y (by omega)))
  subst eP'
  have eS : iI S = iI S' := f2.symm.trans g2
  have eB' : iI B = iI B' := f3.symm.trans g3
  rcases f9 with ⟨c1, c2, c3, c4⟩ | ⟨c1, c2, c3, c4, c5⟩
  · -- no ring at all
    have no : ∀ x l, ¬ ring (eP (eB n w)) x l := by
      intro x l hr
      obtain ⟨x', l', i1, -⟩ := hin x l hr
      rw [c1] at i1
      cases i1
    refine ⟨rwt, cw, cd, f4, f5, f6, hr2, by rw [c3]; decide, by rw [c4]; decide, hr1, ?_, ?_⟩
    · intro a b _ _
      rw [c3]
      constructor
      · intro q; simp at q
      · rintro ⟨x, l, r1, -⟩; exact absurd r1 (no x l)
    · intro a
      rw [c4]
      constructor
      · intro q; simp at q
      · rintro ⟨b, x, l, r1, -⟩; exact absurd r1 (no x l)
  · rcases g4 with ⟨d1, d2⟩ | ⟨d1, d2, d3, d4, d5, d6, d7⟩
    · rw [d2] at eB'
      have : B = 0 := by
        have q := eB'
        rw [iI_eq (by omega) (by omega) (by omega) (by omega)] at q
        exact q
      omega
    · have e1 : S = S' := by
        have q := eS
        rw [iI_eq (by omega) (by omega) (by omega) (by omega)] at q
        exact q
      have e2 : B = B' := by
        have q := eB'
        rw [iI_eq (by omega) (by omega) (by omega) (by omega)] at q
        exact q
      subst e1; subst e2
      have hm : ∀ (s L : Int), s * B = S * L ↔ 60 * s = pac n w * L := by
        intro s L
        constructor
        · intro q
          have k1 : 60 * s * B = pac n w * L * B := by
            rw [Int.mul_assoc, q, ← Int.mul_assoc, d7, Int.mul_assoc, Int.mul_comm B L, ← Int.mul_assoc]
          exact Int.eq_of_mul_eq_mul_right (by omega) k1
        · intro q
          have k1 : 60 * (s * B) = 60 * (S * L) := by
            rw [← Int.mul_assoc, q, ← Int.mul_assoc, d7, Int.mul_assoc, Int.mul_comm L B, ← Int.mul_assoc]
          omega
      have hc1 : ∀ a b, a < 6 → b < 6 → (cw.testBit (6 * a + b) = true ↔ crR n w a b) := by
        intro a b ha hb
        rw [c4]
        constructor
        · rintro ⟨⟨x, l⟩, q1, q2, q3⟩
          exact ⟨x, l, (mem_ringsL.mp q1).1, (hE _ q1 _ q3).2 a b ha hb rfl, (hm _ _).mp q2⟩
        · rintro ⟨x, l, r1, r2, r3⟩
          obtain ⟨x', l', i1, i2, i3, i4, -⟩ := hin x l r1
          refine ⟨(x', l'), i1, (hm _ _).mpr ?_, (a, b), (i4 _).mpr r2, rfl⟩
          show 60 * wsm (wN w) x' (l' ++ [x']) = pac n w * (l'.length + 1 : Nat)
          rw [i3, i2]
          exact r3
      refine ⟨rwt, cw, cd, f4, f5, f6, hr2, ?_, ?_, hr1, hc1, ?_⟩
      · exact Nat.lt_pow_two_of_testBit _ (fun k hk => by
          apply Classical.byContradiction
          intro q
          have q2 : cw.testBit k = true := by simpa using q
          obtain ⟨z, z1, -, z2⟩ := (c4 k).mp q2
          have := (hE z z1 k z2).1
          omega)
      · exact Nat.lt_pow_two_of_testBit _ (fun k hk => by
          apply Classical.byContradiction
          intro q
          have q2 : cd.testBit k = true := by simpa using q
          obtain ⟨⟨x, l⟩, z1, -, z2⟩ := (c5 k).mp q2
          have := ring_lt (mem_ringsL.mp z1).1 k z2
          omega)
      · intro a
        rw [c5]
        constructor
        · rintro ⟨⟨x, l⟩, q1, q2, q3⟩
          have r := (mem_ringsL.mp q1).1
          -- a departure of a ring has a wait in it
          have hex : ∃ b, (a, b) ∈ edg x (l ++ [x]) := by
            have q3' : a ∈ x :: l := q3
            obtain ⟨k, k1, k2⟩ := mem_gl q3'
            have := (edg_take x (l ++ [x]) (gl x (l ++ [x]) k, gl x (l ++ [x]) (k + 1)) (l.length + 1) (by simp)).mpr ⟨k, by omega, rfl⟩
            rw [List.take_of_length_le (by simp), gl_snoc k1, ← k2] at this
            exact ⟨_, this⟩
          obtain ⟨b, hb⟩ := hex
          exact ⟨b, x, l, r, hb, (hm _ _).mp q2⟩
        · rintro ⟨b, x, l, r1, r2, r3⟩
          obtain ⟨x', l', i1, i2, i3, i4, i5⟩ := hin x l r1
          refine ⟨(x', l'), i1, (hm _ _).mpr ?_, (i5 a).mpr ?_⟩
          · show 60 * wsm (wN w) x' (l' ++ [x']) = pac n w * (l'.length + 1 : Nat)
            rw [i3, i2]
            exact r3
          · have q : a ∈ x :: (l ++ [x]) := (edg_chn _ _ r1.2 _ r2).2.1
            rcases List.mem_cons.mp q with q | q
            · rw [q]; simp
            · rcases List.mem_append.mp q with q | q
              · simp [q]
              · rw [List.mem_singleton] at q; rw [q]; simp
