/-! drawn -/
theorem tr_bdq {α β : Type} (e : α) (f : α → β) : tr_bd e f = f e := Eq.trans (Eq.refl _) (Eq.refl _)
theorem drawn_step {hx hm : tr_H} {n : Nat} {w : Nat → Int} (hR : Rl hx hm) (hN : tN hx 4 n w) (hP : tP hm 4 n w) {M i T : Int32} (hi : ¬ M ≤ i) : ∃ T' gx gm w', f_X7_drawn_L29 M T i hx = some (.inl (T', i + 1, gx)) ∧ f_X8_drawn_L28 M T i hm = some (.inl (T', i + 1, gm)) ∧ Rl gx gm ∧ tN gx 4 n w' ∧ tP gm 4 n w' := by
  have hs := hR.2.2.2.2
  unfold f_X7_drawn_L29 f_X8_drawn_L28
  rw [if_neg hi, if_neg hi, ← hs]
  generalize hx.2 0 12 * 6364136223846793005 + 1442695040888963407 = X
  simp only [tr_bdq, sl_s]
  obtain ⟨v, hv, ev⟩ := drw X
  rw [ev]
  exact drawn_core (Rl_sl X hR) (tN_sl hN) (tP_sl hP) hv T i
theorem s_drawn : ∀ (v0 : Int32) (hx hm : tr_H), Rl hx hm → ∃ (r0 : Int32) (gx gm : tr_H), f_X7_drawn v0 hx = some (r0, gx) ∧ f_X8_drawn v0 hm = some (r0, gm) ∧ Rl gx gm := by
  intro v0 hx hm hR
  obtain ⟨M, hM, rfl⟩ := ex_iI v0
  have hR0 := Rl_0 hR
  obtain ⟨m0, em0⟩ : ∃ m0, m0 = tr_si hm 0 0 0 := ⟨_, rfl⟩
  rw [← em0] at hR0
  obtain ⟨n, w, hN, hP⟩ := Rl_net hR0
  have hin := r_inv hM 1 20
  rw [i64_1, i64_20] at hin
  unfold f_X7_drawn f_X8_drawn
  simp only [tr_bd]
  rw [← em0, hin, tr_bn_some]
  by_cases c : 1 ≤ M ∧ M ≤ 20
  · rw [if_pos c, if_neg n10, if_neg (show ¬ iI M < 1 by rw [iI_1, iI_lt (by omega) (by omega) (by omega) (by omega)]; omega), if_pos (show iI M ≤ 20 by rw [iI_20, iI_le (by omega) (by omega) (by omega) (by omega)]; omega)]
    obtain ⟨x1, a1, a2, a3⟩ := n_copy hN (j := 4) (Or.inr (Or.inl rfl)) (by decide)
    obtain ⟨m1, b1, b2, b3⟩ := r_begin hP
    have hR1 := Rl_fr (fr_up a2 (by decide)) (gM_f b2 (by decide) (by decide)) hR0
    have key : ∀ (k i : Nat), (i : Int) + k = M → ∀ (T : Int32) (x m : tr_H) (w' : Nat → Int), Rl x m → tN x 4 n w' → tP m 4 n w' → ∃ r gx gm, tr_lp (fun q => f_X7_drawn_L29 (iI M) q.1 q.2.1 q.2.2) (T, iI i, x) = some (r, gx) ∧ tr_lp (fun q => f_X8_drawn_L28 (iI M) q.1 q.2.1 q.2.2) (T, iI i, m) = some (r, gm) ∧ Rl gx gm := by
      intro k
      induction k with
      | zero =>
        intro i hi T x m w' h1 h2 h3
        have hle : iI M ≤ iI (i : Int) := by rw [iI_le (by omega) (by omega) (by omega) (by omega)]; omega
        refine ⟨T, x, m, tr_lp_out ?_, tr_lp_out ?_, h1⟩
        · show f_X7_drawn_L29 (iI M) T (iI i) x = _
          unfold f_X7_drawn_L29
          rw [if_pos hle]
        · show f_X8_drawn_L28 (iI M) T (iI i) m = _
          unfold f_X8_drawn_L28
          rw [if_pos hle]
      | succ k ih =>
        intro i hi T x m w' h1 h2 h3
        have hle : ¬ iI M ≤ iI (i : Int) := by rw [iI_le (by omega) (by omega) (by omega) (by omega)]; omega
        obtain ⟨T', gx, gm, w2, q1, q2, q3, q4, q5⟩ := drawn_step h1 h2 h3 (T := T) hle
        have e1 : iI (i : Int) + 1 = iI ((i + 1 : Nat) : Int) := by rw [iI_1, iI_add]; rfl
        rw [e1] at q1 q2
        rw [tr_lp_go (f := fun q => f_X7_drawn_L29 (iI M) q.1 q.2.1 q.2.2) (s := (T, iI i, x)) (s' := (T', iI ((i + 1 : Nat) : Int), gx)) q1, tr_lp_go (f := fun q => f_X8_drawn_L28 (iI M) q.1 q.2.1 q.2.2) (s := (T, iI i, m)) (s' := (T', iI ((i + 1 : Nat) : Int), gm)) q2]
        exact ih (i + 1) (by omega) T' gx gm w2 q3 q4 q5
    obtain ⟨r, gx, gm, k1, k2, k3⟩ := key M.toNat 0 (by omega) 0 x1 m1 w hR1 a3 b3
    rw [a1, tr_bn_some, b1, tr_bn_some, show ((0 : Int32), (0 : Int32), x1) = ((0 : Int32), iI (0 : Nat), x1) from rfl, k1, tr_bn_some, show ((0 : Int32), (0 : Int32), m1) = ((0 : Int32), iI (0 : Nat), m1) from rfl, k2, tr_bn_some]
    exact ⟨_, _, _, rfl, rfl, k3⟩
  · rw [if_neg c, if_pos rfl]
    refine ⟨-2, hx, m0, ?_, rfl, hR0⟩
    by_cases c4 : M < 1
    · rw [if_pos (show iI M < 1 by rw [iI_1, iI_lt (by omega) (by omega) (by omega) (by omega)]; omega)]
    · rw [if_neg (show ¬ iI M < 1 by rw [iI_1, iI_lt (by omega) (by omega) (by omega) (by omega)]; omega), if_neg (show ¬ iI M ≤ 20 by rw [iI_20, iI_le (by omega) (by omega) (by omega) (by omega)]; omega)]
