/-! a wait is read, on the reference's side -/
def stopAt (h : tr_H) (Q : Nat) : Prop := ∃ h', f_X8_readWait h = some (0, h') ∧ gR h h' ∧ h'.1 0 3 = iI Q
section RW
variable {h : tr_H} {L P M n a b : Nat} {w : Nat → Int} {tx : Nat → Int}
theorem rw_first (hL : L ≤ 64) (hx : ∀ k, k < L → 0 ≤ tx k ∧ tx k ≤ 255) (hT : txM h L tx) (hp : h.1 0 3 = iI P) (hP : P < L) (hN : tP h 2 n w) (hz : ¬ (0 ≤ tx P - 48 ∧ tx P - 48 < n)) : stopAt h P := by
  have h6 := hN.2.1.2.1
  refine ⟨h, ?_, gR_rf h, hp⟩
  unfold f_X8_readWait
  simp only [tr_bd]
  rw [show (0 : Int32).toNatClampNeg = 0 from rfl, hN.2.2.1, iI_1, iI_sub, r_fig_no hL (hx P hP) (by omega) hT hp hP (by omega), tr_b2_some, if_pos rfl]
theorem rw_pre (hL : L ≤ 64) (hx : ∀ k, k < L → 0 ≤ tx k ∧ tx k ≤ 255) (hT : txM h L tx) (hp : h.1 0 3 = iI P) (hM : h.1 0 4 = iI M) (hM2 : M ≤ 12) (hP : P < L) (hN : tP h 2 n w) (ha : tx P - 48 = (a : Int)) (han : a < n) : (M = 12 ∨ allF n w a → stopAt h P) ∧ (¬ (M = 12 ∨ allF n w a) → f_X8_readWait h = tr_b2 (f_X8_figure (iI ((n : Int) - 1)) (tr_si h 0 3 (iI (P + 1 : Nat)))) fun tv12 th13 =>
    if tv12 = (-9) then (some (0, th13)) else (tr_bn (f_X8_isThere 2 (iI a) tv12 th13) fun tv16 => if tv16 = 0 then (tr_b2 (f_X8_figure 9 th13) fun tv19 th20 => if 0 ≤ (tv19 + 1) then (f_X8_readWait_J131 (iI a) tv12 th20 tv19 (tv19 + 1)) else (f_X8_readWait_J131 (iI a) tv12 th20 tv19 0)) else (some (0, tr_si th13 0 3 ((th13.1 0 3) - 1))))) := by
  have h6 := hN.2.1.2.1
  obtain ⟨h4, eh4⟩ : ∃ h4, h4 = tr_si h 0 3 (iI (P + 1 : Nat)) := ⟨_, rfl⟩
  have hN4 : tP h4 2 n w := by rw [eh4]; exact tP_fr (fr_si (L := [0]) _ _ _ (by simp)) (by simp) hN
  have hM4 : h4.1 0 4 = iI M := by rw [eh4, si_n _ _ _ (by decide)]; exact hM
  have hp4 : h4.1 0 3 = iI (P + 1 : Nat) := by rw [eh4, si_s]
  obtain ⟨z, k1, k2, k3⟩ := r_waitsFrom hN4 (a := a) (by omega)
  have main : f_X8_readWait h = if (iI M : Int32) = 12 then some (0, tr_si h4 0 3 (iI P)) else if (iI z : Int32) = iI n then some (0, tr_si h4 0 3 (iI P)) else tr_b2 (f_X8_figure (iI ((n : Int) - 1)) h4) fun tv12 th13 =>
    if tv12 = (-9) then (some (0, th13)) else (tr_bn (f_X8_isThere 2 (iI a) tv12 th13) fun tv16 => if tv16 = 0 then (tr_b2 (f_X8_figure 9 th13) fun tv19 th20 => if 0 ≤ (tv19 + 1) then (f_X8_readWait_J131 (iI a) tv12 th20 tv19 (tv19 + 1)) else (f_X8_readWait_J131 (iI a) tv12 th20 tv19 0)) else (some (0, tr_si th13 0 3 ((th13.1 0 3) - 1)))) := by
    have hf := r_fig_yes (mo := (n : Int) - 1) hL (hx P hP) (by omega) hT hp hP (by omega)
    rw [ha, ← eh4] at hf
    have e1 : iI (n : Int) - 1 = iI ((n : Int) - 1) := by rw [iI_1, iI_sub]
    have e2 : iI ((P + 1 : Nat) : Int) - 1 = iI P := by
      rw [iI_1, iI_sub]
      congr 1
      omega
    unfold f_X8_readWait
    simp only [tr_bd]
    rw [show (0 : Int32).toNatClampNeg = 0 from rfl, hN.2.2.1, e1, hf, tr_b2_some, if_neg (show ¬ iI (a : Int) = -9 by rw [iI_m9, iI_eq (by omega) (by omega) (by omega) (by omega)]; omega), hM4, hp4, e2, k1, tr_bn_some]
  rw [← eh4]
  constructor
  · intro q
    refine ⟨tr_si h4 0 3 (iI P), ?_, ?_, by rw [si_s]⟩
    · rw [main]
      by_cases c : M = 12
      · rw [if_pos (by rw [c]; rfl)]
      · rw [if_neg (by rw [iI_12, iI_eq (by omega) (by omega) (by omega) (by omega)]; omega), if_pos (by rw [k3.mpr (q.resolve_left c)])]
    · rw [eh4]
      exact gR_tr (gR_0 _ _ (Or.inl rfl)) (gR_0 _ _ (Or.inl rfl))
  · intro q
    rw [main, if_neg (by rw [iI_12, iI_eq (by omega) (by omega) (by omega) (by omega)]; omega), if_neg (by rw [iI_eq (by omega) (by omega) (by omega) (by omega)]; intro e; exact q (Or.inr (k3.mp (by omega))))]
theorem rw_second (hL : L ≤ 64) (hx : ∀ k, k < L → 0 ≤ tx k ∧ tx k ≤ 255) (hT : txM h L tx) (hp : h.1 0 3 = iI P) (hM : h.1 0 4 = iI M) (hM2 : M ≤ 12) (hP : P < L) (hN : tP h 2 n w) (ha : tx P - 48 = (a : Int)) (han : a < n) (hno : ¬ (M = 12 ∨ allF n w a)) (hz : P + 1 = L ∨ (P + 1 < L ∧ ¬ (0 ≤ tx (P + 1) - 48 ∧ tx (P + 1) - 48 < n ∧ w (6 * a + (tx (P + 1) - 48).toNat) = -9))) : stopAt h (P + 1) := by
  have h6 := hN.2.1.2.1
  have hpre := (rw_pre hL hx hT hp hM hM2 hP hN ha han).2 hno
  have g4 : gR h (tr_si h 0 3 (iI (P + 1 : Nat))) := gR_0 _ _ (Or.inl rfl)
  have hT4 := txM_g g4 hT
  have hp4 : (tr_si h 0 3 (iI (P + 1 : Nat))).1 0 3 = iI (P + 1 : Nat) := si_s _ _ _ _
  have hN4 : tP (tr_si h 0 3 (iI (P + 1 : Nat))) 2 n w := tP_fr (fr_si (L := [0]) _ _ _ (by simp)) (by simp) hN
  generalize tr_si h 0 3 (iI (P + 1 : Nat)) = h4 at hpre g4 hT4 hp4 hN4
  rcases hz with e | ⟨hlt, hz⟩
  · subst e
    refine ⟨h4, ?_, g4, hp4⟩
    rw [hpre, r_fig_end hT4 hp4, tr_b2_some, if_pos rfl]
  · by_cases c : 0 ≤ tx (P + 1) - 48 ∧ tx (P + 1) - 48 < n
    · obtain ⟨b, hb⟩ : ∃ b : Nat, tx (P + 1) - 48 = (b : Int) := ⟨(tx (P + 1) - 48).toNat, by omega⟩
      have hw9 : w (6 * a + b) ≠ -9 := fun q => hz ⟨c.1, c.2, by rw [hb]; exact q⟩
      have hf := r_fig_yes (mo := (n : Int) - 1) hL (hx _ hlt) (by omega) hT4 hp4 hlt (by omega)
      rw [hb] at hf
      have g5 : gR h4 (tr_si h4 0 3 (iI (P + 1 + 1 : Nat))) := gR_0 _ _ (Or.inl rfl)
      have hN5 : tP (tr_si h4 0 3 (iI (P + 1 + 1 : Nat))) 2 n w := tP_fr (fr_si (L := [0]) _ _ _ (by simp)) (by simp) hN4
      have hp5 : (tr_si h4 0 3 (iI (P + 1 + 1 : Nat))).1 0 3 = iI (P + 1 + 1 : Nat) := si_s _ _ _ _
      generalize tr_si h4 0 3 (iI (P + 1 + 1 : Nat)) = h5 at hf g5 hN5 hp5
      have hi := r_isThere hN5 (i := a) (j := b) (by omega) (by omega)
      rw [if_neg hw9] at hi
      refine ⟨tr_si h5 0 3 (h5.1 0 3 - 1), ?_, gR_tr g4 (gR_tr g5 (gR_0 _ _ (Or.inl rfl))), ?_⟩
      · rw [hpre, hf, tr_b2_some, if_neg (show ¬ iI (b : Int) = -9 by rw [iI_m9, iI_eq (by omega) (by omega) (by omega) (by omega)]; omega), hi, tr_bn_some, if_neg (by decide)]
      · rw [si_s, hp5, iI_1, iI_sub]
        congr 1
        omega
    · refine ⟨h4, ?_, g4, hp4⟩
      rw [hpre, r_fig_no (mo := (n : Int) - 1) hL (hx _ hlt) (by omega) hT4 hp4 hlt (by omega), tr_b2_some, if_pos rfl]
theorem r_J131 {h : tr_H} (ha : a < 6) (hb : b < 6) (hM : h.1 0 4 = iI M) (t u : Int32) : f_X8_readWait_J131 (iI a) (iI b) h t u = some (if t = -9 then 0 else 1, tr_si (tr_si h 2 (1 + (6 * a + b)) u) 0 4 (iI (M + 1 : Nat))) := by
  have e1 : (1 + 6 * (a : Int) + (b : Int)) = ((1 + (6 * a + b) : Nat) : Int) := by omega
  unfold f_X8_readWait_J131
  simp only [tr_bd]
  rw [iI_1, iI_6, iI_mul, iI_add, iI_add, e1, tr_gdI (by omega) (by omega) (by omega), iI_ix (by omega), si_c _ _ _ (show (0 : Nat) ≠ 2 by decide), hM, iI_add]
  by_cases c : t = -9
  · rw [if_pos c, if_pos c]
    rfl
  · rw [if_neg c, if_neg c]
    rfl
theorem tP_up {h : tr_H} {q : Nat} (hP : tP h q n w) (ha : a < n) (hb : b < n) {v : Int} (hv : v = -9 ∨ (0 ≤ v ∧ v ≤ 9)) : tP (tr_si h q (1 + (6 * a + b)) (iI (cvn v))) q n (wup w (6 * a + b) v) := by
  obtain ⟨a1, a2, a3, a4⟩ := hP
  refine ⟨a1, okn_up a2 ha hb hv, ?_, fun c hc => ?_⟩
  · rw [si_n _ _ _ (by omega)]; exact a3
  · unfold wup
    by_cases e : c = 6 * a + b
    · rw [if_pos e, e, si_s]
    · rw [if_neg e, si_n _ _ _ (by omega)]
      exact a4 c hc
theorem rw_third (hL : L ≤ 64) (hx : ∀ k, k < L → 0 ≤ tx k ∧ tx k ≤ 255) (hT : txM h L tx) (hp : h.1 0 3 = iI P) (hM : h.1 0 4 = iI M) (hM2 : M ≤ 12) (hP : P + 1 < L) (hN : tP h 2 n w) (ha : tx P - 48 = (a : Int)) (han : a < n) (hno : ¬ (M = 12 ∨ allF n w a)) (hb : tx (P + 1) - 48 = (b : Int)) (hbn : b < n) (hw9 : w (6 * a + b) = -9) : ((P + 2 = L ∨ (P + 2 < L ∧ ¬ (0 ≤ tx (P + 2) - 48 ∧ tx (P + 2) - 48 ≤ 9))) → stopAt h (P + 2)) ∧
    ((P + 2 < L ∧ 0 ≤ tx (P + 2) - 48 ∧ tx (P + 2) - 48 ≤ 9) → ∃ h', f_X8_readWait h = some (1, h') ∧ gR h h' ∧ h'.1 0 3 = iI (P + 3 : Nat) ∧ h'.1 0 4 = iI (M + 1 : Nat) ∧ tP h' 2 n (wup w (6 * a + b) (tx (P + 2) - 48))) := by
  have h6 := hN.2.1.2.1
  have hpre := (rw_pre hL hx hT hp hM hM2 (by omega) hN ha han).2 hno
  have g4 : gR h (tr_si h 0 3 (iI (P + 1 : Nat))) := gR_0 _ _ (Or.inl rfl)
  have hT4 := txM_g g4 hT
  have hp4 : (tr_si h 0 3 (iI (P + 1 : Nat))).1 0 3 = iI (P + 1 : Nat) := si_s _ _ _ _
  have hN4 : tP (tr_si h 0 3 (iI (P + 1 : Nat))) 2 n w := tP_fr (fr_si (L := [0]) _ _ _ (by simp)) (by simp) hN
  have hM4 : (tr_si h 0 3 (iI (P + 1 : Nat))).1 0 4 = iI M := by rw [si_n _ _ _ (by decide)]; exact hM
  generalize tr_si h 0 3 (iI (P + 1 : Nat)) = h4 at hpre g4 hT4 hp4 hN4 hM4
  have hf := r_fig_yes (mo := (n : Int) - 1) hL (hx _ hP) (by omega) hT4 hp4 hP (by omega)
  rw [hb] at hf
  have g5 : gR h4 (tr_si h4 0 3 (iI (P + 1 + 1 : Nat))) := gR_0 _ _ (Or.inl rfl)
  have hN5 : tP (tr_si h4 0 3 (iI (P + 1 + 1 : Nat))) 2 n w := tP_fr (fr_si (L := [0]) _ _ _ (by simp)) (by simp) hN4
  have hp5 : (tr_si h4 0 3 (iI (P + 1 + 1 : Nat))).1 0 3 = iI (P + 1 + 1 : Nat) := si_s _ _ _ _
  have hM5 : (tr_si h4 0 3 (iI (P + 1 + 1 : Nat))).1 0 4 = iI M := by rw [si_n _ _ _ (by decide)]; exact hM4
  have hT5 := txM_g g5 hT4
  generalize tr_si h4 0 3 (iI (P + 1 + 1 : Nat)) = h5 at hf g5 hN5 hp5 hM5 hT5
  have hi := r_isThere hN5 (i := a) (j := b) (by omega) (by omega)
  rw [if_pos hw9] at hi
  have hpre2 : f_X8_readWait h = tr_b2 (f_X8_figure 9 h5) fun tv19 th20 => if 0 ≤ (tv19 + 1) then (f_X8_readWait_J131 (iI a) (iI b) th20 tv19 (tv19 + 1)) else (f_X8_readWait_J131 (iI a) (iI b) th20 tv19 0) := by
    rw [hpre, hf, tr_b2_some, if_neg (show ¬ iI (b : Int) = -9 by rw [iI_m9, iI_eq (by omega) (by omega) (by omega) (by omega)]; omega), hi, tr_bn_some, if_pos rfl]
  rw [iI_9] at hpre2
  constructor
  · intro q
    have hfg : f_X8_figure (iI 9) h5 = some (-9, h5) := by
      rcases q with e | ⟨e, z⟩
      · subst e
        exact r_fig_end hT5 hp5
      · exact r_fig_no (P := P + 1 + 1) hL (hx _ e) (by omega) hT5 hp5 e z
    refine ⟨tr_si (tr_si h5 2 (1 + (6 * a + b)) 0) 0 4 (iI (M + 1 : Nat)), ?_, gR_tr g4 (gR_tr g5 (gR_tr (gR_2 _ _ _) (gR_0 _ _ (Or.inr rfl)))), ?_⟩
    · rw [hpre2, hfg, tr_b2_some, if_neg (by decide), r_J131 (by omega) (by omega) hM5, if_pos rfl]
    · rw [si_n _ _ _ (by decide), si_c _ _ _ (by decide), hp5]
  · rintro ⟨e, z1, z2⟩
    have hfg := r_fig_yes (mo := 9) (P := P + 1 + 1) hL (hx _ e) (by omega) hT5 hp5 e ⟨z1, z2⟩
    obtain ⟨v, ev⟩ : ∃ v, v = tx (P + 2) - 48 := ⟨_, rfl⟩
    rw [show tx (P + 1 + 1) - 48 = v from ev.symm] at hfg
    rw [← ev] at z1 z2 ⊢
    refine ⟨tr_si (tr_si (tr_si h5 0 3 (iI (P + 1 + 1 + 1 : Nat))) 2 (1 + (6 * a + b)) (iI (v + 1))) 0 4 (iI (M + 1 : Nat)), ?_, gR_tr g4 (gR_tr g5 (gR_tr (gR_0 _ _ (Or.inl rfl)) (gR_tr (gR_2 _ _ _) (gR_0 _ _ (Or.inr rfl))))), ?_, ?_, ?_⟩
    · rw [hpre2, hfg, tr_b2_some, iI_1, iI_add, if_pos (by rw [iI_0, iI_le (by omega) (by omega) (by omega) (by omega)]; omega), r_J131 (M := M) (by omega) (by omega) (by rw [si_n _ _ _ (by decide)]; exact hM5), if_neg (show ¬ iI v = -9 by rw [iI_m9, iI_eq (by omega) (by omega) (by omega) (by omega)]; omega)]
      rfl
    · rw [si_n _ _ _ (by decide), si_c _ _ _ (by decide), si_s]
    · rw [si_s]
    · refine tP_fr (fr_si (L := [0]) _ _ _ (by simp)) (by simp) ?_
      have h7 := tP_up (tP_fr (fr_si (L := [0]) (i := 0) h5 3 (iI (P + 1 + 1 + 1 : Nat)) (by simp)) (by simp) hN5) (a := a) (b := b) (v := v) han hbn (Or.inr ⟨z1, z2⟩)
      rw [show cvn v = v + 1 by unfold cvn; rw [if_neg (by omega)]] at h7
      exact h7
end RW
theorem r_stop {h : tr_H} {L P Q : Nat} {tx : Nat → Int} (hT : txM h L tx) (hp : h.1 0 3 = iI P) (hP : P < L) (hL : L ≤ 64) (hs : stopAt h Q) : ∃ h', tr_lp (fun q => f_X8_readNet_L72 q) h = some (.inr (iI Q, h')) ∧ gR h h' := by
  obtain ⟨h', k1, k2, k3⟩ := hs
  refine ⟨h', tr_lp_out ?_, k2⟩
  unfold f_X8_readNet_L72
  rw [hT.1, hp, if_neg (by rw [iI_le (by omega) (by omega) (by omega) (by omega)]; omega), k1, tr_b2_some, if_pos rfl, k3]
theorem r_go {h h' : tr_H} {L P : Nat} {tx : Nat → Int} (hT : txM h L tx) (hp : h.1 0 3 = iI P) (hP : P < L) (hL : L ≤ 64) (hk : f_X8_readWait h = some (1, h')) : tr_lp (fun q => f_X8_readNet_L72 q) h = tr_lp (fun q => f_X8_readNet_L72 q) h' := by
  apply tr_lp_go
  unfold f_X8_readNet_L72
  rw [hT.1, hp, if_neg (by rw [iI_le (by omega) (by omega) (by omega) (by omega)]; omega), hk, tr_b2_some, if_neg (by decide)]
/-- both are at the same place of the text, with the same net -/
def rdOk (L : Nat) (sc : tr_H ⊕ (Int32 × tr_H)) (sr : tr_H ⊕ (Int32 × tr_H)) (hx hm : tr_H) : Prop := ∃ r hx' hm', Sum.elim (fun x => f_X3_read_E44 (iI L) x) (fun x => some x) sc = some (iI r, hx') ∧ Sum.elim (fun x => f_X8_readNet_E95 x) (fun x => some x) sr = some (iI r, hm') ∧ fr [4, 5, 12] hx hx' ∧ gR hm hm' ∧ (-9 ≤ r ∧ r ≤ 64) ∧ (r = -9 → ∃ n w, tN hx' 4 n w ∧ tP hm' 2 n w)
theorem rdOk_stop {L Q : Nat} {hx hm hx' hm' : tr_H} (hQ : Q ≤ 64) (f1 : fr [4, 5, 12] hx hx') (f2 : gR hm hm') : rdOk L (.inr (iI Q, hx')) (.inr (iI Q, hm')) hx hm := ⟨Q, hx', hm', rfl, rfl, f1, f2, by omega, fun q => by omega⟩
theorem rdOk_short {L : Nat} {hx hm hx' hm' : tr_H} (hL : L ≤ 64) (hs : ¬ (2 ≤ L ∧ (L - 2) % 3 = 0)) (f1 : fr [4, 5, 12] hx hx') (f2 : gR hm hm') : rdOk L (.inl hx') (.inr (iI L, hm')) hx hm := by
  refine ⟨L, hx', hm', ?_, rfl, f1, f2, by omega, fun q => by omega⟩
  show f_X3_read_E44 (iI L) hx' = _
  rw [c_E44 hL, if_neg hs]
theorem rdOk_mono {L : Nat} {sc sr : tr_H ⊕ (Int32 × tr_H)} {hx hm hx1 hm1 : tr_H} (f1 : fr [4, 5, 12] hx hx1) (f2 : gR hm hm1) (h : rdOk L sc sr hx1 hm1) : rdOk L sc sr hx hm := by
  obtain ⟨r, a, b, h1, h2, h3, h4, h5, h6⟩ := h
  exact ⟨r, a, b, h1, h2, fr_tr f1 h3, gR_tr f2 h4, h5, h6⟩
theorem rd_loop {L : Nat} {tx : Nat → Int} (hL : L ≤ 64) (hx : ∀ k, k < L → 0 ≤ tx k ∧ tx k ≤ 255) : ∀ (d j n : Nat) (w : Nat → Int) (hc hm : tr_H), 2 + 3 * j + d = L → j ≤ 12 → tN hc 4 n w → (∀ k, k < L → hc.1 1 k = iI (tx k)) → tP hm 2 n w → txM hm L tx → hm.1 0 3 = iI (2 + 3 * j : Nat) → hm.1 0 4 = iI j →
    ∃ sc sr, tr_lp (fun q => f_X3_read_L8 (iI L) 4 q.1 q.2) (iI (2 + 3 * j : Nat), hc) = some sc ∧ tr_lp (fun q => f_X8_readNet_L72 q) hm = some sr ∧ rdOk L sc sr hc hm := by
  intro d
  induction d using Nat.strongRecOn with
  | ind d ih =>
    intro j n w hc hm hd hj hN hcT hP hT hp hM
    have h6 := hN.2.1.2.1
    by_cases c0 : d = 0
    · subst c0
      obtain rfl : L = 2 + 3 * j := by omega
      refine ⟨.inl hc, .inl hm, c_end hL, tr_lp_out ?_, -9, hc, hm, ?_, rfl, fr_rf _ _, gR_rf _, by omega, fun _ => ⟨n, w, hN, hP⟩⟩
      · unfold f_X8_readNet_L72
        rw [hT.1, hp, if_pos (Int32.le_refl _)]
      · show f_X3_read_E44 (iI (2 + 3 * j : Nat)) hc = _
        rw [c_E44 hL, if_pos (by omega)]
    · have hlt : 2 + 3 * j < L := by omega
      have ht0 := c_take0 hN (j := j) (by omega) (hx _ hlt)
      have f0 : fr [4, 5, 12] hc (tr_si hc 12 0 (iI (tx (2 + 3 * j) - 48))) := fr_si _ _ _ (by simp)
      by_cases c1 : j < 12 ∧ 0 ≤ tx (2 + 3 * j) - 48 ∧ tx (2 + 3 * j) - 48 < n ∧ ¬ allF n w (tx (2 + 3 * j) - 48).toNat
      · obtain ⟨a, ha⟩ : ∃ a : Nat, tx (2 + 3 * j) - 48 = (a : Int) := ⟨(tx (2 + 3 * j) - 48).toNat, by omega⟩
        have hna : ¬ allF n w a := by have := c1.2.2.2; rw [ha] at this; exact this
        have han : a < n := by omega
        have hgo := c_go hL hlt (hcT _ hlt) (ht0.1 c1)
        rw [ha] at f0 hgo
        have hN1 : tN (tr_si hc 12 0 (iI a)) 4 n w := tN_fr (fr_si (L := [12]) _ _ _ (by simp)) (by simp) (by simp) hN
        have hc1T : ∀ k, k < L → (tr_si hc 12 0 (iI a)).1 1 k = iI (tx k) := fun k hk => by rw [si_c _ _ _ (by decide)]; exact hcT k hk
        have h12 : (tr_si hc 12 0 (iI a)).1 12 0 = iI a := si_s _ _ _ _
        generalize tr_si hc 12 0 (iI a) = hc1 at f0 hgo hN1 hc1T h12
        have hno : ¬ (j = 12 ∨ allF n w a) := fun q => q.elim (fun q => by omega) hna
        by_cases c2 : 2 + 3 * j + 1 = L
        · obtain ⟨hm', r1, r2⟩ := r_stop hT hp hlt hL (rw_second hL hx hT hp hM hj hlt hP ha han hno (Or.inl c2))
          refine ⟨.inl hc1, .inr (iI (2 + 3 * j + 1 : Nat), hm'), ?_, r1, ?_⟩
          · rw [hgo, c2]
            exact c_end hL
          · rw [c2]
            exact rdOk_short hL (by omega) f0 r2
        · have hlt1 : 2 + 3 * j + 1 < L := by omega
          have ht1 := c_take1 hN1 (j := j) (by omega) han h12 (hx _ hlt1)
          have f1 : fr [4, 5, 12] hc1 (tr_si hc1 12 1 (iI (tx (2 + 3 * j + 1) - 48))) := fr_si _ _ _ (by simp)
          by_cases c3 : 0 ≤ tx (2 + 3 * j + 1) - 48 ∧ tx (2 + 3 * j + 1) - 48 < n ∧ w (6 * a + (tx (2 + 3 * j + 1) - 48).toNat) = -9
          · obtain ⟨b, hb⟩ : ∃ b : Nat, tx (2 + 3 * j + 1) - 48 = (b : Int) := ⟨(tx (2 + 3 * j + 1) - 48).toNat, by omega⟩
            have hw9 : w (6 * a + b) = -9 := by have := c3.2.2; rw [hb] at this; exact this
            have hbn : b < n := by omega
            have hgo1 := c_go hL hlt1 (hc1T _ hlt1) (ht1.1 c3)
            rw [hb] at f1 hgo1
            have hN2 : tN (tr_si hc1 12 1 (iI b)) 4 n w := tN_fr (fr_si (L := [12]) _ _ _ (by simp)) (by simp) (by simp) hN1
            have hc2T : ∀ k, k < L → (tr_si hc1 12 1 (iI b)).1 1 k = iI (tx k) := fun k hk => by rw [si_c _ _ _ (by decide)]; exact hc1T k hk
            have h12b : (tr_si hc1 12 1 (iI b)).1 12 0 = iI a := by rw [si_n _ _ _ (by decide)]; exact h12
            have h13b : (tr_si hc1 12 1 (iI b)).1 12 1 = iI b := si_s _ _ _ _
            generalize tr_si hc1 12 1 (iI b) = hc2 at f1 hgo1 hN2 hc2T h12b h13b
            have hthird := rw_third hL hx hT hp hM hj hlt1 hP ha han hno hb hbn hw9
            have f01 : fr [4, 5, 12] hc hc2 := fr_tr f0 f1
            by_cases c4 : 2 + 3 * j + 2 = L
            · obtain ⟨hm', r1, r2⟩ := r_stop hT hp hlt hL (hthird.1 (Or.inl c4))
              refine ⟨.inl hc2, .inr (iI (2 + 3 * j + 2 : Nat), hm'), ?_, r1, ?_⟩
              · rw [hgo, hgo1, show 2 + 3 * j + 1 + 1 = L by omega]
                exact c_end hL
              · rw [c4]
                exact rdOk_short hL (by omega) f01 r2
            · have hlt2 : 2 + 3 * j + 2 < L := by omega
              have ht2 := c_take2 hN2 (j := j) (by omega) han hbn h12b h13b (hx _ hlt2)
              by_cases c5 : 0 ≤ tx (2 + 3 * j + 2) - 48 ∧ tx (2 + 3 * j + 2) - 48 ≤ 9
              · obtain ⟨hm', k1, k2, k3, k4, k5⟩ := hthird.2 ⟨hlt2, c5.1, c5.2⟩
                have hgo2 := c_go hL hlt2 (hc2T _ hlt2) (ht2.1 c5)
                have hN3 := tN_up hN2 (a := a) (b := b) (v := tx (2 + 3 * j + 2) - 48) han hbn (Or.inr c5)
                have f2 : fr [4, 5, 12] hc2 (tr_sa hc2 (4 + 1) (upd (hc2.1 (4 + 1)) (6 * a + b) (iI (tx (2 + 3 * j + 2) - 48)))) := fr_sa _ _ (by simp)
                obtain ⟨sc, sr, u1, u2, u3⟩ := ih (d - 3) (by omega) (j + 1) n _ _ hm' (by omega) (by omega) hN3 (fun k hk => by rw [tr_sa_ne _ _ (by decide)]; exact hc2T k hk) k5 (txM_g k2 hT) (by rw [k3]; rfl) k4
                refine ⟨sc, sr, ?_, ?_, rdOk_mono (fr_tr f01 f2) k2 u3⟩
                · rw [hgo, hgo1, show 2 + 3 * j + 1 + 1 = 2 + 3 * j + 2 by omega, hgo2, show 2 + 3 * j + 2 + 1 = 2 + 3 * (j + 1) by omega]
                  exact u1
                · rw [r_go hT hp hlt hL k1]
                  exact u2
              · obtain ⟨hm', r1, r2⟩ := r_stop hT hp hlt hL (hthird.1 (Or.inr ⟨hlt2, c5⟩))
                refine ⟨_, .inr (iI (2 + 3 * j + 2 : Nat), hm'), ?_, r1, rdOk_stop (by omega) f01 r2⟩
                rw [hgo, hgo1, show 2 + 3 * j + 1 + 1 = 2 + 3 * j + 2 by omega]
                exact c_stop hL hlt2 (hc2T _ hlt2) (ht2.2 c5)
          · obtain ⟨hm', r1, r2⟩ := r_stop hT hp hlt hL (rw_second hL hx hT hp hM hj hlt hP ha han hno (Or.inr ⟨hlt1, c3⟩))
            refine ⟨_, .inr (iI (2 + 3 * j + 1 : Nat), hm'), ?_, r1, rdOk_stop (by omega) (fr_tr f0 f1) r2⟩
            rw [hgo]
            exact c_stop hL hlt1 (hc1T _ hlt1) (ht1.2 c3)
      · have hs : stopAt hm (2 + 3 * j) := by
          by_cases c2 : 0 ≤ tx (2 + 3 * j) - 48 ∧ tx (2 + 3 * j) - 48 < n
          · obtain ⟨a, ha⟩ : ∃ a : Nat, tx (2 + 3 * j) - 48 = (a : Int) := ⟨(tx (2 + 3 * j) - 48).toNat, by omega⟩
            refine (rw_pre hL hx hT hp hM hj hlt hP ha (by omega)).1 ?_
            apply Classical.byContradiction
            intro q
            refine c1 ⟨?_, c2.1, c2.2, ?_⟩
            · have : j ≠ 12 := fun e => q (Or.inl e)
              omega
            · intro e
              rw [ha] at e
              exact q (Or.inr e)
          · exact rw_first hL hx hT hp hlt hP c2
        obtain ⟨hm', r1, r2⟩ := r_stop hT hp hlt hL hs
        exact ⟨_, .inr (iI (2 + 3 * j : Nat), hm'), c_stop hL hlt (hcT _ hlt) (ht0.2 c1), r1, rdOk_stop (by omega) f0 r2⟩
/-- the whole text -/
theorem rd_all {L : Nat} {tx : Nat → Int} (hL : L ≤ 64) (hx : ∀ k, k < L → 0 ≤ tx k ∧ tx k ≤ 255) {hc hm : tr_H} (hcT : ∀ k, k < L → hc.1 1 k = iI (tx k)) (hT : txM hm L tx) : ∃ r hc' hm', f_X3_read (iI L) 4 hc = some (iI r, hc') ∧ f_X8_readNet hm = some (iI r, hm') ∧ fr [4, 5, 12] hc hc' ∧ gR hm hm' ∧ (-9 ≤ r ∧ r ≤ 64) ∧ (r = -9 → ∃ n w, tN hc' 4 n w ∧ tP hm' 2 n w) := by
  -- the class's net is begun, the reference's page is wiped
  obtain ⟨c1, b1, b2, b3⟩ := n_begin hc (v := 1) (by omega) (by omega)
  have hc1T : ∀ k, k < L → c1.1 1 k = iI (tx k) := fun k hk => by rw [b2.1 1 (by decide)]; exact hcT k hk
  obtain ⟨m1, w1, w2, w3⟩ := tr_inv (f := fun q => f_X8_readNet_L2 q.1 q.2) (fun m s => ∃ h1, s = (iI m, h1) ∧ gR hm h1 ∧ ∀ k, k < m → h1.1 2 k = 0) (fun h1 => gR hm h1 ∧ ∀ k, k < 37 → h1.1 2 k = 0) (hi := 37) (by
    rintro m s hm37 ⟨h1, rfl, g1, g2⟩
    refine ⟨(iI (m + 1 : Nat), tr_si h1 2 m 0), ?_, _, rfl, gR_tr g1 (gR_2 _ _ _), fun k hk => ?_⟩
    · show f_X8_readNet_L2 (iI m) h1 = _
      unfold f_X8_readNet_L2
      rw [if_neg (by rw [iI_37, iI_le (by omega) (by omega) (by omega) (by omega)]; omega), tr_gdI (by omega) (by omega) (by omega)]
      simp only [tr_bd]
      rw [iI_ix (by omega), iI_1, iI_add]
      rfl
    · by_cases e : k = m
      · rw [e, si_s]
      · rw [si_n _ _ _ e]; exact g2 k (by omega)) (by
    rintro s ⟨h1, rfl, g1, g2⟩
    exact ⟨h1, rfl, g1, g2⟩) 0 (iI (0 : Nat), hm) (by omega) ⟨hm, rfl, gR_rf _, fun k hk => by omega⟩
  obtain ⟨m2, em2⟩ : ∃ m2, m2 = tr_si m1 0 4 0 := ⟨_, rfl⟩
  have g2 : gR hm m2 := by rw [em2]; exact gR_tr w2 (gR_0 _ _ (Or.inr rfl))
  have hT2 := txM_g g2 hT
  have z2 : ∀ k, k < 37 → m2.1 2 k = 0 := fun k hk => by rw [em2, si_c _ _ _ (by decide)]; exact w3 k hk
  have r4 : m2.1 0 4 = 0 := by rw [em2, si_s]
  have hR : f_X8_readNet hm = if (m2.1 0 2) = 0 then some (0, m2) else if (m2.1 1 0) = 78 then (tr_b2 (f_X8_figure 6 (tr_si m2 0 3 1)) fun tv7 th8 => if 1 ≤ tv7 then (tr_bn (tr_lp (fun q => f_X8_readNet_L72 q) (tr_si th8 2 0 tv7)) (fun q => Sum.elim (fun x => f_X8_readNet_E95 x) (fun x => some x) q)) else some (1, th8)) else some (0, m2) := by
    unfold f_X8_readNet
    rw [show ((0 : Int32), hm) = (iI (0 : Nat), hm) from rfl, w1, tr_bn_some]
    unfold f_X8_readNet_E21
    simp only [tr_bd]
    rw [← em2]
    rfl
  have hC : f_X3_read (iI L) 4 hc = tr_bn (tr_lp (fun q => f_X3_read_L8 (iI L) 4 q.1 q.2) (iI (0 : Nat), c1)) (fun q => Sum.elim (fun x => f_X3_read_E44 (iI L) x) (fun x => some x) q) := by
    unfold f_X3_read
    rw [iI_1, b1, tr_bn_some]
    rfl
  by_cases c0 : L = 0
  · refine ⟨0, c1, m2, ?_, ?_, b2, g2, by omega, fun q => by omega⟩
    · rw [hC]
      subst c0
      rw [c_end (h := c1) hL, tr_bn_some]
      show f_X3_read_E44 (iI (0 : Nat)) c1 = _
      rw [c_E44 hL, if_neg (by omega)]
      rfl
    · rw [hR, if_pos (by rw [hT2.1, c0]; rfl)]
      rfl
  · have hl0 : 0 < L := by omega
    have h0 := hx 0 hl0
    have t0 : (tx 0 = 78 → f_X3_takes (iI (0 : Nat)) (iI (tx 0)) 4 c1 = some (1, c1)) ∧ (tx 0 ≠ 78 → f_X3_takes (iI (0 : Nat)) (iI (tx 0)) 4 c1 = some (0, c1)) := by
      unfold f_X3_takes
      simp only [tr_bd]
      rw [if_pos (show iI (0 : Nat) = 0 from rfl)]
      constructor
      · intro q
        rw [if_pos (by rw [q]; rfl)]
      · intro q
        rw [if_neg (by rw [iI_78, iI_eq (by omega) (by omega) (by omega) (by omega)]; exact q)]
    have n0 : ¬ m2.1 0 2 = 0 := by rw [hT2.1, iI_0, iI_eq (by omega) (by omega) (by omega) (by omega)]; omega
    by_cases c78 : tx 0 = 78
    · have s0 := c_go (h := c1) hL hl0 (hc1T 0 hl0) (t0.1 c78)
      have hR2 : f_X8_readNet hm = tr_b2 (f_X8_figure (iI 6) (tr_si m2 0 3 (iI (1 : Nat)))) fun tv7 th8 => if 1 ≤ tv7 then (tr_bn (tr_lp (fun q => f_X8_readNet_L72 q) (tr_si th8 2 0 tv7)) (fun q => Sum.elim (fun x => f_X8_readNet_E95 x) (fun x => some x) q)) else some (1, th8) := by
        rw [hR, if_neg n0, if_pos (by rw [hT2.2 0 hl0, c78]; rfl)]
        rfl
      have g3 : gR hm (tr_si m2 0 3 (iI (1 : Nat))) := gR_tr g2 (gR_0 _ _ (Or.inl rfl))
      have hT3 := txM_g g3 hT
      have p3 : (tr_si m2 0 3 (iI (1 : Nat))).1 0 3 = iI (1 : Nat) := si_s _ _ _ _
      have r3 : (tr_si m2 0 3 (iI (1 : Nat))).1 0 4 = 0 := by rw [si_n _ _ _ (by decide)]; exact r4
      have z3 : ∀ k, k < 37 → (tr_si m2 0 3 (iI (1 : Nat))).1 2 k = 0 := fun k hk => by rw [si_c _ _ _ (by decide)]; exact z2 k hk
      generalize tr_si m2 0 3 (iI (1 : Nat)) = m3 at hR2 g3 hT3 p3 r3 z3
      by_cases c1L : L = 1
      · subst c1L
        refine ⟨1, c1, m3, ?_, ?_, b2, g3, by omega, fun q => by omega⟩
        · rw [hC, s0, c_end (h := c1) hL, tr_bn_some]
          show f_X3_read_E44 (iI (1 : Nat)) c1 = _
          rw [c_E44 hL, if_neg (by omega)]
          rfl
        · rw [hR2, r_fig_end hT3 p3, tr_b2_some, if_neg (by decide)]
          rfl
      · have hl1 : 1 < L := by omega
        have h1 := hx 1 hl1
        obtain ⟨c2, d1, d2, d3⟩ := n_begin c1 (v := tx 1 - 48) (by omega) (by omega)
        have hc2T : ∀ k, k < L → c2.1 1 k = iI (tx k) := fun k hk => by rw [d2.1 1 (by decide)]; exact hc1T k hk
        have t1 : f_X3_takes (iI (1 : Nat)) (iI (tx 1)) 4 c1 = if iI (tx 1 - 48) < 1 then some (0, c2) else if 6 < iI (tx 1 - 48) then some (0, c2) else some (1, c2) := by
          unfold f_X3_takes
          simp only [tr_bd]
          rw [if_neg (show ¬ iI (1 : Nat) = 0 by decide), if_pos (show iI (1 : Nat) = 1 from rfl), iI_48, iI_sub, d1, tr_bn_some]
        by_cases cok : 1 ≤ tx 1 - 48 ∧ tx 1 - 48 ≤ 6
        · obtain ⟨n, hn⟩ : ∃ n : Nat, tx 1 - 48 = (n : Int) := ⟨(tx 1 - 48).toNat, by omega⟩
          rw [if_neg (by rw [iI_1, iI_lt (by omega) (by omega) (by omega) (by omega)]; omega), if_neg (by rw [iI_6, iI_lt (by omega) (by omega) (by omega) (by omega)]; omega)] at t1
          have s1 := c_go (h := c1) hL hl1 (hc1T 1 hl1) t1
          rw [hn, show (max 1 (min 6 (n : Int))).toNat = n by omega] at d3
          have hf := r_fig_yes (mo := 6) (P := 1) hL h1 (by omega) hT3 p3 hl1 (by omega)
          rw [hn] at hf
          obtain ⟨m4, em4⟩ : ∃ m4, m4 = tr_si (tr_si m3 0 3 (iI (1 + 1 : Nat))) 2 0 (iI n) := ⟨_, rfl⟩
          have g4 : gR hm m4 := by rw [em4]; exact gR_tr g3 (gR_tr (gR_0 _ _ (Or.inl rfl)) (gR_2 _ _ _))
          have hP4 : tP m4 2 n (fun _ => -9) := by
            rw [em4]
            refine ⟨Or.inl rfl, d3.2.1, by rw [si_s], fun c hc => ?_⟩
            rw [si_n _ _ _ (by omega), si_c _ _ _ (by decide), z3 _ (by omega)]
            rfl
          obtain ⟨sc, sr, u1, u2, u3⟩ := rd_loop hL hx (L - 2) 0 n _ c2 m4 (by omega) (by omega) d3 hc2T hP4 (txM_g g4 hT) (by rw [em4, si_c _ _ _ (by decide), si_s]) (by rw [em4, si_c _ _ _ (by decide), si_n _ _ _ (by decide), r3]; rfl)
          obtain ⟨r, a, b, v1, v2, v3, v4, v5, v6⟩ := rdOk_mono (fr_tr b2 d2) g4 u3
          refine ⟨r, a, b, ?_, ?_, v3, v4, v5, v6⟩
          · rw [hC, s0, s1, show 1 + 1 = 2 + 3 * 0 from rfl, u1, tr_bn_some]
            exact v1
          · rw [hR2, hf, tr_b2_some, if_pos (by rw [iI_1, iI_le (by omega) (by omega) (by omega) (by omega)]; omega), ← em4, u2, tr_bn_some]
            exact v2
        · have tst : f_X3_takes (iI (1 : Nat)) (iI (tx 1)) 4 c1 = some (0, c2) := by
            rw [t1]
            by_cases q : tx 1 - 48 < 1
            · rw [if_pos (by rw [iI_1, iI_lt (by omega) (by omega) (by omega) (by omega)]; omega)]
            · rw [if_neg (by rw [iI_1, iI_lt (by omega) (by omega) (by omega) (by omega)]; omega), if_pos (by rw [iI_6, iI_lt (by omega) (by omega) (by omega) (by omega)]; omega)]
          have s1 := c_stop (h := c1) hL hl1 (hc1T 1 hl1) tst
          have hfin : ∃ m5, f_X8_readNet hm = some (1, m5) ∧ gR hm m5 := by
            by_cases q : 0 ≤ tx 1 - 48 ∧ tx 1 - 48 ≤ 6
            · have hf := r_fig_yes (mo := 6) (P := 1) hL h1 (by omega) hT3 p3 hl1 q
              refine ⟨tr_si m3 0 3 (iI (1 + 1 : Nat)), ?_, gR_tr g3 (gR_0 _ _ (Or.inl rfl))⟩
              rw [hR2, hf, tr_b2_some, if_neg (by rw [iI_1, iI_le (by omega) (by omega) (by omega) (by omega)]; omega)]
            · refine ⟨m3, ?_, g3⟩
              rw [hR2, r_fig_no (mo := 6) (P := 1) hL h1 (by omega) hT3 p3 hl1 q, tr_b2_some, if_neg (by decide)]
          obtain ⟨m5, q1, q2⟩ := hfin
          refine ⟨1, c2, m5, ?_, q1, fr_tr b2 d2, q2, by omega, fun q => by omega⟩
          rw [hC, s0, s1, tr_bn_some]
          rfl
    · refine ⟨0, c1, m2, ?_, ?_, b2, g2, by omega, fun q => by omega⟩
      · rw [hC, c_stop (h := c1) hL hl0 (hc1T 0 hl0) (t0.2 c78), tr_bn_some]
        rfl
      · rw [hR, if_neg n0, if_neg (by rw [hT2.2 0 hl0, iI_78, iI_eq (by omega) (by omega) (by omega) (by omega)]; exact c78)]
        rfl
