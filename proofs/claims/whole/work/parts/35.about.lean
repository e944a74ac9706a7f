/-! about: a look at each wait -/
theorem cnt_cg {p q : Nat → Bool} : ∀ k, (∀ j, j < k → p j = q j) → cnt p k = cnt q k := by
  intro k
  induction k with
  | zero => intro _; rfl
  | succ k ih =>
    intro h
    unfold cnt
    rw [ih (fun j hj => h j (by omega)), h k (by omega)]
theorem cnt_no {p : Nat → Bool} {m : Nat} : ∀ d, (∀ j, m ≤ j → j < m + d → p j = false) → cnt p (m + d) = cnt p m := by
  intro d
  induction d with
  | zero => intro _; rfl
  | succ d ih =>
    intro h
    show cnt p (m + d) + (if p (m + d) then 1 else 0) = _
    rw [ih (fun j h1 h2 => h j h1 (by omega)), h (m + d) (by omega) (by omega)]
    rfl
theorem tb_eq {a b : Bool} (h : a = true ↔ b = true) : a = b := by
  cases a <;> cases b <;> simp_all
noncomputable def pB (P : Prop) : Bool := @decide P (Classical.propDecidable P)
theorem pB_t {P : Prop} (h : P) : pB P = true := @decide_eq_true P (Classical.propDecidable P) h
theorem pB_f {P : Prop} (h : ¬ P) : pB P = false := @decide_eq_false P (Classical.propDecidable P) h
theorem pB_i {P : Prop} : pB P = true ↔ P := ⟨fun h => Classical.byContradiction (fun q => by rw [pB_f q] at h; exact absurd h (by decide)), pB_t⟩
noncomputable def svB (n : Nat) (w : Nat → Int) (c : Nat) : Bool := pB (c / 6 < n ∧ c % 6 < n ∧ w c ≠ -9 ∧ ¬ onR n w (c / 6) (c % 6))
noncomputable def crB (n : Nat) (w : Nat → Int) (c : Nat) : Bool := pB (crR n w (c / 6) (c % 6))
noncomputable def ddN (n : Nat) (w : Nat → Int) (m : Nat) : Nat := itr (fun c a => if crB n w c then a ||| 2 ^ (c / 6) else a) m 0
section ABT
variable {n : Nat} {w : Nat → Int}
theorem crR_lt {a b : Nat} (h : crR n w a b) : a < n ∧ b < n := eB_b _ _ (onR_ed (crR_on h))
theorem svB_out {c : Nat} (h : n ≤ c / 6 ∨ n ≤ c % 6) : svB n w c = false := pB_f (fun q => by omega)
theorem crB_out {c : Nat} (h : n ≤ c / 6 ∨ n ≤ c % 6) : crB n w c = false := pB_f (fun q => by have := crR_lt q; omega)
theorem ddN_no {m : Nat} : ∀ d, (∀ j, m ≤ j → j < m + d → crB n w j = false) → ddN n w (m + d) = ddN n w m := by
  intro d
  induction d with
  | zero => intro _; rfl
  | succ d ih =>
    intro h
    have h1 := ih (fun j h1 h2 => h j h1 (by omega))
    show (if crB n w (m + d) then ddN n w (m + d) ||| 2 ^ ((m + d) / 6) else ddN n w (m + d)) = _
    rw [h (m + d) (by omega) (by omega), h1]
    rfl
theorem ddN_t (a : Nat) : ∀ m, (ddN n w m).testBit a = true ↔ ∃ c, c < m ∧ crB n w c = true ∧ c / 6 = a := by
  intro m
  induction m with
  | zero =>
    constructor
    · intro h
      simp [ddN, itr] at h
    · rintro ⟨c, h, -⟩
      omega
  | succ m ih =>
    have e : ddN n w (m + 1) = if crB n w m then ddN n w m ||| 2 ^ (m / 6) else ddN n w m := rfl
    rw [e]
    by_cases c : crB n w m = true
    · rw [if_pos c, or_t, ih]
      constructor
      · rintro (⟨c', h1, h2⟩ | h)
        · exact ⟨c', by omega, h2⟩
        · exact ⟨m, by omega, c, h.symm⟩
      · rintro ⟨c', h1, h2, h3⟩
        by_cases q : c' = m
        · subst q
          exact Or.inr h3.symm
        · exact Or.inl ⟨c', by omega, h2, h3⟩
    · rw [if_neg c, ih]
      constructor
      · rintro ⟨c', h1, h2⟩
        exact ⟨c', by omega, h2⟩
      · rintro ⟨c', h1, h2, h3⟩
        have q : c' ≠ m := fun q => by subst q; exact c h2
        exact ⟨c', by omega, h2, h3⟩
/-- the three numbers, as far as a cell -/
noncomputable def tri (n : Nat) (w : Nat → Int) (m : Nat) : Int32 × Int32 × Int32 := (iI (cnt (svB n w) m : Nat), iI (cnt (crB n w) m : Nat), iI (ddN n w m : Nat))
theorem tri_no {m d : Nat} (h : ∀ j, m ≤ j → j < m + d → n ≤ j / 6 ∨ n ≤ j % 6) : tri n w (m + d) = tri n w m := by
  unfold tri
  rw [cnt_no d (fun j h1 h2 => svB_out (h j h1 h2)), cnt_no d (fun j h1 h2 => crB_out (h j h1 h2)), ddN_no d (fun j h1 h2 => crB_out (h j h1 h2))]
theorem tri_36 (h6 : n ≤ 6) : tri n w (6 * n) = tri n w 36 := by
  have := tri_no (n := n) (w := w) (m := 6 * n) (d := 36 - 6 * n) (fun j h1 h2 => by omega)
  rw [show 6 * n + (36 - 6 * n) = 36 by omega] at this
  exact this.symm
theorem tri_row (h6 : n ≤ 6) {f : Nat} : tri n w (6 * f + n) = tri n w (6 * (f + 1)) := by
  have := tri_no (n := n) (w := w) (m := 6 * f + n) (d := 6 - n) (fun j h1 h2 => by omega)
  rw [show 6 * f + n + (6 - n) = 6 * (f + 1) by omega] at this
  exact this.symm
theorem w_each {H : tr_H} (hH : gainsH H 2 n w) {f : Nat} (hf : f < n) {t : Nat} (ht : t < n) : f_X7_aboutEachWait_L36 H (iI f) (tri n w (6 * f + t)).1 (tri n w (6 * f + t)).2.1 (tri n w (6 * f + t)).2.2 (iI t) = some (.inl ((tri n w (6 * f + t + 1)).1, (tri n w (6 * f + t + 1)).2.1, (tri n w (6 * f + t + 1)).2.2, iI (t + 1 : Nat))) := by
  have hw := hH.1.2.1
  have h6 := hw.2.1
  have ho := n_of hH.1 (a := (f : Int)) (b := (t : Int)) (by omega) (by omega) (by omega) (by omega)
  rw [woI_in hf ht] at ho
  have b3 := okn_b hw (c := 6 * f + t) (by omega)
  have e1 : (6 * f + t) / 6 = f := by omega
  have e2 : (6 * f + t) % 6 = t := by omega
  have hcr := w_isCritical hH (a := f) (b := t) (by omega) (by omega)
  have hJ : ∀ s : Int32, f_X7_aboutEachWait_J81 (iI f) (iI t) H (tri n w (6 * f + t)).2.1 (tri n w (6 * f + t)).2.2 s = some (.inl (s, (tri n w (6 * f + t + 1)).2.1, (tri n w (6 * f + t + 1)).2.2, iI (t + 1 : Nat))) := by
    intro s
    unfold f_X7_aboutEachWait_J81 tri
    by_cases c : crR n w f t
    · have cb : crB n w (6 * f + t) = true := by unfold crB; rw [e1, e2]; exact pB_t c
      have z1 : cnt (crB n w) (6 * f + t + 1) = cnt (crB n w) (6 * f + t) + 1 := by
        show cnt (crB n w) (6 * f + t) + (if crB n w (6 * f + t) then 1 else 0) = _
        rw [if_pos cb]
      have z2 : ddN n w (6 * f + t + 1) = ddN n w (6 * f + t) ||| 2 ^ f := by
        show (if crB n w (6 * f + t) then ddN n w (6 * f + t) ||| 2 ^ ((6 * f + t) / 6) else ddN n w (6 * f + t)) = _
        rw [if_pos cb, e1]
      rw [hcr.1 c, tr_bn_some, if_neg n10, z1, z2]
      simp only [tr_bd]
      rw [orb (by omega), iI_1, iI_add, iI_add]
      rfl
    · have cb : crB n w (6 * f + t) = false := by unfold crB; rw [e1, e2]; exact pB_f c
      have z1 : cnt (crB n w) (6 * f + t + 1) = cnt (crB n w) (6 * f + t) := by
        show cnt (crB n w) (6 * f + t) + (if crB n w (6 * f + t) then 1 else 0) = _
        rw [cb]; rfl
      have z2 : ddN n w (6 * f + t + 1) = ddN n w (6 * f + t) := by
        show (if crB n w (6 * f + t) then ddN n w (6 * f + t) ||| 2 ^ ((6 * f + t) / 6) else ddN n w (6 * f + t)) = _
        rw [cb]; rfl
      rw [hcr.2 c, tr_bn_some, if_pos rfl, z1, z2]
      simp only [tr_bd]
      rw [iI_1, iI_add]
      rfl
  unfold f_X7_aboutEachWait_L36
  rw [hH.1.2.2.1, if_neg (by rw [iI_le (by omega) (by omega) (by omega) (by omega)]; omega), ho, tr_bn_some]
  have hsv : ∀ b : Bool, svB n w (6 * f + t) = b → (tri n w (6 * f + t + 1)).1 = iI ((cnt (svB n w) (6 * f + t) + (if b then 1 else 0) : Nat) : Int) := by
    intro b hb
    show iI ((cnt (svB n w) (6 * f + t) + (if svB n w (6 * f + t) then 1 else 0) : Nat) : Int) = _
    rw [hb]
  by_cases c : w (6 * f + t) = -9
  · rw [c, if_pos (show iI (-9) = -9 from rfl), hJ, hsv false (pB_f (fun q => q.2.2.1 c))]
    rfl
  · have he : eP (eB n w) f t := by simp [eP, eB]; exact ⟨hf, ht, c⟩
    have hcb := w_comesBack hH he
    rw [if_neg (show ¬ iI (w (6 * f + t)) = -9 by rw [iI_m9, iI_eq (by omega) (by omega) (by omega) (by omega)]; exact c)]
    by_cases c2 : onR n w f t
    · rw [hcb.1 c2, tr_bn_some, if_neg n10, hJ, hsv false (pB_f (fun q => q.2.2.2 (by rw [e1, e2]; exact c2)))]
      rfl
    · rw [hcb.2 c2, tr_bn_some, if_pos rfl]
      simp only [tr_bd]
      rw [hJ, hsv true (pB_t ⟨by omega, by omega, c, by rw [e1, e2]; exact c2⟩)]
      unfold tri
      dsimp only
      rw [iI_1, iI_add]
      rfl
theorem w_eachAll {h : tr_H} (hN : tN h 2 n w) (v : Int32) : ∃ h', f_X7_aboutEachWait v h = some (if v = 3 then (tri n w 36).1 else if v = 4 then (tri n w 36).2.1 else (tri n w 36).2.2, h') ∧ fr LX h h' := by
  have hw := hN.2.1
  have h6 := hw.2.1
  obtain ⟨f, g, k1, k2⟩ := w_comp hN
  have fx : fr LX h (tr_sa (tr_si (tr_sa h 22 f) 21 2 (iI (pac n w))) 23 g) := fr_tr (b := tr_si (tr_sa h 22 f) 21 2 (iI (pac n w))) (fr_tr (b := tr_sa h 22 f) (fr_sa _ _ (by decide)) (fr_si _ _ _ (by decide))) (fr_sa _ _ (by decide))
  generalize tr_sa (tr_si (tr_sa h 22 f) 21 2 (iI (pac n w))) 23 g = H at k1 k2 fx
  refine ⟨H, ?_, fx⟩
  have hin : ∀ f, f < n → tr_lp (fun q => f_X7_aboutEachWait_L36 H (iI f) q.1 q.2.1 q.2.2.1 q.2.2.2) ((tri n w (6 * f)).1, (tri n w (6 * f)).2.1, (tri n w (6 * f)).2.2, iI (0 : Nat)) = some (tri n w (6 * (f + 1))) := by
    intro f hf
    have key := tr_seq (f := fun q => f_X7_aboutEachWait_L36 H (iI f) q.1 q.2.1 q.2.2.1 q.2.2.2) (fun t => ((tri n w (6 * f + t)).1, (tri n w (6 * f + t)).2.1, (tri n w (6 * f + t)).2.2, iI t)) (lo := 0) (hi := n) (r := tri n w (6 * f + n)) (by omega) (fun t _ ht => w_each k2 hf ht) (by
      show f_X7_aboutEachWait_L36 H (iI f) _ _ _ (iI n) = _
      unfold f_X7_aboutEachWait_L36
      rw [k2.1.2.2.1, if_pos (Int32.le_refl _)])
    rw [tri_row h6] at key
    exact key
  have key := tr_seq (f := fun q => f_X7_aboutEachWait_L21 H q.1 q.2.1 q.2.2.1 q.2.2.2) (fun f => ((tri n w (6 * f)).1, (tri n w (6 * f)).2.1, (tri n w (6 * f)).2.2, iI f)) (lo := 0) (hi := n) (r := tri n w (6 * n)) (by omega) (fun f _ hf => by
    show f_X7_aboutEachWait_L21 H _ _ _ (iI f) = _
    unfold f_X7_aboutEachWait_L21
    rw [k2.1.2.2.1, if_neg (by rw [iI_le (by omega) (by omega) (by omega) (by omega)]; omega), show ((tri n w (6 * f)).1, (tri n w (6 * f)).2.1, (tri n w (6 * f)).2.2, (0 : Int32)) = ((tri n w (6 * f)).1, (tri n w (6 * f)).2.1, (tri n w (6 * f)).2.2, iI (0 : Nat)) from rfl, hin f hf, tr_bn_some]
    unfold f_X7_aboutEachWait_E117 tr_bd
    rw [iI_1, iI_add]
    rfl) (by
    show f_X7_aboutEachWait_L21 H _ _ _ (iI n) = _
    unfold f_X7_aboutEachWait_L21
    rw [k2.1.2.2.1, if_pos (Int32.le_refl _)])
  unfold f_X7_aboutEachWait
  rw [k1, tr_bn_some, show ((0 : Int32), (0 : Int32), (0 : Int32), (0 : Int32)) = ((tri n w (6 * 0)).1, (tri n w (6 * 0)).2.1, (tri n w (6 * 0)).2.2, iI (0 : Nat)) from rfl, key, tr_bn_some, tri_36 h6]
  unfold f_X7_aboutEachWait_E123
  by_cases c3 : v = 3
  · rw [if_pos c3, if_pos c3]
  · rw [if_neg c3, if_neg c3]
    by_cases c4 : v = 4
    · rw [if_pos c4, if_pos c4]
    · rw [if_neg c4, if_neg c4]
/-- the same three by the reference's bits -/
theorem tri_bits (hw : okn n w) {rwt cw cd : Nat} (h1 : ∀ a b, a < 6 → b < 6 → (rwt.testBit (6 * a + b) = true ↔ onR n w a b)) (h2 : ∀ a b, a < 6 → b < 6 → (cw.testBit (6 * a + b) = true ↔ crR n w a b)) (h3 : ∀ a, cd.testBit a = true ↔ ∃ b, crR n w a b) : tri n w 36 = (iI (nwt w) - iI (pcn rwt 36), iI (pcn cw 36), iI cd) := by
  have h6 := hw.2.1
  have ec : ∀ c, c < 36 → c = 6 * (c / 6) + c % 6 := fun c _ => by omega
  have s1 : ∀ k, k ≤ 36 → cnt (fun c => decide (w c ≠ -9)) k = cnt (svB n w) k + cnt (fun j => rwt.testBit j) k := by
    intro k
    induction k with
    | zero => intro _; rfl
    | succ k ih =>
      intro hk
      have hb := h1 (k / 6) (k % 6) (by omega) (by omega)
      rw [← ec k (by omega)] at hb
      show cnt (fun c => decide (w c ≠ -9)) k + (if decide (w k ≠ -9) then 1 else 0) = (cnt (svB n w) k + (if svB n w k then 1 else 0)) + (cnt (fun j => rwt.testBit j) k + (if rwt.testBit k then 1 else 0))
      rw [ih (by omega)]
      by_cases c : onR n w (k / 6) (k % 6)
      · have c2 : w k ≠ -9 := by
          have := onR_ed c
          simp [eP, eB] at this
          rw [ec k (by omega)]
          exact this.2.2
        rw [if_pos (decide_eq_true c2), show svB n w k = false from pB_f (fun q => q.2.2.2 c), hb.mpr c]
        simp
        omega
      · have c3 : rwt.testBit k = false := by
          apply Classical.byContradiction
          intro q
          exact c (hb.mp (nfb q))
        rw [c3]
        by_cases c2 : w k = -9
        · rw [show svB n w k = false from pB_f (fun q => q.2.2.1 c2)]
          simp [c2]
        · have hlt : k / 6 < n ∧ k % 6 < n := by
            apply Classical.byContradiction
            intro q
            exact c2 ((hw.2.2 k (by omega)).2 (by omega))
          rw [show svB n w k = true from pB_t ⟨hlt.1, hlt.2, c2, c⟩]
          simp [c2]
          omega
  have s2 : cnt (crB n w) 36 = pcn cw 36 := by
    rw [pcn_cnt]
    refine cnt_cg 36 (fun j hj => ?_)
    have hb := h2 (j / 6) (j % 6) (by omega) (by omega)
    rw [← ec j hj] at hb
    by_cases c : crR n w (j / 6) (j % 6)
    · rw [hb.mpr c]; exact pB_t c
    · have : cw.testBit j = false := by
        apply Classical.byContradiction
        intro q
        exact c (hb.mp (nfb q))
      rw [this]; exact pB_f c
  have s3 : ddN n w 36 = cd := by
    apply Nat.eq_of_testBit_eq
    intro i
    have : (ddN n w 36).testBit i = true ↔ cd.testBit i = true := by
      rw [ddN_t, h3]
      constructor
      · rintro ⟨c, q1, q2, rfl⟩
        exact ⟨c % 6, pB_i.mp q2⟩
      · rintro ⟨b, q⟩
        have hl := crR_lt q
        refine ⟨6 * i + b, by omega, ?_, by omega⟩
        unfold crB
        rw [show (6 * i + b) / 6 = i by omega, show (6 * i + b) % 6 = b by omega]
        exact pB_t q
    exact tb_eq this
  have s4 := s1 36 (Nat.le_refl _)
  unfold tri
  rw [s2, s3, iI_sub]
  unfold nwt
  rw [s4, pcn_cnt rwt, show ((cnt (svB n w) 36 + cnt (fun j => rwt.testBit j) 36 : Nat) : Int) - ((cnt (fun j => rwt.testBit j) 36 : Nat) : Int) = ((cnt (svB n w) 36 : Nat) : Int) by omega]
end ABT
/-- the least period, on the reference's side -/
theorem r_least {h : tr_H} {n : Nat} {w : Nat → Int} (hP : tP h 3 n w) : ∃ h', f_X8_leastPeriod h = some (iI ((max 0 (pac n w) + 60 - 1) / 60), h') ∧ mR h h' := by
  have hb := pac_b hP.2.1
  obtain ⟨q, eq⟩ : ∃ q : Nat, (max 0 (pac n w) + 60 - 1) / 60 = (q : Int) := ⟨((max 0 (pac n w) + 60 - 1) / 60).toNat, by omega⟩
  obtain ⟨r, k1, h1, k2, k3⟩ := tr_inv (f := fun z => f_X8_leastPeriod_L2 z.1 z.2) (fun m s => ∃ h1, s = (iI m, h1) ∧ mR h h1) (fun s => ∃ h1, s = (iI q, h1) ∧ mR h h1) (hi := q) (by
    rintro m s hm ⟨h1, rfl, f1⟩
    obtain ⟨h2, e2, f2⟩ := r_isPeriod (tP_R f1 hP) (d := (m : Int)) (by omega) (by omega)
    refine ⟨(iI (m + 1 : Nat), h2), ?_, h2, rfl, mR_tr f1 f2⟩
    show f_X8_leastPeriod_L2 (iI m) h1 = _
    unfold f_X8_leastPeriod_L2
    rw [e2, tr_b2_some, if_neg (show ¬ pac n w ≤ 60 * (m : Int) by omega), if_pos rfl]
    unfold tr_bd
    rw [iI_1, iI_add]
    rfl) (by
    rintro s ⟨h1, rfl, f1⟩
    obtain ⟨h2, e2, f2⟩ := r_isPeriod (tP_R f1 hP) (d := (q : Int)) (by omega) (by omega)
    refine ⟨(iI q, h2), ?_, h2, rfl, mR_tr f1 f2⟩
    show f_X8_leastPeriod_L2 (iI q) h1 = _
    unfold f_X8_leastPeriod_L2
    rw [e2, tr_b2_some, if_pos (show pac n w ≤ 60 * (q : Int) by omega), if_neg n10]) 0 (iI (0 : Nat), h) (by omega) ⟨h, rfl, mR_rf h⟩
  refine ⟨h1, ?_, k3⟩
  unfold f_X8_leastPeriod
  rw [show ((0 : Int32), h) = (iI (0 : Nat), h) from rfl, k1, tr_bn_some, k2, eq]
  rfl
theorem s_about : ∀ (v0 : Int32) (hx hm : tr_H), Rl hx hm → ∃ (r0 : Int32) (gx gm : tr_H), f_X7_about v0 hx = some (r0, gx) ∧ f_X8_about v0 hm = some (r0, gm) ∧ Rl gx gm := by
  intro v0 hx hm hR
  have hR0 := Rl_0 hR
  obtain ⟨m0, em0⟩ : ∃ m0, m0 = tr_si hm 0 0 0 := ⟨_, rfl⟩
  rw [← em0] at hR0
  obtain ⟨n0, w0, hN0, hP0⟩ := Rl_net hR0
  obtain ⟨S, B, m1, b1, b2, b7, -⟩ := r_find hP0
  have hR1 := Rl_fr (fr_rf _ _) (gM_R b2) hR0
  have hP1 := tP_R b2 hP0
  unfold f_X7_about f_X8_about
  simp only [tr_bd]
  rw [← em0, b1, tr_bn_some]
  by_cases c0 : v0 = 0
  · rw [if_pos c0, if_pos c0, show (0 : Int32).toNatClampNeg = 0 from rfl, hN0.2.2.1, hP1.2.2.1]
    exact ⟨_, _, _, rfl, rfl, hR1⟩
  rw [if_neg c0, if_neg c0]
  by_cases c1 : v0 = 1
  · rw [if_pos c1, if_pos c1, n_waits hN0, tr_bn_some, r_waits hP1, tr_bn_some]
    exact ⟨_, _, _, rfl, rfl, hR1⟩
  rw [if_neg c1, if_neg c1]
  by_cases c2 : v0 = 2
  · obtain ⟨x1, a1, a2, a3, -⟩ := w_fill hN0
    rw [if_pos c2, if_pos c2, a1, tr_bn_some, a3, b7.1]
    exact ⟨_, _, _, rfl, rfl, Rl_fr (fr_up a2 (by decide)) (gM_rf _) hR1⟩
  rw [if_neg c2, if_neg c2]
  obtain ⟨rwt, cw, cd, e1, e2, e3, e4, e5, e6, e7, e8, e9⟩ := rF_bits hP0.2.1 b7
  have hT := tri_bits hP0.2.1 e7 e8 e9
  obtain ⟨x1, a1, a2⟩ := w_eachAll hN0 v0
  have hR2 := Rl_fr a2 (gM_rf _) hR1
  by_cases c3 : v0 = 3
  · rw [if_pos c3, if_pos c3, a1, tr_b2_some, if_pos c3, r_waits hP1, tr_bn_some, e3, r_many e4 (by decide), tr_bn_some, hT]
    exact ⟨_, _, _, rfl, rfl, hR2⟩
  rw [if_neg c3, if_neg c3]
  by_cases c4 : v0 = 4
  · rw [if_pos c4, if_pos c4, a1, tr_b2_some, if_neg c3, if_pos c4, e1, r_many e5 (by decide), tr_bn_some, hT]
    exact ⟨_, _, _, rfl, rfl, hR2⟩
  rw [if_neg c4, if_neg c4]
  by_cases c5 : v0 = 5
  · rw [if_pos c5, if_pos c5, a1, tr_b2_some, if_neg c3, if_neg c4, e2, hT, ← iI_nat]
    exact ⟨_, _, _, rfl, rfl, hR2⟩
  rw [if_neg c5, if_neg c5]
  by_cases c6 : v0 = 6
  · have hb := pac_b hN0.2.1
    obtain ⟨x2, d1, d2⟩ := w_slow hN0
    obtain ⟨m2, g1, g2⟩ := r_least hP1
    rw [if_pos c6, if_pos c6, g1, tr_b2_some]
    unfold f_X7_leastPeriod
    simp only [tr_bd]
    rw [d1, tr_b2_some, tr_b2_some, iI_0, tr_maxI (by omega) (by omega) (by omega) (by omega), iI_60, iI_add, iI_1, iI_sub, iI_div (by omega) (by omega) (by omega) (by omega)]
    exact ⟨_, _, _, rfl, rfl, Rl_fr (fr_up d2 (by decide)) (gM_R g2) hR1⟩
  rw [if_neg c6, if_neg c6]
  have hR3 := hR1
  obtain ⟨⟨n, w, -, D, W, d1, d2, d3, -⟩, ⟨L, tx, ⟨-, ⟨t3, -⟩, t5, -⟩⟩, -, ⟨Z, z1, z2, z3, -⟩, -⟩ := hR1
  by_cases c7 : v0 = 7
  · rw [if_pos c7, if_pos c7, d2, d3]
    exact ⟨_, _, _, rfl, rfl, hR3⟩
  rw [if_neg c7, if_neg c7]
  by_cases c8 : v0 = 8
  · rw [if_pos c8, if_pos c8, z2, z3]
    exact ⟨_, _, _, rfl, rfl, hR3⟩
  rw [if_neg c8, if_neg c8]
  by_cases c9 : v0 = 9
  · rw [if_pos c9, if_pos c9, t3, t5]
    exact ⟨_, _, _, rfl, rfl, hR3⟩
  rw [if_neg c9, if_neg c9]
  exact ⟨_, _, _, rfl, rfl, hR3⟩
