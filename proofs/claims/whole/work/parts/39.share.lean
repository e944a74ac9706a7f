/-! the share of a departure in the slowest ring -/
def fct (k : Nat) : Nat := ([1, 1, 2, 6, 24, 120, 720] : List Nat).getD k 0
theorem f1_fct : ∀ k : Nat, k < 7 → tr_f1 k = iI (fct k : Nat) := by decide +kernel
theorem fct_s : ∀ m : Nat, m < 6 → fct (m + 1) = fct m * (m + 1) := by decide +kernel
theorem fct_b : ∀ m : Nat, m < 7 → 1 ≤ fct m ∧ fct m ≤ 720 := by decide +kernel
theorem pcn_ou0 : ∀ n : Nat, n < 7 → ∀ S : Nat, S < 64 → ∀ d : Nat, d < 6 → (S < 2 ^ n ∧ d < n ∧ S.testBit d = false) → pcn S 6 + 1 ≤ n := by decide +kernel
theorem pcn_out (n : Nat) (hn : n < 7) (S : Nat) (hS : S < 64) (h2 : S < 2 ^ n) (d : Nat) (hd : d < 6) (hdn : d < n) (hb : S.testBit d = false) : pcn S 6 + 1 ≤ n := pcn_ou0 n hn S hS d hd ⟨h2, hdn, hb⟩
theorem l64 : ∀ S : Nat, S < 64 → (iI S).toInt64 = lN S := by decide +kernel
theorem r_orders {n k : Nat} (hn : n ≤ 6) (hk : k + 1 ≤ n) : f_X8_orders (iI n) (iI k) = some (iI (fct k * fct (n - 1 - k) : Nat)) := by
  have k1 : tr_lp (fun q => f_X8_orders_L4 (iI k) q.1 q.2) (1, 2) = some (iI (fct k : Nat)) := by
    have key := tr_seq (f := fun q => f_X8_orders_L4 (iI k) q.1 q.2) (fun m => (iI (fct m : Nat), iI (m + 1 : Nat))) (lo := 1) (hi := max 1 k) (r := iI (fct k : Nat)) (by omega) (fun m h1 h2 => by
      show f_X8_orders_L4 (iI k) (iI (fct m : Nat)) (iI (m + 1 : Nat)) = _
      unfold f_X8_orders_L4
      rw [if_neg (by rw [iI_lt (by omega) (by omega) (by omega) (by omega)]; omega)]
      unfold tr_bd
      rw [iI_mul, iI_1, iI_add, fct_s m (by omega)]
      rfl) (by
      show f_X8_orders_L4 (iI k) (iI (fct (max 1 k) : Nat)) (iI (max 1 k + 1 : Nat)) = _
      unfold f_X8_orders_L4
      rw [if_pos (by rw [iI_lt (by omega) (by omega) (by omega) (by omega)]; omega)]
      by_cases c : k = 0
      · subst c; rfl
      · rw [show max 1 k = k by omega])
    exact key
  unfold f_X8_orders
  rw [k1, tr_bn_some]
  unfold f_X8_orders_E19
  have e1 : iI (n : Int) - 1 - iI (k : Int) = iI (n - 1 - k : Nat) := by
    rw [iI_1, iI_sub, iI_sub]
    congr 1
    omega
  have key := tr_seq (f := fun q => f_X8_orders_L21 (iI n) (iI k) q.1 q.2) (fun m => (iI (fct k * fct m : Nat), iI (m + 1 : Nat))) (lo := 1) (hi := max 1 (n - 1 - k)) (r := iI (fct k * fct (n - 1 - k) : Nat)) (by omega) (fun m h1 h2 => by
    show f_X8_orders_L21 (iI n) (iI k) (iI (fct k * fct m : Nat)) (iI (m + 1 : Nat)) = _
    unfold f_X8_orders_L21
    rw [e1, if_neg (by rw [iI_lt (by omega) (by omega) (by omega) (by omega)]; omega)]
    unfold tr_bd
    rw [iI_mul, iI_1, iI_add, fct_s m (by omega), ← Nat.mul_assoc]
    rfl) (by
    show f_X8_orders_L21 (iI n) (iI k) (iI (fct k * fct (max 1 (n - 1 - k)) : Nat)) (iI (max 1 (n - 1 - k) + 1 : Nat)) = _
    unfold f_X8_orders_L21
    rw [e1, if_pos (by rw [iI_lt (by omega) (by omega) (by omega) (by omega)]; omega)]
    by_cases c : n - 1 - k = 0
    · rw [c]; rfl
    · rw [show max 1 (n - 1 - k) = n - 1 - k by omega])
  have h0 : (iI (fct k : Nat), (2 : Int32)) = (iI (fct k * fct 1 : Nat), iI (1 + 1 : Nat)) := by
    rw [show fct 1 = 1 from rfl, Nat.mul_one]
    rfl
  rw [h0, key]
  rfl
/-! the pace of each set -/
noncomputable def PS (n : Nat) (w : Nat → Int) (S : Nat) : Int := @dite _ (∃ P, isPace n w (fun k => S.testBit k) P) (Classical.propDecidable _) (fun h => Classical.choose h) (fun _ => 0)
theorem PS_is {n : Nat} {w : Nat → Int} {S : Nat} {P : Int} (h : isPace n w (fun k => S.testBit k) P) : PS n w S = P := by
  have hex : ∃ P, isPace n w (fun k => S.testBit k) P := ⟨P, h⟩
  unfold PS
  rw [dif_pos hex]
  exact isPace_one (Classical.choose_spec hex) h
noncomputable def pv (n : Nat) (w : Nat → Int) (S : Nat) : Int := max 0 (PS n w S)
theorem isPace_b {n : Nat} {w : Nat → Int} {som : Nat → Bool} {P : Int} (h : isPace n w som P) : -1 ≤ P ∧ P ≤ 540 := by
  rcases h with ⟨h, -⟩ | ⟨h1, h2, -⟩ <;> omega
theorem isPace_le {n : Nat} {w : Nat → Int} {s1 s2 : Nat → Bool} {P Q : Int} (h1 : isPace n w s1 P) (h2 : isPace n w s2 Q) (hs : ∀ y, s1 y = true → s2 y = true) : P ≤ Q := by
  have hq := isPace_b h2
  rcases h1 with ⟨h, -⟩ | ⟨a1, a2, a3, x, b, a4, a5, a6⟩
  · omega
  · have hin : ∀ y ∈ x :: b, s2 y = true := fun y hy => hs y (a5 y hy)
    rcases h2 with ⟨-, g⟩ | ⟨g1, g2, g3, -⟩
    · exact absurd hin (g x b a4)
    · have := g3 x b a4 hin
      rw [a6] at this
      exact Int.le_of_mul_le_mul_right this (by omega)
section SHR
variable {n d : Nat} {w : Nat → Int}
def fT (n S : Nat) : Nat := fct (pcn S 6) * fct (n - 1 - pcn S 6)
noncomputable def upF (n d : Nat) (w : Nat → Int) (m : Nat) : Int := itr (fun S a => if S.testBit d then a else a + (fT n S : Int) * (pv n w (S ||| 2 ^ d) - pv n w S)) m 0
def lowF (n d m : Nat) : Nat := itr (fun S a => if S.testBit d then a else a + fT n S) m 0
theorem low_all : ∀ n : Nat, n < 7 → ∀ d : Nat, d < 6 → d < n → lowF n d (2 ^ n) = fct n := by decide +kernel
/-- what both sides hold of the sets -/
def hasP (n : Nat) (w : Nat → Int) (f : Nat → Int32) (m : Nat) : Prop := ∀ S, S < m → f S = iI (pv n w S) ∧ ∃ P, isPace n w (fun k => S.testBit k) P
theorem upF_b {f : Nat → Int32} (hp : hasP n w f (2 ^ n)) (hd : d < n) : ∀ m, m ≤ 2 ^ n → 0 ≤ upF n d w m ∧ upF n d w m ≤ 540 * (lowF n d m : Int) := by
  intro m
  induction m with
  | zero => intro _; exact ⟨Int.le_refl _, Int.le_refl _⟩
  | succ m ih =>
    intro hm
    have h1 := ih (by omega)
    show 0 ≤ (if m.testBit d then upF n d w m else upF n d w m + (fT n m : Int) * (pv n w (m ||| 2 ^ d) - pv n w m)) ∧ (if m.testBit d then upF n d w m else upF n d w m + (fT n m : Int) * (pv n w (m ||| 2 ^ d) - pv n w m)) ≤ 540 * ((if m.testBit d then lowF n d m else lowF n d m + fT n m : Nat) : Int)
    by_cases c : m.testBit d = true
    · rw [if_pos c, if_pos c]; exact h1
    · rw [if_neg c, if_neg c]
      have hor : m ||| 2 ^ d < 2 ^ n := Nat.or_lt_two_pow (by omega) (Nat.pow_lt_pow_right (by decide) hd)
      obtain ⟨-, P, hP⟩ := hp m (by omega)
      obtain ⟨-, Q, hQ⟩ := hp (m ||| 2 ^ d) hor
      have e1 : pv n w m = max 0 P := by unfold pv; rw [PS_is hP]
      have e2 : pv n w (m ||| 2 ^ d) = max 0 Q := by unfold pv; rw [PS_is hQ]
      have hPQ := isPace_le hP hQ (fun y hy => or_t.mpr (Or.inl hy))
      have bP := isPace_b hP
      have bQ := isPace_b hQ
      have x1 : 0 ≤ pv n w (m ||| 2 ^ d) - pv n w m := by rw [e1, e2]; omega
      have x2 : pv n w (m ||| 2 ^ d) - pv n w m ≤ 540 := by rw [e1, e2]; omega
      have y1 := Int.mul_nonneg (Int.natCast_nonneg (fT n m)) x1
      have y2 := Int.mul_le_mul_of_nonneg_left x2 (Int.natCast_nonneg (fT n m))
      generalize (fT n m : Int) * (pv n w (m ||| 2 ^ d) - pv n w m) = X at y1 y2
      omega
theorem w_added {h : tr_H} (hn : n ≤ 6) (hd : d < n) (hp : hasP n w (h.1 30) (2 ^ n)) : f_X4_added (iI d) (iI n) h = some (iI (upF n d w (2 ^ n))) := by
  have h64 : 2 ^ n ≤ 2 ^ 6 := Nat.pow_le_pow_right (by decide) hn
  unfold f_X4_added
  have key := tr_seq (f := fun q => f_X4_added_L5 (iI n) (iI d) h q.1 q.2) (fun m => (iI (upF n d w m), iI m)) (lo := 0) (hi := 2 ^ n) (r := iI (upF n d w (2 ^ n))) (Nat.zero_le _) (fun m _ hm => by
    have hm64 : m < 64 := by omega
    show f_X4_added_L5 (iI n) (iI d) h (iI (upF n d w m)) (iI m) = some (.inl (iI (if m.testBit d then upF n d w m else upF n d w m + (fT n m : Int) * (pv n w (m ||| 2 ^ d) - pv n w m)), iI (m + 1 : Nat)))
    unfold f_X4_added_L5
    rw [shl7 n (by omega), if_neg (by rw [iI_le (by omega) (by omega) (by omega) (by omega)]; omega)]
    by_cases c : m.testBit d = true
    · rw [if_neg (fun q => by rw [(bitz m hm64 d (by omega)).mp q] at c; cases c), if_pos c]
      unfold tr_bd
      rw [iI_1, iI_add]
      rfl
    · have c' : m.testBit d = false := by cases q : m.testBit d <;> simp_all
      have hor : m ||| 2 ^ d < 2 ^ n := Nat.or_lt_two_pow hm (Nat.pow_lt_pow_right (by decide) hd)
      have hpc := pcn_out n (by omega) m hm64 hm d (by omega) hd c'
      have e1 : iI (n : Int) - 1 - iI (pcn m 6 : Nat) = iI (n - 1 - pcn m 6 : Nat) := by
        rw [iI_1, iI_sub, iI_sub]
        congr 1
        omega
      have q1 := (hp m hm).1
      have q2 := (hp _ hor).1
      have q3 := f1_fct (pcn m 6) (by omega)
      have q4 := f1_fct (n - 1 - pcn m 6) (by omega)
      rw [if_pos ((bitz m hm64 d (by omega)).mpr c'), bcn m hm64, tr_bn_some, tr_gdI (by omega) (by omega) (by omega), if_neg c, e1, orb (by omega)]
      simp (disch := omega) only [tr_bd, tr_gdI, iI_ix, q1, q2, q3, q4]
      rw [iI_mul, iI_sub, iI_mul, iI_add, iI_1, iI_add]
      rfl) (by
    show f_X4_added_L5 (iI n) (iI d) h (iI (upF n d w (2 ^ n))) (iI (2 ^ n : Nat)) = _
    unfold f_X4_added_L5
    rw [shl7 n (by omega), if_pos (Int32.le_refl _)])
  rw [show ((0 : Int32), (0 : Int32)) = (iI (upF n d w 0), iI (0 : Nat)) from rfl, key]
  rfl
theorem r_share2 {h : tr_H} (hn : n ≤ 6) (hd : d < n) (hp : hasP n w (h.1 16) (2 ^ n)) : tr_lp (fun q => f_X8_share_L78 (iI n) (iI d) h q.1 q.2.1 q.2.2) (0, 0, 0) = some (iI (upF n d w (2 ^ n)), iI (lowF n d (2 ^ n) : Nat)) := by
  have h64 : 2 ^ n ≤ 2 ^ 6 := Nat.pow_le_pow_right (by decide) hn
  have key := tr_seq (f := fun q => f_X8_share_L78 (iI n) (iI d) h q.1 q.2.1 q.2.2) (fun m => (iI (upF n d w m), iI (lowF n d m : Nat), iI m)) (lo := 0) (hi := 2 ^ n) (r := (iI (upF n d w (2 ^ n)), iI (lowF n d (2 ^ n) : Nat))) (Nat.zero_le _) (fun m _ hm => by
    have hm64 : m < 64 := by omega
    show f_X8_share_L78 (iI n) (iI d) h (iI (upF n d w m)) (iI (lowF n d m : Nat)) (iI m) = some (.inl (iI (if m.testBit d then upF n d w m else upF n d w m + (fT n m : Int) * (pv n w (m ||| 2 ^ d) - pv n w m)), iI ((if m.testBit d then lowF n d m else lowF n d m + fT n m : Nat) : Int), iI (m + 1 : Nat)))
    unfold f_X8_share_L78
    rw [shl7 n (by omega), if_neg (by rw [iI_le (by omega) (by omega) (by omega) (by omega)]; omega), r_has hm64 (by omega), tr_bn_some]
    by_cases c : m.testBit d = true
    · rw [if_pos c, if_pos c, if_pos c, if_neg n10]
      unfold tr_bd
      rw [iI_1, iI_add]
      rfl
    · have c' : m.testBit d = false := by cases q : m.testBit d <;> simp_all
      have hor : m ||| 2 ^ d < 2 ^ n := Nat.or_lt_two_pow hm (Nat.pow_lt_pow_right (by decide) hd)
      have hpc := pcn_out n (by omega) m hm64 hm d (by omega) hd c'
      have q1 := (hp m hm).1
      have q2 := (hp _ hor).1
      rw [if_neg c, if_neg c, if_neg c, if_pos z00, l64 m hm64, r_many (K := 6) (by omega) (by omega), tr_bn_some, r_orders hn hpc, tr_bn_some, orb (by omega)]
      simp (disch := omega) only [tr_bd, tr_gdI, iI_ix, q1, q2]
      rw [iI_sub, iI_mul, iI_add, iI_add, iI_1, iI_add]
      rfl) (by
    show f_X8_share_L78 (iI n) (iI d) h (iI (upF n d w (2 ^ n))) (iI (lowF n d (2 ^ n) : Nat)) (iI (2 ^ n : Nat)) = _
    unfold f_X8_share_L78
    rw [shl7 n (by omega), if_pos (Int32.le_refl _)])
  exact key
theorem r_share1 {h : tr_H} (hP : tP h 3 n w) : ∃ h', tr_lp (fun q => f_X8_share_L25 (iI n) q.1 q.2) (iI (0 : Nat), h) = some h' ∧ gM h h' ∧ hasP n w (h'.1 16) (2 ^ n) := by
  have hn := hP.2.1.2.1
  have h64 : 2 ^ n ≤ 2 ^ 6 := Nat.pow_le_pow_right (by decide) hn
  obtain ⟨r, k1, k2, k3⟩ := tr_inv (f := fun q => f_X8_share_L25 (iI n) q.1 q.2) (fun m s => ∃ h1, s = (iI m, h1) ∧ gM h h1 ∧ hasP n w (h1.1 16) m) (fun h1 => gM h h1 ∧ hasP n w (h1.1 16) (2 ^ n)) (hi := 2 ^ n) (by
    rintro m s hm ⟨h1, rfl, g1, g2⟩
    have hm64 : m < 64 := by omega
    obtain ⟨P, h2, e1, e2, e3⟩ := r_sixt (mask := m) hm64 (tP_M g1 hP)
    have hb := isPace_b e3
    have hpv : pv n w m = max 0 P := by unfold pv; rw [PS_is e3]
    have e16 : h2.1 16 = h1.1 16 := e2.1 16 (by decide) (by decide) (by decide)
    refine ⟨(iI (m + 1 : Nat), tr_si h2 16 m (iI (pv n w m))), ?_, _, rfl, gM_tr g1 (gM_tr (gM_R e2) (gM_f (fr_si (L := [16]) _ _ _ (by simp)) (by decide) (by decide))), fun S hS => ?_⟩
    · show f_X8_share_L25 (iI n) (iI m) h1 = _
      unfold f_X8_share_L25
      rw [shl7 n (by omega), if_neg (by rw [iI_le (by omega) (by omega) (by omega) (by omega)]; omega), e1, tr_b2_some]
      by_cases c : 0 ≤ P
      · rw [if_pos (show (0 : Int32) ≤ iI P by rw [iI_0, iI_le (by omega) (by omega) (by omega) (by omega)]; exact c), tr_gdI (by omega) (by omega) (by omega), iI_ix (by omega), hpv, show max 0 P = P by omega]
        unfold tr_bd
        rw [iI_1, iI_add]
        rfl
      · rw [if_neg (show ¬ (0 : Int32) ≤ iI P by rw [iI_0, iI_le (by omega) (by omega) (by omega) (by omega)]; exact c), tr_gdI (by omega) (by omega) (by omega), iI_ix (by omega), hpv, show max 0 P = 0 by omega]
        unfold tr_bd
        rw [iI_1, iI_add]
        rfl
    · by_cases e : S = m
      · rw [e, si_s]
        exact ⟨rfl, P, e3⟩
      · rw [si_n _ _ _ e, e16]
        exact g2 S (by omega)) (by
    rintro s ⟨h1, rfl, g1, g2⟩
    refine ⟨h1, ?_, g1, g2⟩
    show f_X8_share_L25 (iI n) (iI (2 ^ n : Nat)) h1 = _
    unfold f_X8_share_L25
    rw [shl7 n (by omega), if_pos (Int32.le_refl _)]) 0 (iI (0 : Nat), h) (Nat.zero_le _) ⟨h, rfl, gM_rf _, fun S hS => by omega⟩
  exact ⟨r, k1, k2, k3⟩
end SHR
theorem s_share : ∀ (v0 : Int32) (v1 : Int32) (hx hm : tr_H), Rl hx hm → ∃ (r0 : Int32) (gx gm : tr_H), f_X7_share v0 v1 hx = some (r0, gx) ∧ f_X8_share v0 v1 hm = some (r0, gm) ∧ Rl gx gm := by
  intro v0 v1 hx hm hR
  obtain ⟨v, hv, rfl⟩ := ex_iI v0
  have hR0 := Rl_0 hR
  obtain ⟨m0, em0⟩ : ∃ m0, m0 = tr_si hm 0 0 0 := ⟨_, rfl⟩
  rw [← em0] at hR0
  obtain ⟨n, w, hN, hP⟩ := Rl_net hR0
  have h6 := hN.2.1.2.1
  have h1 := hN.2.1.1
  unfold f_X7_share f_X8_share
  simp only [tr_bd]
  rw [← em0, n_has hN hv.1 hv.2, r_nod hP hv, tr_bn_some, tr_bn_some]
  by_cases c1 : 0 ≤ v ∧ v < n
  · obtain ⟨d, rfl⟩ : ∃ d : Nat, v = (d : Int) := ⟨v.toNat, by omega⟩
    rw [if_pos c1, if_pos c1, if_neg n10, if_pos z00]
    obtain ⟨x1, a1, a2, -, a4⟩ := w_fill hN
    have hpx : hasP n w (x1.1 30) (2 ^ n) := fun S hS => by
      obtain ⟨P, g1, g2⟩ := a4 S hS
      exact ⟨by rw [g2]; unfold pv; rw [PS_is g1], P, g1⟩
    obtain ⟨m1, b1, b2, b3⟩ := r_share1 hP
    have hN1 := tN_fr a2 (by simp) (by simp) hN
    have hub := upF_b (d := d) hpx (by omega) (2 ^ n) (Nat.le_refl _)
    have hlow := low_all n (by omega) d (by omega) (by omega)
    have hfb := fct_b n (by omega)
    rw [hlow] at hub
    obtain ⟨U, eU⟩ : ∃ U : Nat, upF n d w (2 ^ n) = (U : Int) := ⟨(upF n d w (2 ^ n)).toNat, by omega⟩
    rw [a1, tr_bn_some, hN1.2.2.1, tr_gdI (by omega) (by omega) (by omega), iI_ix (by omega), f1_fct n (by omega), w_added h6 (by omega) hpx, tr_bn_some, show (0 : Int32).toNatClampNeg = 0 from rfl, hP.2.2.1, show ((0 : Int32), m0) = (iI (0 : Nat), m0) from rfl, b1, tr_bn_some]
    unfold f_X8_share_E69
    rw [r_share2 h6 (by omega) b3, tr_bn_some]
    unfold f_X8_share_E147
    rw [hlow, eU, iI_60, iI_mul, iI_mul, show ((fct n : Nat) : Int) * 60 = ((60 * fct n : Nat) : Int) by omega, show (60 : Int) * ((fct n : Nat) : Int) = ((60 * fct n : Nat) : Int) by omega, c_told (by omega) (by omega) (by omega), tr_bn_some, r_fraction (by omega) (by omega) (by omega), tr_bn_some]
    exact ⟨_, _, _, rfl, rfl, Rl_fr (fr_up a2 (by decide)) b2 hR0⟩
  · rw [if_neg c1, if_neg c1, if_pos z00, if_neg n10]
    exact ⟨_, _, _, rfl, rfl, hR0⟩
