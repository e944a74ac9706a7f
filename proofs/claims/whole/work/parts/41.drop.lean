/-! waits given up by chance: rings leave a departure by one wait alone -/
theorem edg_uq : ∀ (l : List Nat) (u e : Nat), (u :: l).Nodup → ∀ i j j', (i, j) ∈ edg u (l ++ [e]) → (i, j') ∈ edg u (l ++ [e]) → j = j' := by
  intro l
  induction l with
  | nil =>
    intro u e _ i j j' h1 h2
    have a1 : (i, j) = (u, e) := List.mem_singleton.mp h1
    have a2 : (i, j') = (u, e) := List.mem_singleton.mp h2
    have b1 := congrArg Prod.snd a1
    have b2 := congrArg Prod.snd a2
    exact b1.trans b2.symm
  | cons y l ih =>
    intro u e hn i j j' h1 h2
    have hsrc : ∀ (l : List Nat) (u e i j : Nat), (i, j) ∈ edg u (l ++ [e]) → i ∈ u :: l := by
      intro l
      induction l with
      | nil =>
        intro u e i j h
        have a1 : (i, j) = (u, e) := List.mem_singleton.mp h
        have := congrArg Prod.fst a1
        simp at this
        simp [this]
      | cons z l ih2 =>
        intro u e i j h
        rcases List.mem_cons.mp h with q | q
        · have := congrArg Prod.fst q
          simp at this
          simp [this]
        · exact List.mem_cons_of_mem _ (ih2 z e i j q)
    have hu : u ∉ y :: l := (List.nodup_cons.mp hn).1
    have hn' : (y :: l).Nodup := (List.nodup_cons.mp hn).2
    rcases List.mem_cons.mp h1 with q1 | q1
    · rcases List.mem_cons.mp h2 with q2 | q2
      · have b1 := congrArg Prod.snd q1
        have b2 := congrArg Prod.snd q2
        exact b1.trans b2.symm
      · have b1 : i = u := congrArg Prod.fst q1
        exact absurd (by rw [← b1]; exact hsrc _ _ _ _ _ q2) hu
    · rcases List.mem_cons.mp h2 with q2 | q2
      · have b1 : i = u := congrArg Prod.fst q2
        exact absurd (by rw [← b1]; exact hsrc _ _ _ _ _ q1) hu
      · exact ih y e hn' i j j' q1 q2
theorem wsm_cg {f g : Nat → Nat → Int} : ∀ (l : List Nat) (u : Nat), (∀ i j, (i, j) ∈ edg u l → f i j = g i j) → wsm f u l = wsm g u l := by
  intro l
  induction l with
  | nil => intro u _; rfl
  | cons y l ih =>
    intro u h
    show f u y + wsm f y l = g u y + wsm g y l
    rw [h u y (by simp [edg]), ih y (fun i j q => h i j (by simp [edg, q]))]
theorem chn_cg {P Q : Nat → Nat → Prop} : ∀ (l : List Nat) (u : Nat), (∀ i j, (i, j) ∈ edg u l → P i j → Q i j) → chn P u l → chn Q u l := by
  intro l
  induction l with
  | nil => intro u _ _; trivial
  | cons y l ih =>
    intro u h hc
    exact ⟨h u y (by simp [edg]) hc.1, ih y (fun i j q => h i j (by simp [edg, q])) hc.2⟩
theorem ring_sub {n : Nat} {W W2 : Nat → Int} {x : Nat} {b : List Nat} (hr : ring (eP (eB n W)) x b) (h : ∀ i j, (i, j) ∈ edg x (b ++ [x]) → W2 (6 * i + j) = W (6 * i + j)) : ring (eP (eB n W2)) x b ∧ wsm (wN W2) x (b ++ [x]) = wsm (wN W) x (b ++ [x]) := by
  refine ⟨⟨hr.1, chn_cg _ _ (fun i j q hp => ?_) hr.2⟩, wsm_cg _ _ (fun i j q => h i j q)⟩
  simp [eP, eB] at hp ⊢
  rw [h i j q]
  exact hp
theorem kept_iff {n : Nat} {W : Nat → Int} (hw : okn n W) {p : Int} (hp : 0 ≤ p) : pac n W ≤ 60 * p ↔ ∀ x b, ring (eP (eB n W)) x b → 60 * wsm (wN W) x (b ++ [x]) ≤ 60 * p * (b.length + 1 : Nat) := by
  rcases pac_all hw with ⟨h1, h2⟩ | ⟨h1, h2, h3, x0, b0, h4, h5⟩
  · exact ⟨fun _ x b hr => absurd hr (h2 x b), fun _ => by omega⟩
  · constructor
    · intro q x b hr
      have k1 := h3 x b hr
      have k2 : pac n W * (b.length + 1 : Nat) ≤ 60 * p * (b.length + 1 : Nat) := Int.mul_le_mul_of_nonneg_right q (by omega)
      omega
    · intro q
      have k1 := q x0 b0 (mem_ringsL.mp h4).1
      rw [h5] at k1
      exact Int.le_of_mul_le_mul_right k1 (by omega)
section DRP
variable {n d : Nat} {w W : Nat → Int} {p : Int}
def w0 (w : Nat → Int) (d m : Nat) : Nat → Int := fun c => if c / 6 = d ∧ c % 6 < m then -9 else w c
def w1 (n : Nat) (w : Nat → Int) (d t : Nat) : Nat → Int := wup (w0 w d n) (6 * d + t) (w (6 * d + t))
theorem w0_ok (hw : okn n w) (m : Nat) : okn n (w0 w d m) := by
  refine ⟨hw.1, hw.2.1, fun c hc => ?_⟩
  unfold w0
  by_cases e : c / 6 = d ∧ c % 6 < m
  · rw [if_pos e]; exact ⟨Or.inl rfl, fun _ => rfl⟩
  · rw [if_neg e]; exact hw.2.2 c hc
theorem w1_ok (hw : okn n w) (hd : d < n) {t : Nat} (ht : t < n) : okn n (w1 n w d t) := okn_up (w0_ok hw n) hd ht (hw.2.2 _ (by have := hw.2.1; omega)).1
/-- a net between: of the waits from d some are left -/
def betw (n d : Nat) (w W : Nat → Int) : Prop := okn n W ∧ (∀ c, c / 6 ≠ d → W c = w c) ∧ ∀ t, t < n → W (6 * d + t) = -9 ∨ W (6 * d + t) = w (6 * d + t)
theorem betw_kept (hw : okn n w) (hd : d < n) (hp : 0 ≤ p) (hB : betw n d w W) : pac n W ≤ 60 * p ↔ (pac n (w0 w d n) ≤ 60 * p ∧ ∀ t, t < n → W (6 * d + t) ≠ -9 → pac n (w1 n w d t) ≤ 60 * p) := by
  have h6 := hw.2.1
  obtain ⟨hW, hB1, hB2⟩ := hB
  have lt : ∀ {V : Nat → Int} {x : Nat} {b : List Nat}, ring (eP (eB n V)) x b → ∀ i j, (i, j) ∈ edg x (b ++ [x]) → i < n ∧ j < n ∧ V (6 * i + j) ≠ -9 := by
    intro V x b hr i j hij
    have := (edg_chn _ _ hr.2 _ hij).1
    simp [eP, eB] at this
    exact this
  rw [kept_iff hW hp, kept_iff (w0_ok hw n) hp]
  constructor
  · intro q
    refine ⟨fun x b hr => ?_, fun t ht hne => ?_⟩
    · obtain ⟨r1, r2⟩ := ring_sub (W2 := W) hr (fun i j hij => by
        obtain ⟨l1, l2, l3⟩ := lt hr i j hij
        unfold w0 at l3 ⊢
        by_cases e : (6 * i + j) / 6 = d ∧ (6 * i + j) % 6 < n
        · rw [if_pos e] at l3; exact absurd rfl l3
        · rw [if_neg e]
          exact hB1 _ (by omega))
      rw [← r2]
      exact q x b r1
    · rw [kept_iff (w1_ok hw hd ht) hp]
      intro x b hr
      obtain ⟨r1, r2⟩ := ring_sub (W2 := W) hr (fun i j hij => by
        obtain ⟨l1, l2, l3⟩ := lt hr i j hij
        unfold w1 wup at l3 ⊢
        by_cases e1 : 6 * i + j = 6 * d + t
        · rw [if_pos e1, e1]
          exact (hB2 t ht).resolve_left hne
        · rw [if_neg e1] at l3 ⊢
          unfold w0 at l3 ⊢
          by_cases e : (6 * i + j) / 6 = d ∧ (6 * i + j) % 6 < n
          · rw [if_pos e] at l3; exact absurd rfl l3
          · rw [if_neg e]
            exact hB1 _ (by omega))
      rw [← r2]
      exact q x b r1
  · rintro ⟨q0, q1⟩ x b hr
    by_cases hex : ∃ t, (d, t) ∈ edg x (b ++ [x])
    · obtain ⟨t, ht⟩ := hex
      obtain ⟨l1, l2, l3⟩ := lt hr d t ht
      have k := (kept_iff (w1_ok hw hd l2) hp).mp (q1 t l2 l3)
      obtain ⟨r1, r2⟩ := ring_sub (W2 := w1 n w d t) hr (fun i j hij => by
        obtain ⟨m1, m2, m3⟩ := lt hr i j hij
        unfold w1 wup
        by_cases e : i = d
        · subst e
          have : j = t := edg_uq b x x hr.1 i j t hij ht
          subst this
          rw [if_pos rfl]
          exact ((hB2 j m2).resolve_left m3).symm
        · rw [if_neg (by omega)]
          unfold w0
          rw [if_neg (by omega)]
          exact (hB1 _ (by omega)).symm)
      rw [← r2]
      exact k x b r1
    · obtain ⟨r1, r2⟩ := ring_sub (W2 := w0 w d n) hr (fun i j hij => by
        obtain ⟨m1, m2, m3⟩ := lt hr i j hij
        unfold w0
        have e : i ≠ d := fun e => hex ⟨j, by rw [← e]; exact hij⟩
        rw [if_neg (by omega)]
        exact (hB1 _ (by omega)).symm)
      rw [← r2]
      exact q0 x b r1
end DRP
/-! a sum over what is cut -/
section SUMS
variable (bJ : Nat → Prop) (x : Nat)
def allG (m S : Nat) : Prop := ∀ j, j < m → S.testBit j = false → ¬ bJ j
noncomputable def trm (m S : Nat) : Nat := if pB (allG bJ m S) then x ^ pcn S m * (10 - x) ^ (m - pcn S m) else 0
noncomputable def smT (m k : Nat) : Nat := itr (fun S a => a + trm bJ x m S) k 0
noncomputable def prJ (m : Nat) : Nat := itr (fun j a => a * (if pB (bJ j) then x else 10)) m 1
theorem smT_add {f : Nat → Nat} : ∀ (k a b : Nat), itr (fun S c => c + f S) (a + k) b = itr (fun S c => c + f (a + S)) k (itr (fun S c => c + f S) a b) := by
  intro k
  induction k with
  | zero => intro a b; rfl
  | succ k ih =>
    intro a b
    show itr (fun S c => c + f S) (a + k) b + f (a + k) = _
    rw [ih a b]
    rfl
theorem itr_lin {f g : Nat → Nat} {c : Nat} : ∀ (k a b : Nat), (∀ S, S < k → f S = c * g S) → itr (fun S z => z + f S) k (a + c * b) = a + c * itr (fun S z => z + g S) k b := by
  intro k
  induction k with
  | zero => intro a b _; rfl
  | succ k ih =>
    intro a b h
    show itr (fun S z => z + f S) k (a + c * b) + f k = a + c * (itr (fun S z => z + g S) k b + g k)
    rw [ih a b (fun S hS => h S (by omega)), h k (by omega), Nat.mul_add]
    omega
theorem pcn_le (S m : Nat) : pcn S m ≤ m := by rw [pcn_cnt]; exact cnt_le _ m
theorem trm_lo {m S : Nat} (hS : S < 2 ^ m) : trm bJ x (m + 1) S = (if pB (bJ m) then 0 else 10 - x) * trm bJ x m S := by
  have hb : S.testBit m = false := Nat.testBit_lt_two_pow hS
  have hpc : pcn S (m + 1) = pcn S m := by
    show pcn S m + S / 2 ^ m % 2 = _
    rw [Nat.div_eq_of_lt hS]
    rfl
  have hle := pcn_le S m
  have hall : allG bJ (m + 1) S ↔ allG bJ m S ∧ ¬ bJ m := by
    constructor
    · intro q
      exact ⟨fun j hj => q j (by omega), q m (by omega) hb⟩
    · rintro ⟨q1, q2⟩ j hj hb'
      by_cases e : j = m
      · rw [e]; exact q2
      · exact q1 j (by omega) hb'
  unfold trm
  rw [hpc]
  by_cases c : bJ m
  · rw [pB_t c, pB_f (fun q => (hall.mp q).2 c)]
    simp
  · rw [pB_f c]
    by_cases c2 : allG bJ m S
    · rw [pB_t c2, pB_t (hall.mpr ⟨c2, c⟩), if_pos rfl, if_pos rfl, if_neg (by decide), show m + 1 - pcn S m = (m - pcn S m) + 1 by omega, Nat.pow_succ, ← Nat.mul_assoc, Nat.mul_comm]
    · rw [pB_f c2, pB_f (fun q => c2 (hall.mp q).1)]
      simp
theorem trm_hi {m S : Nat} (hS : S < 2 ^ m) : trm bJ x (m + 1) (2 ^ m + S) = x * trm bJ x m S := by
  have hbit : ∀ j, j < m → (2 ^ m + S).testBit j = S.testBit j := fun j hj => Nat.testBit_two_pow_add_gt hj S
  have hb : (2 ^ m + S).testBit m = true := by rw [Nat.testBit_two_pow_add_eq, Nat.testBit_lt_two_pow hS]; rfl
  have hpc : pcn (2 ^ m + S) (m + 1) = pcn S m + 1 := by
    rw [pcn_cnt, pcn_cnt]
    show cnt (fun j => (2 ^ m + S).testBit j) m + (if (2 ^ m + S).testBit m then 1 else 0) = _
    rw [cnt_cg m (fun j hj => hbit j hj), if_pos hb]
  have hle := pcn_le S m
  have hall : allG bJ (m + 1) (2 ^ m + S) ↔ allG bJ m S := by
    constructor
    · intro q j hj hb'
      exact q j (by omega) (by rw [hbit j hj]; exact hb')
    · intro q j hj hb'
      by_cases e : j = m
      · rw [e, hb] at hb'; cases hb'
      · exact q j (by omega) (by rw [← hbit j (by omega)]; exact hb')
  unfold trm
  rw [hpc]
  by_cases c : allG bJ m S
  · rw [pB_t c, pB_t (hall.mpr c), if_pos rfl, if_pos rfl, show m + 1 - (pcn S m + 1) = m - pcn S m by omega, Nat.pow_succ, Nat.mul_comm (x ^ pcn S m) x, Nat.mul_assoc]
  · rw [pB_f c, pB_f (fun q => c (hall.mp q))]
    simp
theorem sum_prod (hx : x ≤ 10) : ∀ m, smT bJ x m (2 ^ m) = prJ bJ x m := by
  intro m
  induction m with
  | zero =>
    show 0 + trm bJ x 0 0 = 1
    unfold trm
    rw [pB_t (show allG bJ 0 0 from fun j hj => by omega)]
    rfl
  | succ m ih =>
    have e1 : smT bJ x (m + 1) (2 ^ m) = 0 + (if pB (bJ m) then 0 else 10 - x) * smT bJ x m (2 ^ m) := by
      have := itr_lin (f := trm bJ x (m + 1)) (g := trm bJ x m) (c := if pB (bJ m) then 0 else 10 - x) (2 ^ m) 0 0 (fun S hS => trm_lo bJ x hS)
      rw [Nat.mul_zero] at this
      exact this
    have e2 : smT bJ x (m + 1) (2 ^ (m + 1)) = smT bJ x (m + 1) (2 ^ m) + x * smT bJ x m (2 ^ m) := by
      have h1 := smT_add (f := trm bJ x (m + 1)) (2 ^ m) (2 ^ m) 0
      have h2 := itr_lin (f := fun S => trm bJ x (m + 1) (2 ^ m + S)) (g := trm bJ x m) (c := x) (2 ^ m) (smT bJ x (m + 1) (2 ^ m)) 0 (fun S hS => trm_hi bJ x hS)
      rw [Nat.mul_zero, Nat.add_zero] at h2
      show itr (fun S a => a + trm bJ x (m + 1) S) (2 ^ (m + 1)) 0 = _
      rw [show 2 ^ (m + 1) = 2 ^ m + 2 ^ m by rw [Nat.pow_succ]; omega, h1]
      exact h2
    show _ = prJ bJ x m * (if pB (bJ m) then x else 10)
    rw [e2, e1, ih]
    by_cases c : bJ m
    · rw [pB_t c, if_pos rfl, if_pos rfl, Nat.zero_mul, Nat.mul_comm]
      omega
    · rw [pB_f c, if_neg (by decide), if_neg (by decide), Nat.zero_add, ← Nat.add_mul, show 10 - x + x = 10 by omega, Nat.mul_comm]
theorem sum_none {m : Nat} (h : ∀ S, S < 2 ^ m → ¬ allG bJ m S) : ∀ k, k ≤ 2 ^ m → smT bJ x m k = 0 := by
  intro k
  induction k with
  | zero => intro _; rfl
  | succ k ih =>
    intro hk
    show smT bJ x m k + trm bJ x m k = 0
    rw [ih (by omega)]
    unfold trm
    rw [pB_f (h k (by omega))]
    rfl
theorem prJ_b (hx : x ≤ 10) : ∀ m, prJ bJ x m ≤ 10 ^ m := by
  intro m
  induction m with
  | zero => exact Nat.le_refl _
  | succ m ih =>
    show prJ bJ x m * (if pB (bJ m) then x else 10) ≤ 10 ^ (m + 1)
    rw [Nat.pow_succ]
    exact Nat.mul_le_mul ih (by split <;> omega)
end SUMS
