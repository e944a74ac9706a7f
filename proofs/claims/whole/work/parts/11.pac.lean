/-! pac is the greatest mean of all rings, in sixtieths; -1: there is none -/
theorem eB_b {n : Nat} {w : Nat → Int} : ∀ i j, eP (eB n w) i j → i < n ∧ j < n := fun i j h => by simp [eP, eB] at h; exact ⟨h.1, h.2.1⟩
theorem eB_nn {n : Nat} {w : Nat → Int} (hw : okn n w) : ∀ i j, eP (eB n w) i j → 0 ≤ wN w i j ∧ wN w i j ≤ 9 := fun i j h => by
  have h6 := hw.2.1
  simp [eP, eB] at h
  have := (hw.2.2 (6 * i + j) (by omega)).1
  unfold wN
  omega
theorem wsm_9 {n : Nat} {w : Nat → Int} (hw : okn n w) : ∀ (l : List Nat) (u : Nat), chn (eP (eB n w)) u l → 0 ≤ wsm (wN w) u l ∧ wsm (wN w) u l ≤ 9 * l.length := by
  intro l
  induction l with
  | nil => intro u _; simp [wsm]
  | cons x l ih =>
    intro u h
    have h1 := eB_nn hw _ _ h.1
    have h2 := ih x h.2
    simp only [wsm, List.length_cons]
    omega
theorem ring_lt {n : Nat} {w : Nat → Int} {x : Nat} {b : List Nat} (h : ring (eP (eB n w)) x b) : ∀ y ∈ x :: b, y < n := by
  intro y hy
  have h1 := chn_lt (n := n) eB_b _ _ h.2
  rcases List.mem_cons.mp hy with q | q
  · subst q; exact h1 y (by simp)
  · exact h1 y (by simp [q])
theorem ring_len {n : Nat} {w : Nat → Int} {x : Nat} {b : List Nat} (h : ring (eP (eB n w)) x b) : b.length + 1 ≤ n := by
  have := nodup_lt n (x :: b) h.1 (ring_lt h)
  simpa using this
theorem ex_maxL {α : Type} (f : α → Int) : ∀ (l : List α), l ≠ [] → ∃ a, a ∈ l ∧ ∀ b ∈ l, f b ≤ f a := by
  intro l
  induction l with
  | nil => intro h; exact absurd rfl h
  | cons x l ih =>
    intro _
    by_cases hl : l = []
    · subst hl
      exact ⟨x, by simp, fun b hb => by rw [List.mem_singleton.mp hb]; exact Int.le_refl _⟩
    · obtain ⟨a, h1, h2⟩ := ih hl
      by_cases hx : f a ≤ f x
      · refine ⟨x, by simp, fun b hb => ?_⟩
        rcases List.mem_cons.mp hb with q | q
        · subst q; exact Int.le_refl _
        · have := h2 b q; omega
      · refine ⟨a, by simp [h1], fun b hb => ?_⟩
        rcases List.mem_cons.mp hb with q | q
        · subst q; omega
        · exact h2 b q
/-- the greatest of the means, in sixtieths -/
theorem ex_pace {n : Nat} {w : Nat → Int} (hw : okn n w) (som : Nat → Bool) (hx : ∃ x b, ring (eP (eB n w)) x b ∧ ∀ y ∈ x :: b, som y = true) : ∃ P : Int, 0 ≤ P ∧ P ≤ 540 ∧ (∀ x b, ring (eP (eB n w)) x b → (∀ y ∈ x :: b, som y = true) → 60 * wsm (wN w) x (b ++ [x]) ≤ P * (b.length + 1 : Nat)) ∧ ∃ x b, (x, b) ∈ ringsL (eB n w) n som ∧ 60 * wsm (wN w) x (b ++ [x]) = P * (b.length + 1 : Nat) := by
  have h6 := hw.2.1
  have hne : ringsL (eB n w) n som ≠ [] := by
    obtain ⟨x, b, h1, h2⟩ := hx
    obtain ⟨x', b', h3, -⟩ := ring_in (n := n) (som := som) h1 (fun y hy => ⟨ring_lt h1 y hy, h2 y hy⟩) (wN w)
    intro q
    rw [q] at h3
    cases h3
  obtain ⟨⟨x, b⟩, h1, h2⟩ := ex_maxL (fun q : Nat × List Nat => wsm (wN w) q.1 (q.2 ++ [q.1]) * sx (q.2.length + 1)) _ hne
  have g1 := (mem_ringsL.mp h1).1
  have l1 := ring_len g1
  have s1 := sx_mul (m := b.length + 1) (by omega) (by omega)
  have b1 := wsm_9 hw _ _ g1.2
  rw [List.length_append, List.length_singleton] at b1
  have hP : 60 * wsm (wN w) x (b ++ [x]) = (wsm (wN w) x (b ++ [x]) * sx (b.length + 1)) * (b.length + 1 : Nat) := by
    rw [Int.mul_assoc, s1.1, Int.mul_comm]
  refine ⟨wsm (wN w) x (b ++ [x]) * sx (b.length + 1), ?_, ?_, ?_, x, b, h1, hP⟩
  · exact Int.mul_nonneg b1.1 (by omega)
  · rw [sx_le (by omega) (by omega)]
    omega
  · intro x' b' h3 h4
    obtain ⟨x2, b2, e1, e2, e3, -⟩ := ring_in (n := n) (som := som) h3 (fun y hy => ⟨ring_lt h3 y hy, h4 y hy⟩) (wN w)
    have h5 := h2 (x2, b2) e1
    dsimp only at h5
    have l3 := ring_len h3
    rw [e3, e2] at h5
    exact (sx_le (by omega) (by omega)).mp h5
theorem itr_max_ge {f : Nat → Int} {a : Int} : ∀ (n k : Nat), k < n → f k ≤ itr (fun v a => max a (f v)) n a := by
  intro n
  induction n with
  | zero => intro k hk; omega
  | succ n ih =>
    intro k hk
    simp only [itr]
    by_cases e : k = n
    · subst e; omega
    · have := ih k (by omega); omega
theorem itr_max_le {f : Nat → Int} {a P : Int} (ha : a ≤ P) : ∀ (n : Nat), (∀ k, k < n → f k ≤ P) → itr (fun v a => max a (f v)) n a ≤ P := by
  intro n
  induction n with
  | zero => intro _; exact ha
  | succ n ih =>
    intro h
    have h1 := ih (fun k hk => h k (by omega))
    have h2 := h n (by omega)
    simp only [itr]
    omega
theorem itr_min_le {f : Nat → Int} {a : Int} : ∀ (n k : Nat), k < n → itr (fun v a => min a (f v)) n a ≤ f k := by
  intro n
  induction n with
  | zero => intro k hk; omega
  | succ n ih =>
    intro k hk
    simp only [itr]
    by_cases e : k = n
    · subst e; omega
    · have := ih k (by omega); omega
theorem itr_min_ge {f : Nat → Int} {a P : Int} (ha : P ≤ a) : ∀ (n : Nat), (∀ k, k < n → P ≤ f k) → P ≤ itr (fun v a => min a (f v)) n a := by
  intro n
  induction n with
  | zero => intro _; exact ha
  | succ n ih =>
    intro h
    have h1 := ih (fun k hk => h k (by omega))
    have h2 := h n (by omega)
    simp only [itr]
    omega
theorem pac_none {n : Nat} {w : Nat → Int} (hw : okn n w) (hx : ∀ x b, ¬ ring (eP (eB n w)) x b) : pac n w = -1 := by
  unfold pac
  have h1 : ∀ v, v < n → lmn n w v = -1 := by
    intro v hv
    unfold lmn
    rw [if_neg]
    intro h
    obtain ⟨x, b, k, r, -⟩ := karp_cut eB_b (Rk_rows hw) hv h
    exact hx x b r
  refine itr_ind (fun (_ : Nat) (a : Int) => a = -1) n rfl (fun k a hk ha => ?_)
  rw [ha, h1 k hk]
  rfl
theorem pac_is {n : Nat} {w : Nat → Int} (hw : okn n w) {P : Int} (h0 : 0 ≤ P) (h1 : P ≤ 540) (hP : ∀ x b, ring (eP (eB n w)) x b → 60 * wsm (wN w) x (b ++ [x]) ≤ P * (b.length + 1 : Nat)) {x : Nat} {b : List Nat} (hr : ring (eP (eB n w)) x b) (he : 60 * wsm (wN w) x (b ++ [x]) = P * (b.length + 1 : Nat)) : pac n w = P := by
  have h6 := hw.2.1
  have hnn := fun i j h => (eB_nn hw i j h).1
  have up : pac n w ≤ P := by
    refine itr_max_le (by omega) n (fun v hv => ?_)
    unfold lmn
    split
    · rename_i hc
      obtain ⟨k, g1, g2⟩ := karp_le eB_b (Rk_rows hw) hP hv hc
      have g3 := itr_min_le (f := fun k => (Rk n w n v - Rk n w k v) * sx (n - k)) (a := 1000000) n k g1
      have g4 := (sx_le (m := n - k) (by omega) (by omega)).mpr g2
      omega
    · omega
  have dn : P ≤ pac n w := by
    obtain ⟨v, g1, g2, g3⟩ := karp_ge eB_b hnn (Rk_rows hw) hP hr he
    have g4 := itr_max_ge (f := lmn n w) (a := -1) n v g1
    have g5 : P ≤ lmn n w v := by
      unfold lmn
      rw [if_pos g2]
      exact itr_min_ge (by omega) n (fun k hk => (sx_ge (m := n - k) (by omega) (by omega)).mpr (g3 k hk))
    exact Int.le_trans g5 g4
  omega
/-- what pac says of all rings -/
theorem pac_all {n : Nat} {w : Nat → Int} (hw : okn n w) : (pac n w = -1 ∧ ∀ x b, ¬ ring (eP (eB n w)) x b) ∨ (0 ≤ pac n w ∧ pac n w ≤ 540 ∧ (∀ x b, ring (eP (eB n w)) x b → 60 * wsm (wN w) x (b ++ [x]) ≤ pac n w * (b.length + 1 : Nat)) ∧ ∃ x b, (x, b) ∈ ringsL (eB n w) n (fun _ => true) ∧ 60 * wsm (wN w) x (b ++ [x]) = pac n w * (b.length + 1 : Nat)) := by
  by_cases hx : ∃ x b, ring (eP (eB n w)) x b
  · right
    obtain ⟨x, b, h⟩ := hx
    obtain ⟨P, h0, h1, h2, x', b', h3, h4⟩ := ex_pace hw (fun _ => true) ⟨x, b, h, fun _ _ => rfl⟩
    have h5 := pac_is hw h0 h1 (fun x b h => h2 x b h (fun _ _ => rfl)) (mem_ringsL.mp h3).1 h4
    rw [h5]
    exact ⟨h0, h1, fun x b h => h2 x b h (fun _ _ => rfl), x', b', h3, h4⟩
  · left
    have h1 : ∀ x b, ¬ ring (eP (eB n w)) x b := fun x b h => hx ⟨x, b, h⟩
    exact ⟨pac_none hw h1, h1⟩
theorem pac_b {n : Nat} {w : Nat → Int} (hw : okn n w) : -1 ≤ pac n w ∧ pac n w ≤ 540 := by
  rcases pac_all hw with h | h <;> omega
theorem w_isKept {h : tr_H} {i n : Nat} {w : Nat → Int} (hN : tN h i n w) {p : Int} (p1 : 0 ≤ p) (p2 : p ≤ 20) : ∃ f, f_X6_isKept i (iI p) h = some (if pac n w ≤ 60 * p then 1 else 0, tr_sa h 22 f) := by
  obtain ⟨f, hf⟩ := w_slowest hN
  have hb := pac_b hN.2.1
  refine ⟨f, ?_⟩
  unfold f_X6_isKept
  rw [hf]
  by_cases c : pac n w ≤ 60 * p
  · rw [if_pos c]
    simp (disch := omega) only [iI_0, iI_1, iI_2, iI_3, iI_4, iI_5, iI_6, iI_7, iI_8, iI_9, iI_10, iI_11, iI_12, iI_14, iI_20, iI_30, iI_31, iI_36, iI_37, iI_40, iI_48, iI_60, iI_63, iI_64, iI_78, iI_100, iI_255, iI_481, iI_1000000, iI_m1, iI_m2, iI_m3, iI_m4, iI_m9, iI_m1000000, iI_add, iI_sub, iI_mul, iI_neg, iI_lt, iI_le, iI_eq, iI_cl, tr_bd, tr_bn_some, tr_b2_some, tr_gdI, tr_nzI, tr_maxI, tr_minI, if_pos, if_neg, ↓reduceIte]
  · rw [if_neg c]
    simp (disch := omega) only [iI_0, iI_1, iI_2, iI_3, iI_4, iI_5, iI_6, iI_7, iI_8, iI_9, iI_10, iI_11, iI_12, iI_14, iI_20, iI_30, iI_31, iI_36, iI_37, iI_40, iI_48, iI_60, iI_63, iI_64, iI_78, iI_100, iI_255, iI_481, iI_1000000, iI_m1, iI_m2, iI_m3, iI_m4, iI_m9, iI_m1000000, iI_add, iI_sub, iI_mul, iI_neg, iI_lt, iI_le, iI_eq, iI_cl, tr_bd, tr_bn_some, tr_b2_some, tr_gdI, tr_nzI, tr_maxI, tr_minI, if_pos, if_neg, ↓reduceIte]
