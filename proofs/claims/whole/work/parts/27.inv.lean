/-! what holds while the class goes through the sets -/
def Rc (n : Nat) (w : Nat → Int) (j : Nat) : Nat := Rn n w (lowS (j / 6)) (7 - pcn (j / 6) 6) (j / 6) (j % 6)
def Qc (j : Nat) : Nat := 6 ^ (6 - pcn (j / 6) 6)
def prd (n : Nat) (w : Nat → Int) (S x : Nat) (b : List Nat) (e S' : Nat) (b' : List Nat) : Prop := b = b' ++ [e] ∧ pth n w S' x b' (la x b') ∧ eB n w (la x b') e = true ∧ x < e ∧ S'.testBit e = false ∧ S = S' ||| 2 ^ e ∧ S' < S
def fInv (n : Nat) (w : Nat → Int) (tot k : Nat) (c : Nat → Nat) (l ps : Nat → Int) (rg : Nat) : Prop :=
  (rg + sF c (Rc n w) (384 - k) = tot ∧ sF c Qc (384 - k) ≤ 46656) ∧
  (∀ j, j < 384 → c j ≠ 0 → ∃ x b, pth n w (j / 6) x b (j % 6) ∧ l j = wsm (wN w) x b) ∧
  (∀ j, (0 ≤ l j ∧ l j ≤ 60) ∧ (c j = 0 → l j = 0)) ∧
  (∀ S x b e, pth n w S x b e → (b = [] ∨ ∃ S' b', prd n w S x b e S' b' ∧ 6 * S' + la x b' < k) → c (6 * S + e) ≠ 0 ∧ wsm (wN w) x b ≤ l (6 * S + e)) ∧
  (∀ S, 0 ≤ ps S ∧ (ps S = 0 ∨ ∃ x b e, pth n w S x b e ∧ eB n w e x = true ∧ ps S = (wsm (wN w) x b + wN w e x) * sx (b.length + 1))) ∧
  (∀ S x b e, pth n w S x b e → eB n w e x = true → 6 * S + e < k → (wsm (wN w) x b + wN w e x) * sx (b.length + 1) ≤ ps S)
section FINV
variable {n : Nat} {w : Nat → Int} {tot k : Nat} {c : Nat → Nat} {l ps : Nat → Int} {rg S e : Nat}
theorem nfb {b : Bool} (h : ¬ b = false) : b = true := by cases b <;> simp_all
theorem or_gt {S t : Nat} (h : S.testBit t = false) : S < S ||| 2 ^ t := by
  have h1 : S ≤ S ||| 2 ^ t := Nat.left_le_or
  have h2 : S ≠ S ||| 2 ^ t := fun q => by
    have : (S ||| 2 ^ t).testBit t = true := or_t.mpr (Or.inr rfl)
    rw [← q, h] at this
    cases this
  omega
/-- a walk whose cell comes next has been counted -/
theorem fInv_own (h6 : n ≤ 6) (hI : fInv n w tot (6 * S + e) c l ps rg) {x : Nat} {b : List Nat} (hp : pth n w S x b e) : c (6 * S + e) ≠ 0 ∧ wsm (wN w) x b ≤ l (6 * S + e) := by
  refine hI.2.2.2.1 S x b e hp ?_
  rcases pth_pred hp with q | ⟨S', b', q⟩
  · exact Or.inl q
  · refine Or.inr ⟨S', b', q, ?_⟩
    have := (pth_lt h6 q.2.1).2.2.2.1
    have := q.2.2.2.2.2.2
    omega
theorem fInv_skip (h6 : n ≤ 6) (hS : S < 64) (he : e < 6) (hI : fInv n w tot (6 * S + e) c l ps rg) (hc : c (6 * S + e) = 0) : fInv n w tot (6 * S + e + 1) c l ps rg := by
  have hown := fun x b => fInv_own (x := x) (b := b) h6 hI
  obtain ⟨⟨i1, i2⟩, i3, i4, i5, i6, i7⟩ := hI
  rw [sF_at (show 6 * S + e < 384 by omega), hc, Nat.zero_mul, Nat.zero_add] at i1 i2
  refine ⟨⟨i1, i2⟩, i3, i4, ?_, i6, ?_⟩
  · intro S1 x b e1 hp hq
    rcases hq with q | ⟨S', b', q, hlt⟩
    · exact i5 S1 x b e1 hp (Or.inl q)
    · by_cases z : 6 * S' + la x b' < 6 * S + e
      · exact i5 S1 x b e1 hp (Or.inr ⟨S', b', q, z⟩)
      · exfalso
        have hl := (pth_lt h6 q.2.1).2.2.2.1
        have e1 : S' = S := by omega
        have e2 : la x b' = e := by omega
        have hp' := q.2.1
        rw [e1, e2] at hp'
        exact (hown x b' hp').1 hc
  · intro S1 x b e1 hp hq hlt
    by_cases z : 6 * S1 + e1 < 6 * S + e
    · exact i7 S1 x b e1 hp hq z
    · exfalso
      have hl := (pth_lt h6 hp).2.2.2.1
      have e3 : S1 = S := by omega
      have e4 : e1 = e := by omega
      rw [e3, e4] at hp
      exact (hown x b hp).1 hc
theorem fInv_out (h6 : n ≤ 6) (hS : S < 64) (he : e < 6) (hn : n ≤ e) (hI : fInv n w tot (6 * S + e) c l ps rg) : fInv n w tot (6 * S + e + 1) c l ps rg := by
  refine fInv_skip h6 hS he hI ?_
  apply Classical.byContradiction
  intro q
  obtain ⟨x, b, hp, -⟩ := hI.2.1 _ (by omega) q
  have := (pth_lt h6 hp).2.2.2.1
  omega
theorem fInv_path (h6 : n ≤ 6) (hS : S < 64) (he : e < 6) (hI : fInv n w tot (6 * S + e) c l ps rg) (hc : c (6 * S + e) ≠ 0) : ∃ x b, pth n w S x b e ∧ l (6 * S + e) = wsm (wN w) x b := by
  obtain ⟨x, b, hp, hl⟩ := hI.2.1 _ (by omega) hc
  rw [show (6 * S + e) / 6 = S by omega, show (6 * S + e) % 6 = e by omega] at hp
  exact ⟨x, b, hp, hl⟩
theorem fInv_cb (hS : S < 64) (he : e < 6) (hI : fInv n w tot (6 * S + e) c l ps rg) : c (6 * S + e) ≤ 46656 := by
  have h1 := sF_ge (c := c) (Q := Qc) (a := 6 * S + e) (384 - (6 * S + e)) (by omega) (by omega) (by omega)
  have h2 := hI.1.2
  have h3 : 1 ≤ Qc (6 * S + e) := Nat.one_le_pow _ _ (by decide)
  have h4 : c (6 * S + e) * 1 ≤ c (6 * S + e) * Qc (6 * S + e) := Nat.mul_le_mul_left _ h3
  omega
theorem fInv_go (hw : okn n w) (hS : S < 64) (he : e < n) (hI : fInv n w tot (6 * S + e) c l ps rg) (hc : c (6 * S + e) ≠ 0) {x : Nat} (hx : lowS S = x) :
    fInv n w tot (6 * S + e + 1) (gC n w S e x n c (c (6 * S + e))) (gL n w S e x n l (l (6 * S + e))) (if eB n w e x = true then wup ps S (max (ps S) ((l (6 * S + e) + w (6 * e + x)) * sx (pcn S 6))) else ps) (rg + if eB n w e x = true then c (6 * S + e) else 0) := by
  have h6 := hw.2.1
  have hown := fun x b => fInv_own (x := x) (b := b) h6 hI
  obtain ⟨x0, b0, hp0, hl0⟩ := fInv_path h6 hS (by omega) hI hc
  have hx0 := (pth_low h6 hp0).1
  rw [hx] at hx0
  subst hx0
  have hlow := (pth_low h6 hp0).2
  have hpl := pth_lt h6 hp0
  have hpc := pth_pc h6 hp0
  obtain ⟨⟨i1, i2⟩, i3, i4, i5, i6, i7⟩ := hI
  obtain ⟨K, eK⟩ : ∃ K, K = 6 * S + e := ⟨_, rfl⟩
  rw [← eK] at hc hl0 hown i1 i2 i5 i7 ⊢
  have hK : K < 384 := by omega
  have hKd : K / 6 = S ∧ K % 6 = e := by omega
  have hokt : ∀ t, t < n → okt n w S e x t → 384 - (384 - (K + 1)) ≤ cel S t := by
    intro t ht ho
    have := or_gt ho.2.2
    unfold cel
    omega
  have hnew : ∀ t, x < t → eB n w e t = true → S.testBit t = false → pth n w (S ||| 2 ^ t) x (b0 ++ [t]) t ∧ wsm (wN w) x (b0 ++ [t]) = l K + w (6 * e + t) ∧ 0 ≤ l K + w (6 * e + t) ∧ l K + w (6 * e + t) ≤ 60 := by
    intro t h1 h2 h3
    have hp1 := pth_ext hp0 h1 h2 h3
    have hs : wsm (wN w) x (b0 ++ [t]) = l K + w (6 * e + t) := by
      rw [wsm_app, hp0.2.2.2.1, ← hl0]
      simp [wsm, wN]
    have h9 := wsm_9 hw _ _ hp1.2.1
    have hlen := nodup_lt n _ hp1.1 (fun y hy => (hp1.2.2.1 y hy).2)
    rw [hs] at h9
    simp only [List.length_cons, List.length_append, List.length_nil] at hlen h9
    exact ⟨hp1, hs, by omega, by omega⟩
  have cge : ∀ j, c j ≤ gC n w S e x n c (c K) j := by
    intro j
    unfold gC
    split <;> omega
  have lge : ∀ j, l j ≤ gL n w S e x n l (l K) j := by
    intro j
    unfold gL
    split <;> omega
  refine ⟨⟨?_, ?_⟩, ?_, ?_, ?_, ?_, ?_⟩
  · rw [gC_sum h6 hS c (Rc n w) (c K) (by omega) hokt n (Nat.le_refl _)]
    rw [sF_at hK] at i1
    have hR : Rc n w K = (if eB n w e x = true then 1 else 0) + itr (fun t a => a + (if okt n w S e x t then Rc n w (cel S t) else 0)) n 0 := by
      obtain ⟨f, ef⟩ : ∃ f, 7 - pcn S 6 = f + 1 := ⟨6 - pcn S 6, by have := pcn_6 S; omega⟩
      unfold Rc
      rw [hKd.1, hKd.2, hx, ef, Rn_s]
      congr 1
      refine itr_cg n (fun t ht a => ?_)
      by_cases ho : okt n w S e x t
      · have h1 := pcn_in S hS t (by omega) ho.2.2
        have h2 : lowS (S ||| 2 ^ t) = x := lowS_is (by omega) (or_t.mpr (Or.inl hpl.2.2.2.2.2.1)) (fun u hu => by
          apply Classical.byContradiction
          intro q
          have q2 : (S ||| 2 ^ t).testBit u = true := nfb q
          rcases or_t.mp q2 with z | z
          · rw [hlow u hu] at z; cases z
          · have := ho.1; omega)
        rw [if_pos ho, if_pos ho, (cel_6 (S := S) (show t < 6 by omega)).1, (cel_6 (S := S) (show t < 6 by omega)).2, h2, h1, show 7 - (pcn S 6 + 1) = f by omega]
      · rw [if_neg ho, if_neg ho]
    rw [hR, Nat.mul_add] at i1
    by_cases q : eB n w e x = true
    · rw [if_pos q] at i1 ⊢
      omega
    · rw [if_neg q] at i1 ⊢
      omega
  · rw [gC_sum h6 hS c Qc (c K) (by omega) hokt n (Nat.le_refl _)]
    rw [sF_at hK] at i2
    have hQ : ∀ m, m ≤ n → 6 * itr (fun t a => a + (if okt n w S e x t then Qc (cel S t) else 0)) m 0 ≤ m * Qc K := by
      intro m
      induction m with
      | zero => intro _; simp [itr]
      | succ m ih =>
        intro hm
        have := ih (by omega)
        simp only [itr]
        rw [show (m + 1) * Qc K = m * Qc K + Qc K from Nat.succ_mul m _]
        by_cases ho : okt n w S e x m
        · have h1 := pcn_in S hS m (by omega) ho.2.2
          have h2 := pcn_6 (S ||| 2 ^ m)
          have h3 : 6 * Qc (cel S m) = Qc K := by
            unfold Qc
            rw [(cel_6 (S := S) (show m < 6 by omega)).2, hKd.1, h1, show 6 - pcn S 6 = (6 - (pcn S 6 + 1)) + 1 by omega, Nat.pow_succ]
            omega
          rw [if_pos ho]
          omega
        · rw [if_neg ho]
          omega
    have h1 := hQ n (Nat.le_refl _)
    have h2 : n * Qc K ≤ 6 * Qc K := Nat.mul_le_mul_right _ h6
    have h3 : itr (fun t a => a + (if okt n w S e x t then Qc (cel S t) else 0)) n 0 ≤ Qc K := by omega
    have h4 := Nat.mul_le_mul_left (c K) h3
    omega
  · intro j hj hcj
    by_cases ht : hit n w S e x n j
    · obtain ⟨n1, n2, n3, n4⟩ := hnew (j % 6) ht.2.1 ht.2.2.1 ht.2.2.2.1
      have ejl : gL n w S e x n l (l K) j = max (l j) (l K + w (6 * e + j % 6)) := by unfold gL; rw [if_pos ht]
      rw [ejl, ht.2.2.2.2]
      by_cases z : c j = 0
      · have := (i4 j).2 z
        exact ⟨x, b0 ++ [j % 6], n1, by omega⟩
      · by_cases z2 : l K + w (6 * e + j % 6) ≤ l j
        · obtain ⟨x1, b1, q1, q2⟩ := i3 j hj z
          rw [ht.2.2.2.2] at q1
          exact ⟨x1, b1, q1, by omega⟩
        · exact ⟨x, b0 ++ [j % 6], n1, by omega⟩
    · unfold gC at hcj
      rw [if_neg ht] at hcj
      unfold gL
      rw [if_neg ht]
      exact i3 j hj hcj
  · intro j
    have b1 := i4 j
    unfold gL gC
    by_cases ht : hit n w S e x n j
    · obtain ⟨n1, n2, n3, n4⟩ := hnew (j % 6) ht.2.1 ht.2.2.1 ht.2.2.2.1
      rw [if_pos ht, if_pos ht]
      exact ⟨by omega, fun q => by omega⟩
    · rw [if_neg ht, if_neg ht]
      exact b1
  · intro S1 x1 b1 e1 hp hq
    have old : (c (6 * S1 + e1) ≠ 0 ∧ wsm (wN w) x1 b1 ≤ l (6 * S1 + e1)) → gC n w S e x n c (c K) (6 * S1 + e1) ≠ 0 ∧ wsm (wN w) x1 b1 ≤ gL n w S e x n l (l K) (6 * S1 + e1) := by
      rintro ⟨q1, q2⟩
      have := cge (6 * S1 + e1)
      have := lge (6 * S1 + e1)
      exact ⟨by omega, by omega⟩
    rcases hq with q | ⟨S', b', q, hlt⟩
    · exact old (i5 S1 x1 b1 e1 hp (Or.inl q))
    · by_cases z : 6 * S' + la x1 b' < K
      · exact old (i5 S1 x1 b1 e1 hp (Or.inr ⟨S', b', q, z⟩))
      · have hl1 := (pth_lt h6 q.2.1).2.2.2.1
        have z1 : S' = S := by omega
        have z2 : la x1 b' = e := by omega
        obtain ⟨q1, q2, q3, q4, q5, q6, -⟩ := q
        rw [z1] at q2 q5 q6
        rw [z2] at q2 q3
        have hx1 := (pth_low h6 q2).1
        rw [hx] at hx1
        subst hx1
        obtain ⟨o1, o2⟩ := hown x b' q2
        have he1 := (pth_lt h6 hp).2.2.2.1
        have ht : hit n w S e x n (6 * S1 + e1) := by
          have a1 : (6 * S1 + e1) % 6 = e1 := by omega
          have a2 : (6 * S1 + e1) / 6 = S1 := by omega
          exact ⟨by rw [a1]; exact he1, by rw [a1]; exact q4, by rw [a1]; exact q3, by rw [a1]; exact q5, by rw [a1, a2]; exact q6⟩
        unfold gC gL
        rw [if_pos ht, if_pos ht, show (6 * S1 + e1) % 6 = e1 by omega, q1, wsm_app, z2]
        simp only [wsm, wN]
        exact ⟨by omega, by omega⟩
  · intro S1
    obtain ⟨g1, g2⟩ := i6 S1
    by_cases q : eB n w e x = true
    · rw [if_pos q]
      unfold wup
      by_cases z : S1 = S
      · rw [if_pos z]
        subst z
        refine ⟨by omega, ?_⟩
        by_cases z2 : (l K + w (6 * e + x)) * sx (pcn S1 6) ≤ ps S1
        · rw [show max (ps S1) ((l K + w (6 * e + x)) * sx (pcn S1 6)) = ps S1 by omega]
          exact g2
        · right
          refine ⟨x, b0, e, hp0, q, ?_⟩
          rw [show max (ps S1) ((l K + w (6 * e + x)) * sx (pcn S1 6)) = (l K + w (6 * e + x)) * sx (pcn S1 6) by omega, hpc, hl0]
          rfl
      · rw [if_neg z]
        exact ⟨g1, g2⟩
    · rw [if_neg q]
      exact ⟨g1, g2⟩
  · intro S1 x1 b1 e1 hp hq hlt
    have hmono : ps S1 ≤ (if eB n w e x = true then wup ps S (max (ps S) ((l K + w (6 * e + x)) * sx (pcn S 6))) else ps) S1 := by
      by_cases q : eB n w e x = true
      · rw [if_pos q]
        unfold wup
        by_cases z : S1 = S
        · rw [if_pos z, z]; omega
        · rw [if_neg z]; omega
      · rw [if_neg q]; omega
    by_cases z : 6 * S1 + e1 < K
    · have := i7 S1 x1 b1 e1 hp hq z
      omega
    · have hl1 := (pth_lt h6 hp).2.2.2.1
      have z1 : S1 = S := by omega
      have z2 : e1 = e := by omega
      subst z1
      subst z2
      have hx1 := (pth_low h6 hp).1
      rw [hx] at hx1
      subst hx1
      obtain ⟨-, o2⟩ := hown x b1 hp
      have hpc1 := pth_pc h6 hp
      rw [if_pos hq]
      unfold wup
      rw [if_pos rfl, hpc1]
      have hs := sx_mul (m := b1.length + 1) (by omega) (by have := pcn_6 S1; omega)
      have : (wsm (wN w) x b1 + wN w e1 x) * sx (b1.length + 1) ≤ (l K + w (6 * e1 + x)) * sx (b1.length + 1) := Int.mul_le_mul_of_nonneg_right (by unfold wN; unfold wN at o2; omega) (by omega)
      omega
/-! at the start and at the end -/
def cI (m : Nat) : Nat → Nat := fun j => if j % 6 < m ∧ j / 6 = 2 ^ (j % 6) then 1 else 0
theorem cI_s {m : Nat} (hm : m < 6) : cI (m + 1) = nup (cI m) (cel 0 m) (cI m (cel 0 m) + 1) := by
  have hc := cel_6 (S := 0) hm
  rw [Nat.zero_or] at hc
  funext j
  unfold nup
  by_cases q : j = cel 0 m
  · rw [if_pos q, q]
    unfold cI
    rw [hc.1, hc.2, if_pos ⟨by omega, rfl⟩, if_neg (fun z => by omega)]
  · rw [if_neg q]
    unfold cI
    by_cases z : j % 6 < m ∧ j / 6 = 2 ^ (j % 6)
    · rw [if_pos z, if_pos ⟨by omega, z.2⟩]
    · rw [if_neg z, if_neg (fun y => by
        by_cases y2 : j % 6 = m
        · apply q
          have y3 := y.2
          rw [y2] at y3
          unfold cel
          rw [Nat.zero_or]
          omega
        · exact z ⟨by omega, y.2⟩)]
theorem cI_sum (Q : Nat → Nat) : ∀ m, m ≤ 6 → sF (cI m) Q 378 = itr (fun t a => a + Q (cel 0 t)) m 0 := by
  intro m
  induction m with
  | zero =>
    intro _
    rw [sF_0 378 (by omega) (fun j _ _ => by unfold cI; rw [if_neg (fun q => by omega)])]
    rfl
  | succ m ih =>
    intro hm
    have h1 : 1 ≤ 2 ^ m := Nat.one_le_two_pow
    have h2 : 2 ^ m < 2 ^ 6 := Nat.pow_lt_pow_right (by decide) (by omega)
    rw [cI_s (by omega), sF_up 378 (by omega) (by unfold cel; rw [Nat.zero_or]; omega) (by unfold cel; rw [Nat.zero_or]; omega), ih (by omega)]
    simp [itr]
theorem len_fm0 {α : Type} (g : Nat → List α) : ∀ k : Nat, ((List.range k).flatMap g).length = itr (fun t c => c + (g t).length) k 0 := by
  intro k
  induction k with
  | zero => rfl
  | succ k ih =>
    rw [List.range_succ, List.flatMap_append, List.length_append, ih, List.flatMap_singleton]
    rfl
theorem pth_one {x : Nat} (hx : x < n) : pth n w (0 ||| 2 ^ x) x [] x := by
  refine ⟨by simp, trivial, ?_, rfl, fun t => ?_⟩
  · intro y hy
    rw [List.mem_singleton] at hy
    omega
  · rw [or_t, List.mem_singleton]
    simp
theorem fInv_beg (hw : okn n w) : fInv n w (ringsL (eB n w) n (fun k => (63 : Nat).testBit k)).length 6 (cI n) (fun _ => 0) (fun _ => 0) 0 := by
  have h6 := hw.2.1
  have hno : ∀ x b e, ¬ pth n w 0 x b e := fun x b e q => (pth_lt h6 q).2.2.2.2.2.2 rfl
  refine ⟨⟨?_, ?_⟩, ?_, fun j => ⟨by show (0 : Int) ≤ 0 ∧ (0 : Int) ≤ 60; omega, fun _ => rfl⟩, ?_, fun S => ⟨by show (0 : Int) ≤ 0; omega, Or.inl rfl⟩, ?_⟩
  · rw [show 384 - 6 = 378 from rfl, cI_sum _ n h6, Nat.zero_add]
    unfold ringsL
    rw [len_fm0]
    refine itr_cg n (fun t ht a => ?_)
    have h1 := pth_one (w := w) ht
    have h2 := pcn_in 0 (by decide) t (by omega) (by simp)
    rw [if_pos (m63 t (by omega)), List.length_map, dfs_Rn h6 (fun t ht => m63 t (by omega)) n 6 _ t [] h1 (by simp) (by simp; omega)]
    unfold Rc
    rw [(cel_6 (S := 0) (show t < 6 by omega)).1, (cel_6 (S := 0) (show t < 6 by omega)).2, (pth_low h6 h1).1, h2]
    rfl
  · rw [show 384 - 6 = 378 from rfl, cI_sum _ n h6]
    have : ∀ m, m ≤ n → itr (fun t a => a + Qc (cel 0 t)) m 0 = m * 7776 := by
      intro m
      induction m with
      | zero => intro _; rfl
      | succ m ih =>
        intro hm
        have h2 := pcn_in 0 (by decide) m (by omega) (by simp)
        simp only [itr]
        rw [ih (by omega)]
        unfold Qc
        rw [(cel_6 (S := 0) (show m < 6 by omega)).2, h2]
        show m * 7776 + 7776 = (m + 1) * 7776
        omega
    rw [this n (Nat.le_refl _)]
    omega
  · intro j hj hc
    have hz : j % 6 < n ∧ j / 6 = 2 ^ (j % 6) := by
      apply Classical.byContradiction
      intro q
      unfold cI at hc
      rw [if_neg q] at hc
      exact hc rfl
    refine ⟨j % 6, [], ?_, rfl⟩
    have := pth_one (w := w) hz.1
    rw [Nat.zero_or, ← hz.2] at this
    exact this
  · intro S x b e hp hq
    rcases hq with q | ⟨S', b', q, hlt⟩
    · subst q
      have hl := pth_lt h6 hp
      have hS : S = 2 ^ x := by
        apply Nat.eq_of_testBit_eq
        intro i
        have h1 := hp.2.2.2.2 i
        rw [List.mem_singleton] at h1
        rw [Nat.testBit_two_pow]
        by_cases z : i = x
        · rw [h1.mpr z]
          simp [z]
        · have : S.testBit i = false := by
            apply Classical.byContradiction
            intro y
            exact z (h1.mp (by simpa using y))
          rw [this]
          have z' : ¬ x = i := fun y => z y.symm
          simp [z']
      have he : e = x := hp.2.2.2.1.symm
      subst he
      unfold cI
      rw [if_pos (by rw [show (6 * S + e) % 6 = e by omega, show (6 * S + e) / 6 = S by omega]; exact ⟨hl.2.2.1, hS⟩)]
      exact ⟨by omega, by simp [wsm]⟩
    · exfalso
      have : S' = 0 := by omega
      rw [this] at q
      exact hno _ _ _ q.2.1
  · intro S x b e hp hq hlt
    exfalso
    have : S = 0 := by omega
    rw [this] at hp
    exact hno _ _ _ hp
theorem fInv_end (h6 : n ≤ 6) (hI : fInv n w tot (6 * 2 ^ n) c l ps rg) : rg = tot ∧ ∀ S x b e, pth n w S x b e → eB n w e x = true → (wsm (wN w) x b + wN w e x) * sx (b.length + 1) ≤ ps S := by
  obtain ⟨⟨i1, i2⟩, i3, i4, i5, i6, i7⟩ := hI
  have h64 : 2 ^ n ≤ 2 ^ 6 := Nat.pow_le_pow_right (by decide) h6
  refine ⟨?_, fun S x b e hp hq => i7 S x b e hp hq ?_⟩
  · rw [sF_0 _ (by omega) (fun j h1 h2 => ?_)] at i1
    · exact i1
    · apply Classical.byContradiction
      intro q
      obtain ⟨x, b, hp, -⟩ := i3 j h2 q
      have := (pth_lt h6 hp).1
      omega
  · have h1 := pth_lt h6 hp
    have := h1.1
    have := h1.2.2.2.1
    omega
end FINV
