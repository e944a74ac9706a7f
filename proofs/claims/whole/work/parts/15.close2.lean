/-! reading what was written -/
theorem si_s (h : tr_H) (i k : Nat) (v : Int32) : (tr_si h i k v).1 i k = v := by simp [tr_si, tr_sa, upd]
theorem si_n (h : tr_H) (i : Nat) {k j : Nat} (v : Int32) (hj : j ≠ k) : (tr_si h i k v).1 i j = h.1 i j := by simp [tr_si, tr_sa, upd, hj]
theorem si_c (h : tr_H) {i a : Nat} (k : Nat) (v : Int32) (ha : a ≠ i) : (tr_si h i k v).1 a = h.1 a := by simp [tr_si, tr_sa, ha]
theorem si_2 (h : tr_H) (i k : Nat) (v : Int32) : (tr_si h i k v).2 = h.2 := rfl
theorem sl_s (h : tr_H) (i k : Nat) (v : Int64) : (tr_sl h i k v).2 i k = v := by simp [tr_sl, tr_sb, vp_updL]
theorem sl_n (h : tr_H) (i : Nat) {k j : Nat} (v : Int64) (hj : j ≠ k) : (tr_sl h i k v).2 i j = h.2 i j := by simp [tr_sl, tr_sb, vp_updL, hj]
theorem sl_c (h : tr_H) {i a : Nat} (k : Nat) (v : Int64) (ha : a ≠ i) : (tr_sl h i k v).2 a = h.2 a := by simp [tr_sl, tr_sb, ha]
theorem sl_1 (h : tr_H) (i k : Nat) (v : Int64) : (tr_sl h i k v).1 = h.1 := rfl
theorem mC_rf (h : tr_H) : mC h h := ⟨fun _ _ => rfl, fun _ _ _ _ _ => rfl, fun _ _ _ => rfl⟩
theorem mC_tr {a b c : tr_H} (h1 : mC a b) (h2 : mC b c) : mC a c := ⟨fun k hk => (h2.1 k hk).trans (h1.1 k hk), fun k a1 a2 a3 a4 => (h2.2.1 k a1 a2 a3 a4).trans (h1.2.1 k a1 a2 a3 a4), fun x k hk => (h2.2.2 x k hk).trans (h1.2.2 x k hk)⟩
theorem mC_si (h : tr_H) {k : Nat} (v : Int32) (hk : k = 17 ∨ k = 18 ∨ k = 19 ∨ k = 21) : mC h (tr_si h 0 k v) :=
  ⟨fun c hc => si_c h k v hc, fun j h1 h2 h3 h4 => si_n h 0 v (by omega), fun _ _ _ => rfl⟩
theorem mC_sl (h : tr_H) {k : Nat} (v : Int64) (hk : k = 20 ∨ k = 22) : mC h (tr_sl h 0 k v) := by
  refine ⟨fun _ _ => rfl, fun _ _ _ _ _ => rfl, fun c j hj => ?_⟩
  by_cases hc : c = 0
  · subst hc
    exact sl_n h 0 v (by omega)
  · rw [sl_c h k v hc]
theorem or_bit {a b j : Nat} : (a ||| b).testBit j = true ↔ a.testBit j = true ∨ b.testBit j = true := by
  rw [Nat.testBit_or, Bool.or_eq_true]
theorem r_close {h : tr_H} {p n : Nat} {w : Nat → Int} (hP : tP h p n w) {x : Nat} {b : List Nat} (hr : ring (eP (eB n w)) x b) (hrow : ∀ k, k ≤ b.length → h.1 11 k = iI (gl x b k)) {A : List (Nat × List Nat)} (hF : rF h w A) :
    ∃ h', f_X8_closeRing p (iI (b.length + 1 : Nat)) h = some h' ∧ mC h h' ∧ rF h' w (A ++ [(x, b)]) := by
  have h6 := hP.2.1.2.1
  have hlen := ring_len hr
  obtain ⟨f1, S, B, rwt, cw, cd, f2, f3, f4, f5, f6, f7, f8, f9⟩ := hF
  have hs9 := wsm_9 hP.2.1 _ _ hr.2
  rw [List.length_append, List.length_singleton] at hs9
  have hsm : sm w (x, b) = wsm (wN w) x (b ++ [x]) := rfl
  have hsb : 0 ≤ sm w (x, b) ∧ sm w (x, b) ≤ 60 := by rw [hsm]; omega
  have hE : ∀ k, (itr (fun k a => a ||| 2 ^ (6 * gl x (b ++ [x]) k + gl x (b ++ [x]) (k + 1))) (b.length + 1) 0).testBit k = true ↔ hasE (x, b) k := by
    intro k
    rw [itr_or]
    unfold hasE
    constructor
    · rintro ⟨j, h1, h2⟩
      refine ⟨(gl x (b ++ [x]) j, gl x (b ++ [x]) (j + 1)), ?_, h2⟩
      have := (edg_take x (b ++ [x]) (gl x (b ++ [x]) j, gl x (b ++ [x]) (j + 1)) (b.length + 1) (by simp)).mpr ⟨j, h1, rfl⟩
      rw [List.take_of_length_le (by simp)] at this
      exact this
    · rintro ⟨q, h1, h2⟩
      have := edg_take x (b ++ [x]) q (b.length + 1) (by simp)
      rw [List.take_of_length_le (by simp)] at this
      obtain ⟨j, g1, g2⟩ := this.mp h1
      exact ⟨j, g1, by rw [h2, g2]⟩
  have hV : ∀ k, (itr (fun k a => a ||| 2 ^ gl x b k) (b.length + 1) 0).testBit k = true ↔ k ∈ x :: b := by
    intro k
    rw [itr_or]
    constructor
    · rintro ⟨j, h1, h2⟩
      rw [h2]
      unfold gl
      rw [List.getD_eq_getElem?_getD, List.getElem?_eq_getElem (by simp; omega)]
      exact List.getElem_mem _
    · intro hm
      obtain ⟨j, g1, g2⟩ := List.getElem_of_mem hm
      refine ⟨j, by simpa using g1, ?_⟩
      unfold gl
      rw [List.getD_eq_getElem?_getD, List.getElem?_eq_getElem g1]
      exact g2.symm
  have hloop := r_closeL hP hr hrow
  generalize itr (fun k a => a ||| 2 ^ (6 * gl x (b ++ [x]) k + gl x (b ++ [x]) (k + 1))) (b.length + 1) 0 = es at hloop hE
  generalize itr (fun k a => a ||| 2 ^ gl x b k) (b.length + 1) 0 = vs at hloop hV
  unfold f_X8_closeRing
  rw [hloop, tr_bn_some]
  unfold f_X8_closeRing_E86
  generalize hs : sm w (x, b) = s at hsb
  -- the two first writes
  have w1 : mC h (tr_sl (tr_si h 0 17 (h.1 0 17 + 1)) 0 22 ((tr_si h 0 17 (h.1 0 17 + 1)).2 0 22 ||| lN es)) := mC_tr (mC_si h _ (Or.inl rfl)) (mC_sl _ _ (Or.inr rfl))
  have v17 : (tr_sl (tr_si h 0 17 (h.1 0 17 + 1)) 0 22 ((tr_si h 0 17 (h.1 0 17 + 1)).2 0 22 ||| lN es)).1 0 17 = iI ((A.length + 1 : Nat)) := by
    rw [sl_1, si_s, f1, iI_1, iI_add]; rfl
  have v18 : (tr_sl (tr_si h 0 17 (h.1 0 17 + 1)) 0 22 ((tr_si h 0 17 (h.1 0 17 + 1)).2 0 22 ||| lN es)).1 0 18 = iI S := by
    rw [sl_1, si_n _ _ _ (by decide), f2]
  have v19 : (tr_sl (tr_si h 0 17 (h.1 0 17 + 1)) 0 22 ((tr_si h 0 17 (h.1 0 17 + 1)).2 0 22 ||| lN es)).1 0 19 = iI B := by
    rw [sl_1, si_n _ _ _ (by decide), f3]
  have v21 : (tr_sl (tr_si h 0 17 (h.1 0 17 + 1)) 0 22 ((tr_si h 0 17 (h.1 0 17 + 1)).2 0 22 ||| lN es)).1 0 21 = nI cd := by
    rw [sl_1, si_n _ _ _ (by decide), f5]
  have v20 : (tr_sl (tr_si h 0 17 (h.1 0 17 + 1)) 0 22 ((tr_si h 0 17 (h.1 0 17 + 1)).2 0 22 ||| lN es)).2 0 20 = lN cw := by
    rw [sl_n _ _ _ (by decide), si_2, f4]
  have v22 : (tr_sl (tr_si h 0 17 (h.1 0 17 + 1)) 0 22 ((tr_si h 0 17 (h.1 0 17 + 1)).2 0 22 ||| lN es)).2 0 22 = lN (rwt ||| es) := by
    rw [sl_s, si_2, f6, lN_or]
  unfold tr_bd
  dsimp only
  generalize tr_sl (tr_si h 0 17 (h.1 0 17 + 1)) 0 22 ((tr_si h 0 17 (h.1 0 17 + 1)).2 0 22 ||| lN es) = h5 at w1 v17 v18 v19 v20 v21 v22
  have hrw : ∀ k, (rwt ||| es).testBit k = true ↔ ∃ q ∈ A ++ [(x, b)], hasE q k := by
    intro k
    rw [or_bit, f8, hE, mem_snoc]
  have hmB : ((b.length + 1 : Nat) : Int) ≤ 6 := by omega
  -- a ring that is slower than all ahead of it
  have more : (∀ q ∈ A, sm w q * ((b.length + 1 : Nat) : Int) < s * (q.2.length + 1 : Nat)) → ∃ h', f_X8_closeRing_J129 (iI s) (iI (b.length + 1 : Nat)) (lN es) (nI vs) h5 = some h' ∧ mC h h' ∧ rF h' w (A ++ [(x, b)]) := by
    intro hA
    unfold f_X8_closeRing_J129 f_X8_closeRing_J134
    rw [if_neg (show ¬ (1 : Int32) = 0 by decide)]
    unfold f_X8_closeRing_J161 tr_bd
    dsimp only
    rw [if_neg (show ¬ (1 : Int32) = 0 by decide)]
    refine ⟨_, rfl, ?_, ?_⟩
    · refine mC_tr ?_ (mC_si _ _ (by omega))
      refine mC_tr ?_ (mC_sl _ _ (by omega))
      refine mC_tr ?_ (mC_si _ _ (by omega))
      refine mC_tr ?_ (mC_sl _ _ (by omega))
      refine mC_tr ?_ (mC_si _ _ (by omega))
      exact mC_tr w1 (mC_si _ _ (by omega))
    · refine ⟨?_, s, ((b.length + 1 : Nat) : Int), rwt ||| es, es, vs, ?_, ?_, ?_, ?_, ?_, ⟨hsb.1, hsb.2, by omega, hmB⟩, hrw, Or.inr ⟨by omega, ⟨(x, b), by simp, hs, rfl⟩, ?_, ?_, ?_⟩⟩
      · simp (disch := decide) only [si_s, si_n, si_c, si_2, sl_s, sl_n, sl_c, sl_1, v17]
        simp
      · simp (disch := decide) only [si_s, si_n, si_c, si_2, sl_s, sl_n, sl_c, sl_1]
      · simp (disch := decide) only [si_s, si_n, si_c, si_2, sl_s, sl_n, sl_c, sl_1]
      · simp (disch := decide) only [si_s, si_n, si_c, si_2, sl_s, sl_n, sl_c, sl_1]
        rw [show (0 : Int64) = lN 0 from rfl, lN_or, Nat.zero_or]
      · simp (disch := decide) only [si_s, si_n, si_c, si_2, sl_s, sl_n, sl_c, sl_1]
        rw [show (0 : Int32) = nI 0 from rfl, nI_or, Nat.zero_or]
      · simp (disch := decide) only [si_s, si_n, si_c, si_2, sl_s, sl_n, sl_c, sl_1, v22]
      · intro q hq
        rcases List.mem_append.mp hq with hq | hq
        · exact Int.le_of_lt (hA q hq)
        · rw [List.mem_singleton] at hq; subst hq; rw [hs]; exact Int.le_refl _
      · intro k
        rw [hE, mem_snoc]
        constructor
        · intro h; exact Or.inr ⟨by rw [hs], h⟩
        · rintro (⟨q, q1, q2, q3⟩ | h)
          · have := hA q q1; omega
          · exact h.2
      · intro k
        rw [hV, mem_snoc]
        constructor
        · intro h; exact Or.inr ⟨by rw [hs], h⟩
        · rintro (⟨q, q1, q2, q3⟩ | h)
          · have := hA q q1; omega
          · exact h.2
  rw [v19]
  rcases f9 with ⟨g1, g2, g3, g4⟩ | ⟨g1, g2, g3, g4, g5⟩
  · rw [if_pos (by rw [g2]; rfl)]
    exact more (fun q hq => by rw [g1] at hq; cases hq)
  · have m1 : 0 ≤ s * B := Int.mul_nonneg hsb.1 (by omega)
    have m2 : s * B ≤ 60 * 6 := Int.mul_le_mul hsb.2 f7.2.2.2 (by omega) (by omega)
    have m3 : 0 ≤ S * ((b.length + 1 : Nat) : Int) := Int.mul_nonneg f7.1 (by omega)
    have m4 : S * ((b.length + 1 : Nat) : Int) ≤ 60 * 6 := Int.mul_le_mul f7.2.1 hmB (by omega) (by omega)
    rw [if_neg (by rw [iI_0, iI_eq (by omega) (by omega) (by omega) (by omega)]; omega), v18, iI_mul, iI_mul]
    by_cases c : s * B ≤ S * ((b.length + 1 : Nat) : Int)
    · rw [if_pos (by rw [iI_le (by omega) (by omega) (by omega) (by omega)]; exact c)]
      unfold f_X8_closeRing_J134
      rw [if_pos rfl]
      unfold f_X8_closeRing_J161
      rw [if_pos rfl, v19, v18, iI_mul, iI_mul]
      by_cases c2 : s * B = S * ((b.length + 1 : Nat) : Int)
      · rw [if_pos (by rw [c2])]
        unfold tr_bd
        dsimp only
        refine ⟨_, rfl, mC_tr (mC_tr w1 (mC_sl _ _ (by omega))) (mC_si _ _ (by omega)), ?_⟩
        refine ⟨?_, S, B, rwt ||| es, cw ||| es, cd ||| vs, ?_, ?_, ?_, ?_, ?_, f7, hrw, Or.inr ⟨g1, ?_, ?_, ?_, ?_⟩⟩
        · simp (disch := decide) only [si_s, si_n, si_c, si_2, sl_s, sl_n, sl_c, sl_1, v17]
          simp
        · simp (disch := decide) only [si_s, si_n, si_c, si_2, sl_s, sl_n, sl_c, sl_1, v18]
        · simp (disch := decide) only [si_s, si_n, si_c, si_2, sl_s, sl_n, sl_c, sl_1, v19]
        · simp (disch := decide) only [si_s, si_n, si_c, si_2, sl_s, sl_n, sl_c, sl_1, v20, lN_or]
        · simp (disch := decide) only [si_s, si_n, si_c, si_2, sl_s, sl_n, sl_c, sl_1, v21, nI_or]
        · simp (disch := decide) only [si_s, si_n, si_c, si_2, sl_s, sl_n, sl_c, sl_1, v22]
        · obtain ⟨q, q1, q2⟩ := g2
          exact ⟨q, by simp [q1], q2⟩
        · intro q hq
          rcases List.mem_append.mp hq with hq | hq
          · exact g3 q hq
          · rw [List.mem_singleton] at hq; subst hq; rw [hs]; exact c
        · intro k
          rw [or_bit, g4, hE, mem_snoc]
          constructor
          · rintro (h | h)
            · exact Or.inl h
            · exact Or.inr ⟨by rw [hs]; exact c2, h⟩
          · rintro (h | h)
            · exact Or.inl h
            · exact Or.inr h.2
        · intro k
          rw [or_bit, g5, hV, mem_snoc]
          constructor
          · rintro (h | h)
            · exact Or.inl h
            · exact Or.inr ⟨by rw [hs]; exact c2, h⟩
          · rintro (h | h)
            · exact Or.inl h
            · exact Or.inr h.2
      · rw [if_neg (by rw [iI_eq (by omega) (by omega) (by omega) (by omega)]; exact c2)]
        refine ⟨h5, rfl, w1, by rw [v17]; simp, S, B, rwt ||| es, cw, cd, v18, v19, v20, v21, v22, f7, hrw, Or.inr ⟨g1, ?_, ?_, ?_, ?_⟩⟩
        · obtain ⟨q, q1, q2⟩ := g2
          exact ⟨q, by simp [q1], q2⟩
        · intro q hq
          rcases List.mem_append.mp hq with hq | hq
          · exact g3 q hq
          · rw [List.mem_singleton] at hq; subst hq; rw [hs]; exact c
        · intro k
          rw [g4, mem_snoc]
          constructor
          · intro h; exact Or.inl h
          · rintro (h | h)
            · exact h
            · rw [hs] at h; exact absurd h.1 c2
        · intro k
          rw [g5, mem_snoc]
          constructor
          · intro h; exact Or.inl h
          · rintro (h | h)
            · exact h
            · rw [hs] at h; exact absurd h.1 c2
    · rw [if_neg (by rw [iI_le (by omega) (by omega) (by omega) (by omega)]; exact c)]
      refine more (fun q hq => ?_)
      -- sm q * B ≤ S * lq and S * m < s * B, so sm q * m < s * lq
      have k1 := g3 q hq
      have k2 : (0 : Int) < (q.2.length + 1 : Nat) := by omega
      have k3 : S * ((b.length + 1 : Nat) : Int) < s * B := by omega
      have k4 : sm w q * B * ((b.length + 1 : Nat) : Int) ≤ S * (q.2.length + 1 : Nat) * ((b.length + 1 : Nat) : Int) := Int.mul_le_mul_of_nonneg_right k1 (by omega)
      have k5 : S * ((b.length + 1 : Nat) : Int) * (q.2.length + 1 : Nat) < s * B * (q.2.length + 1 : Nat) := Int.mul_lt_mul_of_pos_right k3 k2
      have k6 : sm w q * ((b.length + 1 : Nat) : Int) * B < s * (q.2.length + 1 : Nat) * B := by
        have e1 : sm w q * ((b.length + 1 : Nat) : Int) * B = sm w q * B * ((b.length + 1 : Nat) : Int) := by rw [Int.mul_assoc, Int.mul_comm _ B, ← Int.mul_assoc]
        have e2 : s * (q.2.length + 1 : Nat) * B = s * B * (q.2.length + 1 : Nat) := by rw [Int.mul_assoc, Int.mul_comm _ B, ← Int.mul_assoc]
        have e3 : S * ((b.length + 1 : Nat) : Int) * (q.2.length + 1 : Nat) = S * (q.2.length + 1 : Nat) * ((b.length + 1 : Nat) : Int) := by rw [Int.mul_assoc, Int.mul_comm ((b.length + 1 : Nat) : Int), ← Int.mul_assoc]
        rw [e1, e2]
        omega
      exact Int.lt_of_mul_lt_mul_right k6 (by omega)
