/-! the class's tables of walks -/
def Rk (n : Nat) (w : Nat → Int) : Nat → Nat → Int
  | 0, _ => 0
  | k + 1, v => itr (fun u a => if 0 ≤ Rk n w k u ∧ w (6 * u + v) ≠ -9 then max a (Rk n w k u + w (6 * u + v)) else a) n (-1)
theorem Rk_succ (n : Nat) (w : Nat → Int) (k v : Nat) : Rk n w (k + 1) v = itr (fun u a => if 0 ≤ Rk n w k u ∧ w (6 * u + v) ≠ -9 then max a (Rk n w k u + w (6 * u + v)) else a) n (-1) := rfl
theorem itr_ind {α : Type} {g : Nat → α → α} {a : α} (I : Nat → α → Prop) (n : Nat) (h0 : I 0 a) (hs : ∀ k b, k < n → I k b → I (k + 1) (g k b)) : I n (itr g n a) := by
  induction n with
  | zero => exact h0
  | succ n ih => exact hs n _ (by omega) (ih (fun k b hk => hs k b (by omega)))
theorem Rk_b {n : Nat} {w : Nat → Int} (hw : okn n w) : ∀ (k v : Nat), v < n → -1 ≤ Rk n w k v ∧ Rk n w k v ≤ 9 * k := by
  intro k
  induction k with
  | zero => intro v _; simp [Rk]
  | succ k ih =>
    intro v hv
    have h6 := hw.2.1
    rw [Rk_succ]
    refine itr_ind (fun (_ : Nat) (a : Int) => -1 ≤ a ∧ a ≤ 9 * (k + 1 : Nat)) n (by omega) (fun u a hu ha => ?_)
    have h1 := ih u hu
    have h2 := okn_b hw (c := 6 * u + v) (by omega)
    split <;> omega
theorem Rk_rows {n : Nat} {w : Nat → Int} (hw : okn n w) : rowsOf (eP (eB n w)) (wN w) n (Rk n w) := by
  have h6 := hw.2.1
  constructor
  · intro k
    induction k with
    | zero =>
      intro v _ hv _
      exact ⟨v, [], hv, rfl, trivial, rfl, by simp [wsm, Rk]⟩
    | succ k ih =>
      intro v hk hv h0
      rw [Rk_succ] at h0
      have key := itr_ind (g := fun u a => if 0 ≤ Rk n w k u ∧ w (6 * u + v) ≠ -9 then max a (Rk n w k u + w (6 * u + v)) else a) (a := (-1 : Int)) (fun _ a => 0 ≤ a → ∃ u, u < n ∧ 0 ≤ Rk n w k u ∧ w (6 * u + v) ≠ -9 ∧ a = Rk n w k u + w (6 * u + v)) n (by omega) (fun u a hu ha h => ?_)
      · obtain ⟨u, h1, h2, h3, h4⟩ := key h0
        obtain ⟨u0, l, g1, g2, g3, g4, g5⟩ := ih u (by omega) h1 h2
        refine ⟨u0, l ++ [v], g1, by simp [g2], ?_, by rw [la_app]; rfl, ?_⟩
        · rw [chn_app, g4]
          exact ⟨g3, by simp [eP, eB]; exact ⟨h1, hv, h3⟩, trivial⟩
        · rw [wsm_app, g4, g5]
          rw [Rk_succ, h4]
          simp [wsm, wN]
      · by_cases c : 0 ≤ Rk n w k u ∧ w (6 * u + v) ≠ -9
        · rw [if_pos c] at h ⊢
          by_cases c2 : a ≤ Rk n w k u + w (6 * u + v)
          · exact ⟨u, hu, c.1, c.2, by omega⟩
          · obtain ⟨u', q1, q2, q3, q4⟩ := ha (by omega)
            exact ⟨u', q1, q2, q3, by omega⟩
        · rw [if_neg c] at h ⊢
          exact ha h
  · intro u l hu
    generalize hlen : l.length = k
    induction k generalizing l with
    | zero =>
      intro _ _
      have : l = [] := List.length_eq_zero_iff.mp hlen
      subst this
      simp [wsm, Rk]
    | succ k ih =>
      intro hk hc
      have hne : l ≠ [] := fun q => by subst q; simp at hlen
      have e := List.dropLast_concat_getLast hne
      generalize hl0 : l.dropLast = l0 at e
      generalize hv : l.getLast hne = v at e
      subst e
      have hl0 : l0.length = k := by simp at hlen; omega
      obtain ⟨c1, c2, -⟩ := (chn_app u l0 [v]).mp hc
      have ih1 := ih l0 hl0 (by omega) c1
      rw [la_app, wsm_app]
      show wsm (wN w) u l0 + (wN w (la u l0) v + 0) ≤ Rk n w (k + 1) v
      have hb : ∀ i j, eP (eB n w) i j → i < n ∧ j < n := fun i j h => by simp [eP, eB] at h; exact ⟨h.1, h.2.1⟩
      have hnn : ∀ i j, eP (eB n w) i j → 0 ≤ wN w i j := fun i j h => by
        simp [eP, eB] at h
        have := (hw.2.2 (6 * i + j) (by omega)).1
        unfold wN
        omega
      have d1 := hb _ _ c2
      have d2 := wsm_nn hnn _ _ c1
      have d3 : w (6 * la u l0 + v) ≠ -9 := by simp [eP, eB] at c2; exact c2.2.2
      rw [Rk_succ]
      have key := itr_ind (g := fun u a => if 0 ≤ Rk n w k u ∧ w (6 * u + v) ≠ -9 then max a (Rk n w k u + w (6 * u + v)) else a) (a := (-1 : Int)) (fun m a => ∀ u, u < m → 0 ≤ Rk n w k u → w (6 * u + v) ≠ -9 → Rk n w k u + w (6 * u + v) ≤ a) n (fun u hu => by omega) (fun m a hm ha x hx q1 q2 => ?_)
      · have := key (la u l0) d1.1 (by omega) d3
        unfold wN at ih1 ⊢
        omega
      · by_cases hxm : x = m
        · subst hxm
          rw [if_pos ⟨q1, q2⟩]
          omega
        · have := ha x (by omega) q1 q2
          split <;> omega
def rowA (n : Nat) (w : Nat → Int) (f0 : Nat → Int32) (K T : Nat) : Nat → Int32 := fun j => if (j / 6 < K ∨ (j / 6 = K ∧ j % 6 < T)) ∧ j % 6 < n then iI (Rk n w (j / 6) (j % 6)) else f0 j
theorem rowA_up {n : Nat} {w : Nat → Int} {f0 : Nat → Int32} {K T : Nat} (hT : T < n) (hn : n ≤ 6) : upd (rowA n w f0 K T) (6 * K + T) (iI (Rk n w K T)) = rowA n w f0 K (T + 1) := by
  funext j
  unfold upd rowA
  by_cases e : j = 6 * K + T
  · rw [if_pos e]
    have e1 : j / 6 = K := by omega
    have e2 : j % 6 = T := by omega
    rw [if_pos (by omega), e1, e2]
  · rw [if_neg e]
    by_cases c : (j / 6 < K ∨ (j / 6 = K ∧ j % 6 < T)) ∧ j % 6 < n
    · rw [if_pos c, if_pos (by omega)]
    · rw [if_neg c, if_neg (by omega)]
theorem rowA_nx {n : Nat} {w : Nat → Int} {f0 : Nat → Int32} {K : Nat} : rowA n w f0 K n = rowA n w f0 (K + 1) 0 := by
  funext j
  unfold rowA
  by_cases c : (j / 6 < K ∨ (j / 6 = K ∧ j % 6 < n)) ∧ j % 6 < n
  · rw [if_pos c, if_pos (by omega)]
  · rw [if_neg c, if_neg (by omega)]
theorem rowA_rd {n : Nat} {w : Nat → Int} {f0 : Nat → Int32} {K T k v : Nat} (hv : v < n) (hn : n ≤ 6) (h : k < K ∨ (k = K ∧ v < T)) : rowA n w f0 K T (6 * k + v) = iI (Rk n w k v) := by
  unfold rowA
  rw [show (6 * k + v) / 6 = k by omega, show (6 * k + v) % 6 = v by omega, if_pos ⟨h, hv⟩]
theorem w_longest {h : tr_H} {i n : Nat} {w : Nat → Int} {k v : Nat} (hN : tN h i n w) (hk : k ≤ 5) (hv : v < n) (hR : ∀ u, u < n → h.1 22 (6 * k + u) = iI (Rk n w k u)) : f_X6_longest i (iI k) (iI v) h = some (iI (Rk n w (k + 1) v)) := by
  have hw := hN.2.1
  have h6 := hw.2.1
  have hsz := hN.2.2.1
  unfold f_X6_longest
  have key := tr_seq (f := fun q => f_X6_longest_L6 h i (iI k) (iI v) q.1 q.2) (fun m => (iI (itr (fun u a => if 0 ≤ Rk n w k u ∧ w (6 * u + v) ≠ -9 then max a (Rk n w k u + w (6 * u + v)) else a) m (-1)), iI m)) (lo := 0) (hi := n) (r := iI (Rk n w (k + 1) v)) (by omega) ?_ ?_
  · rw [show ((-1 : Int32), (0 : Int32)) = (iI (itr (fun u a => if 0 ≤ Rk n w k u ∧ w (6 * u + v) ≠ -9 then max a (Rk n w k u + w (6 * u + v)) else a) 0 (-1)), iI (0 : Nat)) from by simp only [itr, iI_m1]; rfl, key]
    rfl
  · intro m _ hm
    have hb : -1 ≤ itr (fun u a => if 0 ≤ Rk n w k u ∧ w (6 * u + v) ≠ -9 then max a (Rk n w k u + w (6 * u + v)) else a) m (-1) ∧ itr (fun u a => if 0 ≤ Rk n w k u ∧ w (6 * u + v) ≠ -9 then max a (Rk n w k u + w (6 * u + v)) else a) m (-1) ≤ 100 := by
      refine itr_ind (fun (_ : Nat) (a : Int) => -1 ≤ a ∧ a ≤ 100) m (by omega) (fun u a hu ha => ?_)
      have h1 := Rk_b hw k u (by omega)
      have h2 := okn_b hw (c := 6 * u + v) (by omega)
      split <;> omega
    have b1 := Rk_b hw k m hm
    have b2 := okn_b hw (c := 6 * m + v) (by omega)
    have g1 := hR m hm
    have g2 := n_of hN (a := (m : Int)) (b := (v : Int)) (by omega) (by omega) (by omega) (by omega)
    rw [woI_in hm hv] at g2
    show f_X6_longest_L6 h i (iI k) (iI v) _ (iI m) = some (.inl (_, iI ((m + 1 : Nat))))
    simp only [itr]
    generalize itr (fun u a => if 0 ≤ Rk n w k u ∧ w (6 * u + v) ≠ -9 then max a (Rk n w k u + w (6 * u + v)) else a) m (-1) = acc at hb ⊢
    unfold f_X6_longest_L6
    rw [hsz, g2]
    have g3 : ((k : Int) * 6 + (m : Int)).toNat = 6 * k + m := by omega
    by_cases c1 : 0 ≤ Rk n w k m
    · by_cases c2 : w (6 * m + v) = -9
      · simp (disch := omega) only [iI_0, iI_1, iI_2, iI_3, iI_4, iI_5, iI_6, iI_7, iI_8, iI_9, iI_10, iI_11, iI_12, iI_14, iI_20, iI_30, iI_31, iI_36, iI_37, iI_40, iI_48, iI_60, iI_63, iI_64, iI_78, iI_100, iI_255, iI_481, iI_1000000, iI_m1, iI_m2, iI_m3, iI_m4, iI_m9, iI_m1000000, iI_add, iI_sub, iI_mul, iI_neg, iI_lt, iI_le, iI_eq, iI_cl, tr_bd, tr_bn_some, tr_b2_some, tr_gdI, tr_nzI, tr_maxI, tr_minI, if_pos, if_neg, ↓reduceIte, g3, g1, c2]
        simp
      · simp (disch := omega) only [iI_0, iI_1, iI_2, iI_3, iI_4, iI_5, iI_6, iI_7, iI_8, iI_9, iI_10, iI_11, iI_12, iI_14, iI_20, iI_30, iI_31, iI_36, iI_37, iI_40, iI_48, iI_60, iI_63, iI_64, iI_78, iI_100, iI_255, iI_481, iI_1000000, iI_m1, iI_m2, iI_m3, iI_m4, iI_m9, iI_m1000000, iI_add, iI_sub, iI_mul, iI_neg, iI_lt, iI_le, iI_eq, iI_cl, tr_bd, tr_bn_some, tr_b2_some, tr_gdI, tr_nzI, tr_maxI, tr_minI, if_pos, if_neg, ↓reduceIte, g3, g1]
        simp [c1, c2]
    · simp (disch := omega) only [iI_0, iI_1, iI_2, iI_3, iI_4, iI_5, iI_6, iI_7, iI_8, iI_9, iI_10, iI_11, iI_12, iI_14, iI_20, iI_30, iI_31, iI_36, iI_37, iI_40, iI_48, iI_60, iI_63, iI_64, iI_78, iI_100, iI_255, iI_481, iI_1000000, iI_m1, iI_m2, iI_m3, iI_m4, iI_m9, iI_m1000000, iI_add, iI_sub, iI_mul, iI_neg, iI_lt, iI_le, iI_eq, iI_cl, tr_bd, tr_bn_some, tr_b2_some, tr_gdI, tr_nzI, tr_maxI, tr_minI, if_pos, if_neg, ↓reduceIte, g3, g1]
      simp [c1]
  · show f_X6_longest_L6 h i (iI k) (iI v) _ (iI n) = _
    unfold f_X6_longest_L6
    rw [hsz]
    simp (disch := omega) only [iI_0, iI_1, iI_2, iI_3, iI_4, iI_5, iI_6, iI_7, iI_8, iI_9, iI_10, iI_11, iI_12, iI_14, iI_20, iI_30, iI_31, iI_36, iI_37, iI_40, iI_48, iI_60, iI_63, iI_64, iI_78, iI_100, iI_255, iI_481, iI_1000000, iI_m1, iI_m2, iI_m3, iI_m4, iI_m9, iI_m1000000, iI_add, iI_sub, iI_mul, iI_neg, iI_lt, iI_le, iI_eq, iI_cl, tr_bd, tr_bn_some, tr_b2_some, tr_gdI, tr_nzI, tr_maxI, tr_minI, if_pos, if_neg, ↓reduceIte]
    rfl
