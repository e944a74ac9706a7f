/-! what a step leaves as it was -/
def fr (L : List Nat) (h h' : tr_H) : Prop := (∀ c, c ∉ L → h'.1 c = h.1 c) ∧ h'.2 = h.2
theorem fr_rf (L : List Nat) (h : tr_H) : fr L h h := ⟨fun _ _ => rfl, rfl⟩
theorem fr_tr {L : List Nat} {a b c : tr_H} (h1 : fr L a b) (h2 : fr L b c) : fr L a c := ⟨fun k hk => (h2.1 k hk).trans (h1.1 k hk), h2.2.trans h1.2⟩
theorem fr_up {L M : List Nat} {a b : tr_H} (h : fr L a b) (hs : ∀ x, x ∈ L → x ∈ M) : fr M a b := ⟨fun k hk => h.1 k (fun q => hk (hs k q)), h.2⟩
theorem fr_sa {L : List Nat} (h : tr_H) {i : Nat} (f : Nat → Int32) (hi : i ∈ L) : fr L h (tr_sa h i f) := ⟨fun k hk => tr_sa_ne _ _ (fun e => hk (by rw [e]; exact hi)), rfl⟩
theorem fr_si {L : List Nat} (h : tr_H) {i : Nat} (k : Nat) (v : Int32) (hi : i ∈ L) : fr L h (tr_si h i k v) := fr_sa h _ hi
theorem tN_fr {L : List Nat} {h h' : tr_H} {i n : Nat} {w : Nat → Int} (hf : fr L h h') (h1 : i ∉ L) (h2 : i + 1 ∉ L) (hN : tN h i n w) : tN h' i n w := by
  obtain ⟨a, b, c, d⟩ := hN
  exact ⟨a, b, by rw [hf.1 i h1]; exact c, fun k hk => by rw [hf.1 _ h2]; exact d k hk⟩
theorem tP_fr {L : List Nat} {h h' : tr_H} {q n : Nat} {w : Nat → Int} (hf : fr L h h') (h1 : q ∉ L) (hP : tP h q n w) : tP h' q n w := by
  obtain ⟨a, b, c, d⟩ := hP
  exact ⟨a, b, by rw [hf.1 q h1]; exact c, fun k hk => by rw [hf.1 q h1]; exact d k hk⟩
theorem iI_ix {m : Nat} (h : m < 2147483648) : (iI (m : Int)).toNatClampNeg = m := by
  rw [iI_cl (by omega) (by omega)]
  exact Int.toNat_natCast m
/-! the class spreads a delay -/
def timH (h : tr_H) (n : Nat) (w : Nat → Int) (p : Int) : Prop := h.1 24 2 = iI p ∧ ∀ v, v < 6 → h.1 25 v = iI (TM n w p n v)
theorem w_timeOf {h : tr_H} {v : Nat} (hv : v < 6) : f_X0_timeOf (iI v) h = some (h.1 25 v) := by
  unfold f_X0_timeOf
  simp (disch := omega) only [iI_0, iI_1, iI_2, iI_3, iI_4, iI_5, iI_6, iI_7, iI_8, iI_9, iI_10, iI_11, iI_12, iI_14, iI_20, iI_30, iI_31, iI_36, iI_37, iI_40, iI_48, iI_60, iI_63, iI_64, iI_78, iI_100, iI_255, iI_481, iI_1000000, iI_m1, iI_m2, iI_m3, iI_m4, iI_m9, iI_m1000000, iI_add, iI_sub, iI_mul, iI_neg, iI_lt, iI_le, iI_eq, iI_cl, tr_bd, tr_bn_some, tr_b2_some, tr_gdI, tr_nzI, if_pos, if_neg, ↓reduceIte, Int.toNat_natCast]
theorem w_spareOf {h : tr_H} {i n : Nat} {w : Nat → Int} {p : Int} (hN : tN h i n w) (hT : timH h n w p) {a b : Nat} (ha : a < n) (hb : b < n) : f_X0_spareOf i (iI a) (iI b) h = some (iI (spr n w p a b)) := by
  have h6 := hN.2.1.2.1
  have ho := n_of hN (a := (a : Int)) (b := (b : Int)) (by omega) (by omega) (by omega) (by omega)
  rw [woI_in ha hb] at ho
  unfold f_X0_spareOf spr
  rw [w_timeOf (by omega), w_timeOf (by omega), ho, hT.1, hT.2 a (by omega), hT.2 b (by omega)]
  simp only [tr_bn_some, iI_add, iI_sub]
def spg (n : Nat) (w : Nat → Int) (p : Int) (at_ r v : Nat) : Nat → Int → Int := fun i a => if spq n w p at_ r i ≠ 1000000 ∧ w (6 * i + v) ≠ -9 then min a (spq n w p at_ r i + spr n w p i v) else a
theorem spq_0 (n : Nat) (w : Nat → Int) (p : Int) (at_ v : Nat) : spq n w p at_ 0 v = if v = at_ then 0 else 1000000 := rfl
theorem w_leastSpare {h : tr_H} {i n : Nat} {w : Nat → Int} {p : Int} {at_ r v : Nat} (hN : tN h i n w) (hk : kept n w p) (hT : timH h n w p) (hr : r ≤ 39) (hv : v < n) (hR : ∀ u, u < n → h.1 26 (6 * r + u) = iI (spq n w p at_ r u)) : f_X0_leastSpare i (iI r) (iI v) h = some (iI (spq n w p at_ (r + 1) v)) := by
  have hw := hN.2.1
  have h6 := hw.2.1
  have hsz := hN.2.2.1
  unfold f_X0_leastSpare
  have key := tr_seq (f := fun q => f_X0_leastSpare_L7 h i (iI r) (iI v) q.1 q.2) (fun m => (iI (itr (spg n w p at_ r v) m 1000000), iI m)) (lo := 0) (hi := n) (r := iI (spq n w p at_ (r + 1) v)) (by omega) ?_ ?_
  · rw [show ((1000000 : Int32), (0 : Int32)) = (iI (itr (spg n w p at_ r v) 0 1000000), iI (0 : Nat)) from by simp only [itr, iI_1000000]; rfl, key]
    rfl
  · intro m _ hm
    have hb : 0 ≤ itr (spg n w p at_ r v) m 1000000 ∧ itr (spg n w p at_ r v) m 1000000 ≤ 1000000 := by
      refine itr_ind (fun (_ : Nat) (a : Int) => 0 ≤ a ∧ a ≤ 1000000) m (by omega) (fun u a hu ha => ?_)
      unfold spg
      by_cases c : spq n w p at_ r u ≠ 1000000 ∧ w (6 * u + v) ≠ -9
      · rw [if_pos c]
        have h1 := spq_b (at_ := at_) hw hk r u (by omega)
        have h2 := sprN hw hk (show u < n by omega) hv c.2
        omega
      · rw [if_neg c]; exact ha
    have b1 := spq_b (at_ := at_) hw hk r m hm
    have g1 := hR m hm
    have g2 := n_of hN (a := (m : Int)) (b := (v : Int)) (by omega) (by omega) (by omega) (by omega)
    rw [woI_in hm hv] at g2
    have b2 := okn_b hw (c := 6 * m + v) (by omega)
    have g4 := w_spareOf hN hT hm hv
    show f_X0_leastSpare_L7 h i (iI r) (iI v) _ (iI m) = some (.inl (_, iI ((m + 1 : Nat))))
    simp only [itr]
    generalize itr (spg n w p at_ r v) m 1000000 = acc at hb ⊢
    unfold f_X0_leastSpare_L7 spg
    rw [hsz, g2, g4]
    have g3 : ((r : Int) * 6 + (m : Int)).toNat = 6 * r + m := by omega
    by_cases c1 : spq n w p at_ r m = 1000000
    · simp (disch := omega) only [iI_0, iI_1, iI_2, iI_3, iI_4, iI_5, iI_6, iI_7, iI_8, iI_9, iI_10, iI_11, iI_12, iI_14, iI_20, iI_30, iI_31, iI_36, iI_37, iI_40, iI_48, iI_60, iI_63, iI_64, iI_78, iI_100, iI_255, iI_481, iI_1000000, iI_m1, iI_m2, iI_m3, iI_m4, iI_m9, iI_m1000000, iI_add, iI_sub, iI_mul, iI_neg, iI_lt, iI_le, iI_eq, iI_cl, tr_bd, tr_bn_some, tr_b2_some, tr_gdI, tr_nzI, tr_maxI, tr_minI, if_pos, if_neg, ↓reduceIte, g3, g1, c1]
      simp
    · by_cases c2 : w (6 * m + v) = -9
      · simp (disch := omega) only [iI_0, iI_1, iI_2, iI_3, iI_4, iI_5, iI_6, iI_7, iI_8, iI_9, iI_10, iI_11, iI_12, iI_14, iI_20, iI_30, iI_31, iI_36, iI_37, iI_40, iI_48, iI_60, iI_63, iI_64, iI_78, iI_100, iI_255, iI_481, iI_1000000, iI_m1, iI_m2, iI_m3, iI_m4, iI_m9, iI_m1000000, iI_add, iI_sub, iI_mul, iI_neg, iI_lt, iI_le, iI_eq, iI_cl, tr_bd, tr_bn_some, tr_b2_some, tr_gdI, tr_nzI, tr_maxI, tr_minI, if_pos, if_neg, ↓reduceIte, g3, g1, c2]
        simp
      · have b3 := sprN hw hk hm hv c2
        simp (disch := omega) only [iI_0, iI_1, iI_2, iI_3, iI_4, iI_5, iI_6, iI_7, iI_8, iI_9, iI_10, iI_11, iI_12, iI_14, iI_20, iI_30, iI_31, iI_36, iI_37, iI_40, iI_48, iI_60, iI_63, iI_64, iI_78, iI_100, iI_255, iI_481, iI_1000000, iI_m1, iI_m2, iI_m3, iI_m4, iI_m9, iI_m1000000, iI_add, iI_sub, iI_mul, iI_neg, iI_lt, iI_le, iI_eq, iI_cl, tr_bd, tr_bn_some, tr_b2_some, tr_gdI, tr_nzI, tr_maxI, tr_minI, if_pos, if_neg, ↓reduceIte, g3, g1]
        simp [c1, c2]
  · show f_X0_leastSpare_L7 h i (iI r) (iI v) _ (iI n) = _
    unfold f_X0_leastSpare_L7
    rw [hsz, if_pos (Int32.le_refl _)]
    rfl
def spT (n : Nat) (a : Nat → Nat → Int) (K T : Nat) (g : Nat → Int32) : Prop := ∀ r v, v < n → (r < K ∨ (r = K ∧ v < T)) → g (6 * r + v) = iI (a r v)
theorem spT_up {n : Nat} {a : Nat → Nat → Int} {K T : Nat} {g : Nat → Int32} (hn : n ≤ 6) (h : spT n a K T g) (hT : T < n) : spT n a K (T + 1) (upd g (6 * K + T) (iI (a K T))) := by
  intro r v hv hc
  unfold upd
  by_cases e : 6 * r + v = 6 * K + T
  · have e1 : r = K := by omega
    have e2 : v = T := by omega
    rw [if_pos e, e1, e2]
  · rw [if_neg e]
    exact h r v hv (by omega)
theorem spT_nx {n : Nat} {a : Nat → Nat → Int} {K : Nat} {g : Nat → Int32} (h : spT n a K n g) : spT n a (K + 1) 0 g := fun r v hv hc => h r v hv (by omega)
theorem w_spread {h : tr_H} {i n : Nat} {w : Nat → Int} {p : Int} {at_ R : Nat} (hN : tN h i n w) (hk : kept n w p) (hT : timH h n w p) (ha : at_ < n) (hR : R ≤ 40) : ∃ g, f_X0_spread i (iI at_) (iI R) h = some (tr_sa h 26 g) ∧ spT n (spq n w p at_) (R + 1) 0 g := by
  have hw := hN.2.1
  have h6 := hw.2.1
  have hi := hN.1
  have hNb : ∀ g, tN (tr_sa h 26 g) i n w := fun g => tN_ne hN g (by unfold netI at hi; omega) (by unfold netI at hi; omega)
  have hsz : ∀ g, (tr_sa h 26 g).1 i 1 = iI n := fun g => (hNb g).2.2.1
  have hTb : ∀ g, timH (tr_sa h 26 g) n w p := fun g => ⟨by rw [tr_sa_ne _ _ (by decide)]; exact hT.1, fun v hv => by rw [tr_sa_ne _ _ (by decide)]; exact hT.2 v hv⟩
  obtain ⟨r0, k0, g0, rfl, t0⟩ := tr_inv (f := fun q => f_X0_spread_L3 i (iI at_) q.1 q.2) (fun m s => ∃ g, s = (iI m, tr_sa h 26 g) ∧ spT n (spq n w p at_) 0 m g) (fun r => ∃ g, r = tr_sa h 26 g ∧ spT n (spq n w p at_) 0 n g) (hi := n) (by
    rintro m s hm ⟨g, rfl, hg⟩
    refine ⟨(iI (m + 1 : Nat), tr_sa h 26 (upd g (6 * 0 + m) (iI (spq n w p at_ 0 m)))), ?_, _, rfl, spT_up h6 hg hm⟩
    show f_X0_spread_L3 i (iI at_) (iI m) (tr_sa h 26 g) = _
    unfold f_X0_spread_L3
    rw [hsz, spq_0, show 6 * 0 + m = m by omega]
    by_cases e : m = at_
    · subst e
      simp (disch := omega) only [iI_0, iI_1, iI_2, iI_3, iI_4, iI_5, iI_6, iI_7, iI_8, iI_9, iI_10, iI_11, iI_12, iI_14, iI_20, iI_30, iI_31, iI_36, iI_37, iI_40, iI_48, iI_60, iI_63, iI_64, iI_78, iI_100, iI_255, iI_481, iI_1000000, iI_m1, iI_m2, iI_m3, iI_m4, iI_m9, iI_m1000000, iI_add, iI_sub, iI_mul, iI_neg, iI_lt, iI_le, iI_eq, iI_cl, tr_bd, tr_bn_some, tr_b2_some, tr_gdI, tr_nzI, if_pos, if_neg, ↓reduceIte, Int.toNat_natCast, tr_si, tr_sa_at, tr_sa_sa]
      rfl
    · simp (disch := omega) only [iI_0, iI_1, iI_2, iI_3, iI_4, iI_5, iI_6, iI_7, iI_8, iI_9, iI_10, iI_11, iI_12, iI_14, iI_20, iI_30, iI_31, iI_36, iI_37, iI_40, iI_48, iI_60, iI_63, iI_64, iI_78, iI_100, iI_255, iI_481, iI_1000000, iI_m1, iI_m2, iI_m3, iI_m4, iI_m9, iI_m1000000, iI_add, iI_sub, iI_mul, iI_neg, iI_lt, iI_le, iI_eq, iI_cl, tr_bd, tr_bn_some, tr_b2_some, tr_gdI, tr_nzI, if_pos, if_neg, ↓reduceIte, Int.toNat_natCast, tr_si, tr_sa_at, tr_sa_sa]
      rfl) (by
    rintro s ⟨g, rfl, hg⟩
    refine ⟨tr_sa h 26 g, ?_, g, rfl, hg⟩
    show f_X0_spread_L3 i (iI at_) (iI n) (tr_sa h 26 g) = _
    unfold f_X0_spread_L3
    rw [hsz, if_pos (Int32.le_refl _)]) 0 (iI (0 : Nat), h) (by omega) ⟨h.1 26, by rw [tr_sa_self], fun r v _ hc => by omega⟩
  obtain ⟨r1, k1, g1, rfl, t1⟩ := tr_inv (f := fun q => f_X0_spread_L40 (iI R) i q.1 q.2) (fun m s => ∃ g, s = (iI m, tr_sa h 26 g) ∧ 1 ≤ m ∧ spT n (spq n w p at_) m 0 g) (fun r => ∃ g, r = tr_sa h 26 g ∧ spT n (spq n w p at_) (R + 1) 0 g) (hi := R + 1) (by
    rintro m s hm ⟨g, rfl, hm1, hg⟩
    obtain ⟨m', rfl⟩ : ∃ m', m = m' + 1 := ⟨m - 1, by omega⟩
    obtain ⟨r2, k2, g2, rfl, t2⟩ := tr_inv (f := fun q => f_X0_spread_L56 i (iI (m' + 1 : Nat)) q.1 q.2) (fun b s => ∃ g, s = (iI b, tr_sa h 26 g) ∧ spT n (spq n w p at_) (m' + 1) b g) (fun r => ∃ g, r = tr_sa h 26 g ∧ spT n (spq n w p at_) (m' + 1) n g) (hi := n) (by
      rintro b s hb ⟨g, rfl, hg⟩
      have gls := w_leastSpare (r := m') (v := b) (hNb g) hk (hTb g) (by omega) hb (fun u hu => by rw [tr_sa_at]; exact hg m' u hu (by omega))
      refine ⟨(iI (b + 1 : Nat), tr_sa h 26 (upd g (6 * (m' + 1) + b) (iI (spq n w p at_ (m' + 1) b)))), ?_, _, rfl, spT_up h6 hg hb⟩
      show f_X0_spread_L56 i (iI (m' + 1 : Nat)) (iI b) (tr_sa h 26 g) = _
      unfold f_X0_spread_L56
      rw [hsz]
      have e5 : ((m' + 1 : Nat) : Int) - 1 = (m' : Int) := by omega
      have e6 : (((m' + 1 : Nat) : Int) * 6 + (b : Int)).toNat = 6 * (m' + 1) + b := by omega
      simp (disch := omega) only [iI_0, iI_1, iI_2, iI_3, iI_4, iI_5, iI_6, iI_7, iI_8, iI_9, iI_10, iI_11, iI_12, iI_14, iI_20, iI_30, iI_31, iI_36, iI_37, iI_40, iI_48, iI_60, iI_63, iI_64, iI_78, iI_100, iI_255, iI_481, iI_1000000, iI_m1, iI_m2, iI_m3, iI_m4, iI_m9, iI_m1000000, iI_add, iI_sub, iI_mul, iI_neg, iI_lt, iI_le, iI_eq, iI_cl, tr_bd, tr_bn_some, tr_b2_some, tr_gdI, tr_nzI, tr_maxI, tr_minI, if_pos, if_neg, ↓reduceIte, e5, e6, gls, tr_si, tr_sa_at, tr_sa_sa]
      rfl) (by
      rintro s ⟨g, rfl, hg⟩
      refine ⟨tr_sa h 26 g, ?_, g, rfl, hg⟩
      show f_X0_spread_L56 i (iI (m' + 1 : Nat)) (iI n) (tr_sa h 26 g) = _
      unfold f_X0_spread_L56
      rw [hsz, if_pos (Int32.le_refl _)]) 0 (iI (0 : Nat), tr_sa h 26 g) (by omega) ⟨g, rfl, hg⟩
    refine ⟨(iI (m' + 1 + 1 : Nat), tr_sa h 26 g2), ?_, g2, rfl, by omega, spT_nx t2⟩
    show f_X0_spread_L40 (iI R) i (iI (m' + 1 : Nat)) (tr_sa h 26 g) = _
    unfold f_X0_spread_L40
    rw [if_neg (by rw [iI_lt (by omega) (by omega) (by omega) (by omega)]; omega), if_neg (by rw [iI_40, iI_lt (by omega) (by omega) (by omega) (by omega)]; omega), show ((0 : Int32), tr_sa h 26 g) = (iI (0 : Nat), tr_sa h 26 g) from rfl, k2, tr_bn_some]
    unfold f_X0_spread_E95 tr_bd
    rw [iI_1, iI_add]
    rfl) (by
    rintro s ⟨g, rfl, hm1, hg⟩
    refine ⟨tr_sa h 26 g, ?_, g, rfl, hg⟩
    show f_X0_spread_L40 (iI R) i (iI (R + 1 : Nat)) (tr_sa h 26 g) = _
    unfold f_X0_spread_L40
    rw [if_pos (by rw [iI_lt (by omega) (by omega) (by omega) (by omega)]; omega)]) 1 (iI (1 : Nat), tr_sa h 26 g0) (by omega) ⟨g0, rfl, by omega, spT_nx t0⟩
  refine ⟨g1, ?_, t1⟩
  unfold f_X0_spread
  rw [show ((0 : Int32), h) = (iI (0 : Nat), h) from rfl, k0, tr_bn_some]
  unfold f_X0_spread_E37
  rw [show ((1 : Int32), tr_sa h 26 g0) = (iI (1 : Nat), tr_sa h 26 g0) from rfl, k1]
  rfl
/-- how late, on the class's side -/
theorem w_lateness {h : tr_H} {n : Nat} {w : Nat → Int} {p d : Int} {at_ R r v : Nat} (hw : okn n w) (hk : kept n w p) (hd : 0 ≤ d ∧ d ≤ 30) (hs : spT n (spq n w p at_) (R + 1) 0 (h.1 26)) (hr : r ≤ R) (hR : R ≤ 40) (hv : v < n) : f_X0_lateness (iI d) (iI v) (iI r) h = some (iI (lat n w p at_ d r v)) := by
  have h6 := hw.2.1
  have b1 := spq_b (at_ := at_) hw hk r v hv
  have g1 := hs r v hv (by omega)
  rw [lat_spq hw hk hd r v (by omega) hv]
  unfold f_X0_lateness
  have e1 : ((r : Int) * 6 + (v : Int)).toNat = 6 * r + v := by omega
  simp (disch := omega) only [iI_0, iI_1, iI_2, iI_3, iI_4, iI_5, iI_6, iI_7, iI_8, iI_9, iI_10, iI_11, iI_12, iI_14, iI_20, iI_30, iI_31, iI_36, iI_37, iI_40, iI_48, iI_60, iI_63, iI_64, iI_78, iI_100, iI_255, iI_481, iI_1000000, iI_m1, iI_m2, iI_m3, iI_m4, iI_m9, iI_m1000000, iI_add, iI_sub, iI_mul, iI_neg, iI_lt, iI_le, iI_eq, iI_cl, tr_bd, tr_bn_some, tr_b2_some, tr_gdI, tr_nzI, tr_maxI, tr_minI, if_pos, if_neg, ↓reduceIte, e1, g1]
/-- none is late -/
def quiet (n : Nat) (w : Nat → Int) (p : Int) (at_ : Nat) (d : Int) (r : Nat) : Prop := ∀ v, v < n → lat n w p at_ d r v = 0
noncomputable def dieF (n : Nat) (w : Nat → Int) (p : Int) (at_ : Nat) (d : Int) : Nat → Nat → Int
  | 0, _ => -9
  | k + 1, r => @ite _ (quiet n w p at_ d r) (Classical.propDecidable _) (r : Int) (dieF n w p at_ d k (r + 1))
theorem dieF_y {n : Nat} {w : Nat → Int} {p d : Int} {at_ k r : Nat} (h : quiet n w p at_ d r) : dieF n w p at_ d (k + 1) r = r := by
  unfold dieF
  exact if_pos h
theorem dieF_n {n : Nat} {w : Nat → Int} {p d : Int} {at_ k r : Nat} (h : ¬ quiet n w p at_ d r) : dieF n w p at_ d (k + 1) r = dieF n w p at_ d k (r + 1) := by
  conv => lhs; unfold dieF
  exact if_neg h
theorem w_quiet {h : tr_H} {n : Nat} {w : Nat → Int} {p d : Int} {at_ : Nat} (hw : okn n w) (hk : kept n w p) (hd : 0 ≤ d ∧ d ≤ 30) (hs : spT n (spq n w p at_) (40 + 1) 0 (h.1 26)) : f_X0_firstQuietRound (iI d) (iI n) h = some (iI (dieF n w p at_ d 40 1)) := by
  have h6 := hw.2.1
  have lb := lat_b (at_ := at_) hw hk hd
  have hmx : ∀ r : Nat, r ≤ 40 → tr_lp (fun q => f_X0_firstQuietRound_L14 (iI n) (iI d) (iI r) h q.1 q.2) (0, 0) = some (iI (itr (fun v a => max a (lat n w p at_ d r v)) n 0)) := by
    intro r hr
    have key := tr_seq (f := fun q => f_X0_firstQuietRound_L14 (iI n) (iI d) (iI r) h q.1 q.2) (fun m => (iI (itr (fun v a => max a (lat n w p at_ d r v)) m 0), iI m)) (lo := 0) (hi := n) (r := iI (itr (fun v a => max a (lat n w p at_ d r v)) n 0)) (by omega) ?_ ?_
    · rw [show ((0 : Int32), (0 : Int32)) = (iI (itr (fun v a => max a (lat n w p at_ d r v)) 0 0), iI (0 : Nat)) from rfl, key]
    · intro m _ hm
      have hb : 0 ≤ itr (fun v a => max a (lat n w p at_ d r v)) m 0 ∧ itr (fun v a => max a (lat n w p at_ d r v)) m 0 ≤ 30 := by
        refine itr_ind (fun (_ : Nat) (a : Int) => 0 ≤ a ∧ a ≤ 30) m (by omega) (fun u a hu ha => ?_)
        have := lb r u
        omega
      have gw := w_lateness hw hk hd hs (r := r) (v := m) hr (by omega) hm
      have b2 := lb r m
      show f_X0_firstQuietRound_L14 (iI n) (iI d) (iI r) h _ (iI m) = some (.inl (_, iI ((m + 1 : Nat))))
      simp only [itr]
      generalize itr (fun v a => max a (lat n w p at_ d r v)) m 0 = acc at hb ⊢
      unfold f_X0_firstQuietRound_L14
      rw [gw]
      simp (disch := omega) only [iI_0, iI_1, iI_2, iI_3, iI_4, iI_5, iI_6, iI_7, iI_8, iI_9, iI_10, iI_11, iI_12, iI_14, iI_20, iI_30, iI_31, iI_36, iI_37, iI_40, iI_48, iI_60, iI_63, iI_64, iI_78, iI_100, iI_255, iI_481, iI_1000000, iI_m1, iI_m2, iI_m3, iI_m4, iI_m9, iI_m1000000, iI_add, iI_sub, iI_mul, iI_neg, iI_lt, iI_le, iI_eq, iI_cl, tr_bd, tr_bn_some, tr_b2_some, tr_gdI, tr_nzI, tr_maxI, tr_minI, if_pos, if_neg, ↓reduceIte]
      rfl
    · show f_X0_firstQuietRound_L14 (iI n) (iI d) (iI r) h _ (iI n) = _
      unfold f_X0_firstQuietRound_L14
      rw [if_pos (Int32.le_refl _)]
  have hq : ∀ r, (itr (fun v a => max a (lat n w p at_ d r v)) n 0 = 0 ↔ quiet n w p at_ d r) := by
    intro r
    constructor
    · intro e v hv
      have h1 := itr_max_ge (f := lat n w p at_ d r) (a := 0) n v hv
      have h2 := lb r v
      omega
    · intro e
      refine itr_ind (fun (_ : Nat) (a : Int) => a = 0) n rfl (fun u a hu ha => ?_)
      rw [ha, e u hu]
      rfl
  have hloop : ∀ (k r : Nat), r + k = 41 → tr_lp (fun q => f_X0_firstQuietRound_L2 (iI n) (iI d) h q) (iI r) = some (if dieF n w p at_ d k r = -9 then .inl () else .inr (iI (dieF n w p at_ d k r))) := by
    intro k
    induction k with
    | zero =>
      intro r hr
      obtain rfl : r = 41 := by omega
      apply tr_lp_out
      show f_X0_firstQuietRound_L2 (iI n) (iI d) h (iI (41 : Nat)) = _
      unfold f_X0_firstQuietRound_L2
      rw [if_pos (by rw [iI_40, iI_lt (by omega) (by omega) (by omega) (by omega)]; omega)]
      rfl
    | succ k ih =>
      intro r hr
      have hb := itr_ind (g := fun v a => max a (lat n w p at_ d r v)) (a := (0 : Int)) (fun (_ : Nat) (a : Int) => 0 ≤ a ∧ a ≤ 30) n (by omega) (fun u a hu ha => by have := lb r u; omega)
      by_cases c : quiet n w p at_ d r
      · rw [dieF_y c, if_neg (by omega)]
        apply tr_lp_out
        show f_X0_firstQuietRound_L2 (iI n) (iI d) h (iI r) = _
        unfold f_X0_firstQuietRound_L2
        rw [if_neg (by rw [iI_40, iI_lt (by omega) (by omega) (by omega) (by omega)]; omega), hmx r (by omega), tr_bn_some, (hq r).mpr c]
        rfl
      · rw [dieF_n c]
        have c2 : itr (fun v a => max a (lat n w p at_ d r v)) n 0 ≠ 0 := fun e => c ((hq r).mp e)
        rw [tr_lp_go (s' := iI (r + 1 : Nat)) (by
          show f_X0_firstQuietRound_L2 (iI n) (iI d) h (iI r) = _
          unfold f_X0_firstQuietRound_L2
          rw [if_neg (by rw [iI_40, iI_lt (by omega) (by omega) (by omega) (by omega)]; omega), hmx r (by omega), tr_bn_some]
          unfold f_X0_firstQuietRound_E41
          rw [if_neg (by rw [iI_0, iI_eq (by omega) (by omega) (by omega) (by omega)]; exact c2)]
          unfold tr_bd
          rw [iI_1, iI_add]
          rfl)]
        exact ih (r + 1) (by omega)
  unfold f_X0_firstQuietRound
  rw [show (1 : Int32) = iI (1 : Nat) from rfl, hloop 40 1 (by omega), tr_bn_some]
  by_cases c : dieF n w p at_ d 40 1 = -9
  · rw [if_pos c, c]
    rfl
  · rw [if_neg c]
    rfl
/-! the reference lets a delay go round -/
def timP (h : tr_H) (n : Nat) (w : Nat → Int) (p : Int) : Prop := ∀ v, v < 6 → h.1 13 v = iI (TM n w p n v)
def latP (h : tr_H) (n : Nat) (w : Nat → Int) (p : Int) (at_ : Nat) (d : Int) (r : Nat) : Prop := ∀ v, v < 6 → h.1 14 v = iI (lat n w p at_ d r v)
theorem r_spareOf {h : tr_H} {q n : Nat} {w : Nat → Int} {p : Int} (hP : tP h q n w) (hT : timP h n w p) {a b : Nat} (ha : a < n) (hb : b < n) (he : w (6 * a + b) ≠ -9) : f_X8_spareOf q (iI a) (iI b) (iI p) h = some (iI (spr n w p a b)) := by
  have h6 := hP.2.1.2.1
  have hm1 := r_minutesOf hP (i := a) (j := b) (by omega) (by omega)
  have b3 := (cvn_b hP.2.1 (c := 6 * a + b) (by omega)).2.2.2 he
  have t1 := hT a (by omega)
  have t2 := hT b (by omega)
  unfold f_X8_spareOf spr
  rw [hm1, b3, show w (6 * a + b) + 1 - 1 = w (6 * a + b) by omega]
  simp (disch := omega) only [iI_add, iI_sub, iI_mul, iI_neg, iI_lt, iI_le, iI_eq, iI_cl, tr_bd, tr_bn_some, tr_b2_some, tr_gdI, tr_nzI, Int.toNat_natCast, t1, t2]
theorem r_beginLate {h : tr_H} {n : Nat} {w : Nat → Int} {p d : Int} {at_ : Nat} (ha : at_ < 6) : ∃ h', f_X8_beginLate (iI at_) (iI d) h = some h' ∧ fr [14] h h' ∧ latP h' n w p at_ d 0 := by
  obtain ⟨r0, k0, g0, rfl, t0⟩ := tr_inv (f := fun q => f_X8_beginLate_L2 (iI at_) (iI d) q.1 q.2) (fun m s => ∃ g, s = (iI m, tr_sa h 14 g) ∧ ∀ v, v < m → g v = iI (lat n w p at_ d 0 v)) (fun r => ∃ g, r = tr_sa h 14 g ∧ ∀ v, v < 6 → g v = iI (lat n w p at_ d 0 v)) (hi := 6) (by
    rintro m s hm ⟨g, rfl, hg⟩
    refine ⟨(iI (m + 1 : Nat), tr_sa h 14 (upd g m (iI (lat n w p at_ d 0 m)))), ?_, _, rfl, fun v hv => ?_⟩
    · show f_X8_beginLate_L2 (iI at_) (iI d) (iI m) (tr_sa h 14 g) = _
      unfold f_X8_beginLate_L2
      rw [show lat n w p at_ d 0 m = if m = at_ then d else 0 from rfl]
      by_cases e : m = at_
      · subst e
        simp (disch := omega) only [iI_0, iI_1, iI_2, iI_3, iI_4, iI_5, iI_6, iI_7, iI_8, iI_9, iI_10, iI_11, iI_12, iI_14, iI_20, iI_30, iI_31, iI_36, iI_37, iI_40, iI_48, iI_60, iI_63, iI_64, iI_78, iI_100, iI_255, iI_481, iI_1000000, iI_m1, iI_m2, iI_m3, iI_m4, iI_m9, iI_m1000000, iI_add, iI_sub, iI_mul, iI_neg, iI_lt, iI_le, iI_eq, iI_cl, tr_bd, tr_bn_some, tr_b2_some, tr_gdI, tr_nzI, if_pos, if_neg, ↓reduceIte, Int.toNat_natCast, tr_si, tr_sa_at, tr_sa_sa]
        rfl
      · simp (disch := omega) only [iI_0, iI_1, iI_2, iI_3, iI_4, iI_5, iI_6, iI_7, iI_8, iI_9, iI_10, iI_11, iI_12, iI_14, iI_20, iI_30, iI_31, iI_36, iI_37, iI_40, iI_48, iI_60, iI_63, iI_64, iI_78, iI_100, iI_255, iI_481, iI_1000000, iI_m1, iI_m2, iI_m3, iI_m4, iI_m9, iI_m1000000, iI_add, iI_sub, iI_mul, iI_neg, iI_lt, iI_le, iI_eq, iI_cl, tr_bd, tr_bn_some, tr_b2_some, tr_gdI, tr_nzI, if_pos, if_neg, ↓reduceIte, Int.toNat_natCast, tr_si, tr_sa_at, tr_sa_sa]
        rfl
    · unfold upd
      by_cases e : v = m
      · rw [if_pos e, e]
      · rw [if_neg e]; exact hg v (by omega)) (by
    rintro s ⟨g, rfl, hg⟩
    exact ⟨tr_sa h 14 g, rfl, g, rfl, hg⟩) 0 (iI (0 : Nat), h) (by omega) ⟨h.1 14, by rw [tr_sa_self], fun v hv => by omega⟩
  refine ⟨tr_sa h 14 g0, ?_, fr_sa _ _ (by simp), fun v hv => by rw [tr_sa_at]; exact t0 v hv⟩
  unfold f_X8_beginLate
  rw [show ((0 : Int32), h) = (iI (0 : Nat), h) from rfl, k0]
  rfl
theorem r_J72 {h : tr_H} {f : Nat → Int32} {k m : Nat} {t z : Int} (hk : k < 6) (hm : m < 6) (hf : f k = iI t) (t1 : -100000 ≤ t) (t2 : t ≤ 100000) (z1 : -100000 ≤ z) (z2 : z ≤ 100000) : f_X8_goRound_J72 (iI k) (tr_sa h 15 f) (iI m) (iI z) = some (.inl (iI (m + 1 : Nat), tr_sa h 15 (upd f k (iI (max t z))))) := by
  unfold f_X8_goRound_J72
  by_cases c : z ≤ t
  · rw [show max t z = t by omega]
    simp (disch := omega) only [iI_0, iI_1, iI_2, iI_3, iI_4, iI_5, iI_6, iI_7, iI_8, iI_9, iI_10, iI_11, iI_12, iI_14, iI_20, iI_30, iI_31, iI_36, iI_37, iI_40, iI_48, iI_60, iI_63, iI_64, iI_78, iI_100, iI_255, iI_481, iI_1000000, iI_m1, iI_m2, iI_m3, iI_m4, iI_m9, iI_m1000000, iI_add, iI_sub, iI_mul, iI_neg, iI_lt, iI_le, iI_eq, iI_cl, tr_bd, tr_bn_some, tr_b2_some, tr_gdI, tr_nzI, if_pos, if_neg, ↓reduceIte, Int.toNat_natCast, tr_si, tr_sa_at, tr_sa_sa, hf]
    rfl
  · rw [show max t z = z by omega]
    simp (disch := omega) only [iI_0, iI_1, iI_2, iI_3, iI_4, iI_5, iI_6, iI_7, iI_8, iI_9, iI_10, iI_11, iI_12, iI_14, iI_20, iI_30, iI_31, iI_36, iI_37, iI_40, iI_48, iI_60, iI_63, iI_64, iI_78, iI_100, iI_255, iI_481, iI_1000000, iI_m1, iI_m2, iI_m3, iI_m4, iI_m9, iI_m1000000, iI_add, iI_sub, iI_mul, iI_neg, iI_lt, iI_le, iI_eq, iI_cl, tr_bd, tr_bn_some, tr_b2_some, tr_gdI, tr_nzI, if_pos, if_neg, ↓reduceIte, Int.toNat_natCast, tr_si, tr_sa_at, tr_sa_sa, hf]
    rfl
def lag (n : Nat) (w : Nat → Int) (p : Int) (at_ : Nat) (d : Int) (r v : Nat) : Nat → Int → Int := fun i a => max a (if w (6 * i + v) = -9 then 0 else lat n w p at_ d r i - spr n w p i v)
def lall (n : Nat) (w : Nat → Int) (p : Int) (at_ : Nat) (d : Int) (r m : Nat) : Int := itr (fun v a => a + lat n w p at_ d r v) m 0
theorem r_goRound {h : tr_H} {q n : Nat} {w : Nat → Int} {p d : Int} {at_ r : Nat} (hP : tP h q n w) (hk : kept n w p) (hT : timP h n w p) (hd : 0 ≤ d ∧ d ≤ 30) (hL : latP h n w p at_ d r) : ∃ h', f_X8_goRound q (iI p) h = some (iI (lall n w p at_ d (r + 1) 6), h') ∧ fr [14, 15] h h' ∧ latP h' n w p at_ d (r + 1) := by
  have hw := hP.2.1
  have h6 := hw.2.1
  have hq := hP.1
  have hPb : ∀ f, tP (tr_sa h 15 f) q n w := fun f => tP_fr (fr_sa (L := [15]) h f (by simp)) (by unfold pagI at hq; simp; omega) hP
  have hsz : ∀ f, (tr_sa h 15 f).1 q ((0 : Int32).toNatClampNeg) = iI n := fun f => (hPb f).2.2.1
  have hTb : ∀ f, timP (tr_sa h 15 f) n w p := fun f v hv => by rw [tr_sa_ne _ _ (by decide)]; exact hT v hv
  have hLb : ∀ f v, v < 6 → (tr_sa h 15 f).1 14 v = iI (lat n w p at_ d r v) := fun f v hv => by rw [tr_sa_ne _ _ (by decide)]; exact hL v hv
  have lb := lat_b (at_ := at_) hw hk hd
  obtain ⟨r1, k1, f1, rfl, t1⟩ := tr_inv (f := fun z => f_X8_goRound_L5 q (iI p) z.1 z.2.1 z.2.2) (fun m s => ∃ f, s = (iI (lall n w p at_ d (r + 1) m), iI m, tr_sa h 15 f) ∧ ∀ v, v < m → f v = iI (lat n w p at_ d (r + 1) v)) (fun s => ∃ f, s = (iI (lall n w p at_ d (r + 1) 6), tr_sa h 15 f) ∧ ∀ v, v < 6 → f v = iI (lat n w p at_ d (r + 1) v)) (hi := 6) (by
    rintro k s hk6 ⟨f, rfl, hf⟩
    have hin : ∃ g, tr_lp (fun z => f_X8_goRound_L23 q (iI k) (iI p) z.1 z.2) (iI (0 : Nat), tr_sa h 15 (upd f k (iI 0))) = some (tr_sa h 15 g) ∧ ∀ v, v < k + 1 → g v = iI (lat n w p at_ d (r + 1) v) := by
      by_cases hkn : k < n
      · obtain ⟨r2, k2, g2, rfl, t2, t2'⟩ := tr_inv (f := fun z => f_X8_goRound_L23 q (iI k) (iI p) z.1 z.2) (fun m s => ∃ g, s = (iI m, tr_sa h 15 g) ∧ (∀ v, v < k → g v = iI (lat n w p at_ d (r + 1) v)) ∧ g k = iI (itr (lag n w p at_ d r k) m 0)) (fun s => ∃ g, s = tr_sa h 15 g ∧ (∀ v, v < k → g v = iI (lat n w p at_ d (r + 1) v)) ∧ g k = iI (itr (lag n w p at_ d r k) n 0)) (hi := n) (by
          rintro m s hm ⟨g, rfl, hg1, hg2⟩
          have hb : 0 ≤ itr (lag n w p at_ d r k) m 0 ∧ itr (lag n w p at_ d r k) m 0 ≤ 30 := by
            refine itr_ind (fun (_ : Nat) (a : Int) => 0 ≤ a ∧ a ≤ 30) m (by omega) (fun u a hu ha => ?_)
            unfold lag
            by_cases c : w (6 * u + k) = -9
            · rw [if_pos c]; omega
            · rw [if_neg c]
              have q1 := lb r u
              have q2 := sprN hw hk (show u < n by omega) hkn c
              omega
          have hm2 := r_isThere (hPb g) (i := m) (j := k) (by omega) (by omega)
          refine ⟨(iI (m + 1 : Nat), tr_sa h 15 (upd g k (iI (itr (lag n w p at_ d r k) (m + 1) 0)))), ?_, _, rfl, fun v hv => ?_, ?_⟩
          · show f_X8_goRound_L23 q (iI k) (iI p) (iI m) (tr_sa h 15 g) = _
            unfold f_X8_goRound_L23
            rw [hsz, if_neg (by rw [iI_le (by omega) (by omega) (by omega) (by omega)]; omega), if_neg (by rw [iI_le (by omega) (by omega) (by omega) (by omega)]; omega), hm2, tr_bn_some]
            simp only [itr]
            by_cases c : w (6 * m + k) = -9
            · rw [if_pos c, if_pos rfl, iI_0, r_J72 (by omega) (by omega) hg2 (by omega) (by omega) (by omega) (by omega)]
              unfold lag
              rw [if_pos c]
            · have q1 := lb r m
              have q2 := sprN hw hk hm hkn c
              rw [if_neg c, if_neg (show ¬ (1 : Int32) = 0 by decide), tr_gdI (by omega) (by omega) (by omega), r_spareOf (hPb g) (hTb g) hm hkn c, tr_bn_some, iI_ix (by omega), hLb g m (by omega), iI_sub, r_J72 (by omega) (by omega) hg2 (by omega) (by omega) (by omega) (by omega)]
              unfold lag
              rw [if_neg c]
          · unfold upd
            rw [if_neg (by omega)]
            exact hg1 v hv
          · unfold upd
            rw [if_pos rfl]) (by
          rintro s ⟨g, rfl, hg1, hg2⟩
          refine ⟨tr_sa h 15 g, ?_, g, rfl, hg1, hg2⟩
          show f_X8_goRound_L23 q (iI k) (iI p) (iI n) (tr_sa h 15 g) = _
          unfold f_X8_goRound_L23
          rw [hsz, if_pos (Int32.le_refl _)]) 0 (iI (0 : Nat), tr_sa h 15 (upd f k (iI 0))) (by omega) ⟨_, rfl, fun v hv => by unfold upd; rw [if_neg (by omega)]; exact hf v hv, by unfold upd; rw [if_pos rfl]; rfl⟩
        refine ⟨g2, k2, fun v hv => ?_⟩
        by_cases e : v = k
        · rw [e, t2', lat_s, if_pos hkn]
          rfl
        · exact t2 v (by omega)
      · refine ⟨upd f k (iI 0), tr_lp_out ?_, fun v hv => ?_⟩
        · show f_X8_goRound_L23 q (iI k) (iI p) (iI (0 : Nat)) (tr_sa h 15 (upd f k (iI 0))) = _
          have h1 := hw.1
          unfold f_X8_goRound_L23
          rw [hsz, if_neg (by rw [iI_le (by omega) (by omega) (by omega) (by omega)]; omega), if_pos (by rw [iI_le (by omega) (by omega) (by omega) (by omega)]; omega)]
        · unfold upd
          by_cases e : v = k
          · rw [if_pos e, e, lat_s, if_neg hkn]
          · rw [if_neg e]; exact hf v (by omega)
    obtain ⟨g, hg1, hg2⟩ := hin
    refine ⟨(iI (lall n w p at_ d (r + 1) (k + 1)), iI (k + 1 : Nat), tr_sa h 15 g), ?_, g, rfl, hg2⟩
    show f_X8_goRound_L5 q (iI p) (iI (lall n w p at_ d (r + 1) k)) (iI k) (tr_sa h 15 f) = _
    unfold f_X8_goRound_L5
    rw [if_neg (by rw [iI_6, iI_le (by omega) (by omega) (by omega) (by omega)]; omega), tr_gdI (by omega) (by omega) (by omega)]
    unfold tr_bd
    dsimp only
    rw [iI_ix (by omega)]
    unfold tr_si
    rw [tr_sa_at, tr_sa_sa, show ((0 : Int32), tr_sa h 15 (upd f k 0)) = (iI (0 : Nat), tr_sa h 15 (upd f k (iI 0))) from rfl, hg1, tr_bn_some]
    unfold f_X8_goRound_E111 tr_bd
    rw [tr_gdI (by omega) (by omega) (by omega), iI_ix (by omega), tr_sa_at, hg2 k (by omega), iI_add, iI_1, iI_add]
    rfl) (by
    rintro s ⟨f, rfl, hf⟩
    exact ⟨_, rfl, f, rfl, hf⟩) 0 (iI (0 : Nat), iI (0 : Nat), h) (by omega) ⟨h.1 15, by rw [tr_sa_self]; rfl, fun v hv => by omega⟩
  obtain ⟨hb, ehb⟩ : ∃ hb, hb = tr_sa h 15 f1 := ⟨_, rfl⟩
  have hb15 : ∀ g, (tr_sa hb 14 g).1 15 = f1 := fun g => by rw [tr_sa_ne _ _ (by decide), ehb, tr_sa_at]
  obtain ⟨r3, k3, g3, rfl, t3⟩ := tr_inv (f := fun z => f_X8_goRound_L130 z.1 z.2) (fun m s => ∃ g, s = (iI m, tr_sa hb 14 g) ∧ ∀ v, v < m → g v = f1 v) (fun s => ∃ g, s = tr_sa hb 14 g ∧ ∀ v, v < 6 → g v = f1 v) (hi := 6) (by
    rintro m s hm ⟨g, rfl, hg⟩
    refine ⟨(iI (m + 1 : Nat), tr_sa hb 14 (upd g m (f1 m))), ?_, _, rfl, fun v hv => ?_⟩
    · show f_X8_goRound_L130 (iI m) (tr_sa hb 14 g) = _
      unfold f_X8_goRound_L130
      rw [hb15]
      simp (disch := omega) only [iI_0, iI_1, iI_2, iI_3, iI_4, iI_5, iI_6, iI_7, iI_8, iI_9, iI_10, iI_11, iI_12, iI_14, iI_20, iI_30, iI_31, iI_36, iI_37, iI_40, iI_48, iI_60, iI_63, iI_64, iI_78, iI_100, iI_255, iI_481, iI_1000000, iI_m1, iI_m2, iI_m3, iI_m4, iI_m9, iI_m1000000, iI_add, iI_sub, iI_mul, iI_neg, iI_lt, iI_le, iI_eq, iI_cl, tr_bd, tr_bn_some, tr_b2_some, tr_gdI, tr_nzI, if_pos, if_neg, ↓reduceIte, Int.toNat_natCast, tr_si, tr_sa_at, tr_sa_sa]
      rfl
    · unfold upd
      by_cases e : v = m
      · rw [if_pos e, e]
      · rw [if_neg e]; exact hg v (by omega)) (by
    rintro s ⟨g, rfl, hg⟩
    exact ⟨_, rfl, g, rfl, hg⟩) 0 (iI (0 : Nat), hb) (by omega) ⟨hb.1 14, by rw [tr_sa_self], fun v hv => by omega⟩
  refine ⟨tr_sa hb 14 g3, ?_, ?_, fun v hv => by rw [tr_sa_at, t3 v hv]; exact t1 v hv⟩
  · unfold f_X8_goRound
    rw [show ((0 : Int32), (0 : Int32), h) = (iI (0 : Nat), iI (0 : Nat), h) from rfl, k1, tr_bn_some]
    unfold f_X8_goRound_E127
    rw [← ehb, show ((0 : Int32), hb) = (iI (0 : Nat), hb) from rfl, k3]
    rfl
  · refine fr_tr (b := hb) ?_ (fr_sa _ _ (by simp))
    rw [ehb]
    exact fr_sa _ _ (by simp)
theorem lall_0 {n : Nat} {w : Nat → Int} {p d : Int} {at_ r : Nat} (hw : okn n w) (hk : kept n w p) (hd : 0 ≤ d ∧ d ≤ 30) : (0 ≤ lall n w p at_ d (r + 1) 6 ∧ lall n w p at_ d (r + 1) 6 ≤ 180) ∧ (lall n w p at_ d (r + 1) 6 = 0 ↔ quiet n w p at_ d (r + 1)) := by
  have lb := lat_b (at_ := at_) hw hk hd (r + 1)
  have h6 := hw.2.1
  have e : lall n w p at_ d (r + 1) 6 = 0 + lat n w p at_ d (r + 1) 0 + lat n w p at_ d (r + 1) 1 + lat n w p at_ d (r + 1) 2 + lat n w p at_ d (r + 1) 3 + lat n w p at_ d (r + 1) 4 + lat n w p at_ d (r + 1) 5 := rfl
  have z0 := lb 0
  have z1 := lb 1
  have z2 := lb 2
  have z3 := lb 3
  have z4 := lb 4
  have z5 := lb 5
  refine ⟨by omega, fun q v hv => ?_, fun q => ?_⟩
  · rcases (show v = 0 ∨ v = 1 ∨ v = 2 ∨ v = 3 ∨ v = 4 ∨ v = 5 by omega) with rfl | rfl | rfl | rfl | rfl | rfl <;> omega
  · have hz : ∀ v, lat n w p at_ d (r + 1) v = 0 := by
      intro v
      by_cases hv : v < n
      · exact q v hv
      · rw [lat_s, if_neg hv]
    rw [e, hz, hz, hz, hz, hz, hz]
    rfl
/-- it dies, or not -/
theorem r_diesOf {h : tr_H} {q n : Nat} {w : Nat → Int} {p d : Int} {at_ : Nat} (hP : tP h q n w) (hk : kept n w p) (hd : 0 ≤ d ∧ d ≤ 30) (ha : at_ < n) : ∃ h', f_X8_diesOf q (iI at_) (iI d) (iI p) h = some (iI (dieF n w p at_ d 40 1), h') ∧ fr [13, 14, 15] h h' := by
  have hw := hP.2.1
  have h6 := hw.2.1
  have hq := hP.1
  obtain ⟨g, e1, t1⟩ := r_layTimes hP hk
  obtain ⟨h2, e2, m2, l2⟩ := r_beginLate (h := tr_sa h 13 g) (n := n) (w := w) (p := p) (d := d) (at_ := at_) (by omega)
  have hT2 : timP h2 n w p := fun v hv => by rw [m2.1 13 (by decide), tr_sa_at]; exact t1 v hv
  have fr2 : fr [13, 14, 15] h h2 := fr_tr (fr_sa _ _ (by simp)) (fr_up m2 (by simp))
  have hloop : ∀ (k r : Nat), r + 1 + k = 41 → ∀ (h1 : tr_H), fr [14, 15] h2 h1 → latP h1 n w p at_ d r → ∃ s, tr_lp (fun z => f_X8_diesOf_L16 q (iI p) z.1 z.2) (iI (r + 1 : Nat), h1) = some s ∧ ∃ h', Sum.elim (fun x => f_X8_diesOf_E42 x) (fun x => some x) s = some (iI (dieF n w p at_ d k (r + 1)), h') ∧ fr [14, 15] h2 h' := by
    intro k
    induction k with
    | zero =>
      intro r hr h1 f1 l1
      obtain rfl : r = 40 := by omega
      refine ⟨.inl h1, tr_lp_out ?_, h1, rfl, f1⟩
      show f_X8_diesOf_L16 q (iI p) (iI (40 + 1 : Nat)) h1 = _
      unfold f_X8_diesOf_L16
      rw [if_pos (by rw [iI_40, iI_lt (by omega) (by omega) (by omega) (by omega)]; omega)]
    | succ k ih =>
      intro r hr h1 f1 l1
      have hP1 : tP h1 q n w := tP_fr f1 (by unfold pagI at hq; simp; omega) (tP_fr fr2 (by unfold pagI at hq; simp; omega) hP)
      have hT1 : timP h1 n w p := fun v hv => by rw [f1.1 13 (by decide)]; exact hT2 v hv
      obtain ⟨h3, e3, f3, l3⟩ := r_goRound hP1 hk hT1 hd l1
      have la0 := lall_0 (at_ := at_) (r := r) hw hk hd
      have hL : f_X8_diesOf_L16 q (iI p) (iI (r + 1 : Nat)) h1 = if lall n w p at_ d (r + 1) 6 = 0 then some (.inr (.inr (iI (r + 1 : Nat), h3))) else some (.inl (iI (r + 1 + 1 : Nat), h3)) := by
        unfold f_X8_diesOf_L16
        rw [if_neg (by rw [iI_40, iI_lt (by omega) (by omega) (by omega) (by omega)]; omega), e3, tr_b2_some]
        by_cases c : lall n w p at_ d (r + 1) 6 = 0
        · rw [if_pos c, if_pos (by rw [c]; rfl)]
        · rw [if_neg c, if_neg (by rw [iI_0, iI_eq (by omega) (by omega) (by omega) (by omega)]; exact c)]
          unfold tr_bd
          rw [iI_1, iI_add]
          rfl
      by_cases c : lall n w p at_ d (r + 1) 6 = 0
      · rw [if_pos c] at hL
        refine ⟨.inr (iI (r + 1 : Nat), h3), tr_lp_out hL, h3, ?_, fr_tr f1 f3⟩
        rw [dieF_y (la0.2.mp c)]
        rfl
      · rw [if_neg c] at hL
        rw [tr_lp_go (s' := (iI (r + 1 + 1 : Nat), h3)) hL, dieF_n (fun q => c (la0.2.mpr q))]
        exact ih (r + 1) (by omega) h3 (fr_tr f1 f3) l3
  obtain ⟨s, k1, h', k2, k3⟩ := hloop 40 0 (by omega) h2 (fr_rf _ _) l2
  refine ⟨h', ?_, fr_tr fr2 (fr_up k3 (by simp))⟩
  unfold f_X8_diesOf
  rw [e1, tr_bn_some, e2, tr_bn_some, show ((1 : Int32), h2) = (iI (0 + 1 : Nat), h2) from rfl, k1, tr_bn_some]
  exact k2
