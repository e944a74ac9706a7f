/-! the reference goes through all rings -/
def mR (h h' : tr_H) : Prop := (∀ c, c ≠ 0 → c ≠ 11 → c ≠ 12 → h'.1 c = h.1 c) ∧ (∀ k, k ≠ 17 → k ≠ 18 → k ≠ 19 → k ≠ 21 → h'.1 0 k = h.1 0 k) ∧ ∀ c k, ¬ (c = 0 ∧ (k = 20 ∨ k = 22)) → h'.2 c k = h.2 c k
theorem mR_rf (h : tr_H) : mR h h := ⟨fun _ _ _ _ => rfl, fun _ _ _ _ _ => rfl, fun _ _ _ => rfl⟩
theorem mR_tr {a b c : tr_H} (h1 : mR a b) (h2 : mR b c) : mR a c := ⟨fun k q1 q2 q3 => (h2.1 k q1 q2 q3).trans (h1.1 k q1 q2 q3), fun k a1 a2 a3 a4 => (h2.2.1 k a1 a2 a3 a4).trans (h1.2.1 k a1 a2 a3 a4), fun x k hk => (h2.2.2 x k hk).trans (h1.2.2 x k hk)⟩
theorem mC_R {a b : tr_H} (h : mC a b) : mR a b := ⟨fun k q1 _ _ => h.1 k q1, h.2.1, h.2.2⟩
theorem mR_si (h : tr_H) {c : Nat} (k : Nat) (v : Int32) (hc : c = 11 ∨ c = 12) : mR h (tr_si h c k v) :=
  ⟨fun a _ h2 h3 => si_c h k v (by omega), fun j _ _ _ _ => by rw [si_c h k v (by omega)], fun _ _ _ => rfl⟩
theorem tP_R {h h' : tr_H} {p n : Nat} {w : Nat → Int} (hR : mR h h') (hP : tP h p n w) : tP h' p n w := by
  obtain ⟨h1, h2, h3, h4⟩ := hP
  have e : h'.1 p = h.1 p := hR.1 p (by unfold pagI at h1; omega) (by unfold pagI at h1; omega) (by unfold pagI at h1; omega)
  exact ⟨h1, h2, by rw [e]; exact h3, fun c hc => by rw [e]; exact h4 c hc⟩
theorem rF_c {h h' : tr_H} {w : Nat → Int} {A : List (Nat × List Nat)} (e1 : h'.1 0 = h.1 0) (e2 : h'.2 = h.2) (hF : rF h w A) : rF h' w A := by
  unfold rF at hF ⊢
  rw [e1, e2]
  exact hF
theorem gl_snoc {x t : Nat} {b : List Nat} {k : Nat} (hk : k ≤ b.length) : gl x (b ++ [t]) k = gl x b k := by
  unfold gl
  rw [show x :: (b ++ [t]) = (x :: b) ++ [t] from rfl, List.getD_eq_getElem?_getD, List.getD_eq_getElem?_getD, List.getElem?_append_left (by simp; omega)]
theorem gl_last {x t : Nat} {b : List Nat} : gl x (b ++ [t]) (b.length + 1) = t := by
  rw [gl_s _ _ _ (by simp)]
  simp
theorem gl_la (x : Nat) (b : List Nat) : gl x b b.length = la x b := by
  have := la_take x b b.length (Nat.le_refl _)
  rw [List.take_of_length_le (Nat.le_refl _)] at this
  exact this.symm
theorem gl_mem {x : Nat} {b : List Nat} {k : Nat} (hk : k ≤ b.length) : gl x b k ∈ x :: b := by
  unfold gl
  rw [List.getD_eq_getElem?_getD, List.getElem?_eq_getElem (by simp; omega)]
  exact List.getElem_mem _
theorem mem_gl {x : Nat} {b : List Nat} {y : Nat} (h : y ∈ x :: b) : ∃ k, k ≤ b.length ∧ y = gl x b k := by
  obtain ⟨j, g1, g2⟩ := List.getElem_of_mem h
  refine ⟨j, by simp at g1; omega, ?_⟩
  unfold gl
  rw [List.getD_eq_getElem?_getD, List.getElem?_eq_getElem g1]
  exact g2.symm
theorem mem_take_s {x t : Nat} {b : List Nat} {m : Nat} (hm : m ≤ b.length) : t ∈ (x :: b).take (m + 1) ↔ t ∈ (x :: b).take m ∨ t = gl x b m := by
  rw [List.take_succ, List.getElem?_eq_getElem (by simp; omega), List.mem_append]
  have e : gl x b m = (x :: b)[m]'(by simp; omega) := by
    unfold gl
    rw [List.getD_eq_getElem?_getD, List.getElem?_eq_getElem (by simp; omega)]
    rfl
  rw [e]
  simp
theorem r_isIn {h : tr_H} {x : Nat} {b : List Nat} {t : Nat} (hb : b.length + 1 ≤ 6) (hl : ∀ y ∈ x :: b, y < 6) (ht : t < 6) (hrow : ∀ k, k ≤ b.length → h.1 11 k = iI (gl x b k)) : f_X8_isIn (iI (b.length + 1 : Nat)) (iI t) h = some (if t ∈ x :: b then 1 else 0) := by
  unfold f_X8_isIn
  have key := tr_seq (f := fun q => f_X8_isIn_L5 (iI (b.length + 1 : Nat)) h (iI t) q.1 q.2) (fun m => ((if t ∈ (x :: b).take m then (1 : Int32) else 0), iI m)) (lo := 0) (hi := b.length + 1) (r := if t ∈ x :: b then (1 : Int32) else 0) (by omega) ?_ ?_
  · rw [show ((0 : Int32), (0 : Int32)) = ((if t ∈ (x :: b).take 0 then (1 : Int32) else 0), iI (0 : Nat)) from by simp; rfl, key, tr_bn_some]
    unfold f_X8_isIn_E35 tr_zb
    by_cases c : t ∈ x :: b
    · rw [if_pos c]; rfl
    · rw [if_neg c]; rfl
  · intro m _ hm
    have a1 := hrow m (by omega)
    have a2 := hl _ (gl_mem (x := x) (b := b) (k := m) (by omega))
    have a3 := mem_take_s (x := x) (t := t) (b := b) (m := m) (by omega)
    show f_X8_isIn_L5 (iI (b.length + 1 : Nat)) h (iI t) _ (iI m) = some (.inl (_, iI ((m + 1 : Nat))))
    unfold f_X8_isIn_L5
    by_cases c : t ∈ (x :: b).take m
    · rw [if_pos c, if_pos (a3.mpr (Or.inl c))]
      simp (disch := omega) only [iI_0, iI_1, iI_2, iI_3, iI_4, iI_5, iI_6, iI_7, iI_8, iI_9, iI_10, iI_11, iI_12, iI_14, iI_20, iI_30, iI_31, iI_36, iI_37, iI_40, iI_48, iI_60, iI_63, iI_64, iI_78, iI_100, iI_255, iI_481, iI_1000000, iI_m1, iI_m2, iI_m3, iI_m4, iI_m9, iI_m1000000, iI_add, iI_sub, iI_mul, iI_neg, iI_lt, iI_le, iI_eq, iI_cl, tr_bd, tr_bn_some, tr_b2_some, tr_gdI, tr_nzI, if_pos, if_neg, ↓reduceIte]
      rfl
    · by_cases e : gl x b m = t
      · rw [if_neg c, if_pos (a3.mpr (Or.inr e.symm))]
        simp (disch := omega) only [iI_0, iI_1, iI_2, iI_3, iI_4, iI_5, iI_6, iI_7, iI_8, iI_9, iI_10, iI_11, iI_12, iI_14, iI_20, iI_30, iI_31, iI_36, iI_37, iI_40, iI_48, iI_60, iI_63, iI_64, iI_78, iI_100, iI_255, iI_481, iI_1000000, iI_m1, iI_m2, iI_m3, iI_m4, iI_m9, iI_m1000000, iI_add, iI_sub, iI_mul, iI_neg, iI_lt, iI_le, iI_eq, iI_cl, tr_bd, tr_bn_some, tr_b2_some, tr_gdI, tr_nzI, if_pos, if_neg, ↓reduceIte, Int.toNat_natCast, a1, e]
        rfl
      · have c2 : ¬ t ∈ (x :: b).take (m + 1) := fun q => by
          rcases a3.mp q with q | q
          · exact c q
          · exact e q.symm
        rw [if_neg c, if_neg c2]
        have e2 : ¬ ((gl x b m : Nat) : Int) = ((t : Nat) : Int) := by omega
        simp (disch := omega) only [iI_0, iI_1, iI_2, iI_3, iI_4, iI_5, iI_6, iI_7, iI_8, iI_9, iI_10, iI_11, iI_12, iI_14, iI_20, iI_30, iI_31, iI_36, iI_37, iI_40, iI_48, iI_60, iI_63, iI_64, iI_78, iI_100, iI_255, iI_481, iI_1000000, iI_m1, iI_m2, iI_m3, iI_m4, iI_m9, iI_m1000000, iI_add, iI_sub, iI_mul, iI_neg, iI_lt, iI_le, iI_eq, iI_cl, tr_bd, tr_bn_some, tr_b2_some, tr_gdI, tr_nzI, if_pos, if_neg, ↓reduceIte, Int.toNat_natCast, a1]
        rfl
  · show f_X8_isIn_L5 (iI (b.length + 1 : Nat)) h (iI t) _ (iI (b.length + 1 : Nat)) = _
    unfold f_X8_isIn_L5
    rw [if_pos (by rw [iI_le (by omega) (by omega) (by omega) (by omega)]; omega), List.take_of_length_le (by simp)]
/-- what a departure tried next gives -/
def dbd (e : Nat → Nat → Bool) (n x : Nat) (som : Nat → Bool) (f : Nat) (b : List Nat) (t : Nat) : List (List Nat) := if t = x ∧ e (la x b) t = true then [b] else if e (la x b) t = true ∧ som t = true ∧ t ∉ x :: b then dfs e n x som f (b ++ [t]) else []
theorem dfs_bd (e : Nat → Nat → Bool) (n x : Nat) (som : Nat → Bool) (f : Nat) (b : List Nat) : dfs e n x som (f + 1) b = (List.range' x (n - x)).flatMap (dbd e n x som f b) := rfl
theorem chn_mem_lt {n : Nat} {w : Nat → Int} {x : Nat} {b : List Nat} (hx : x < n) (hc : chn (eP (eB n w)) x b) : ∀ y ∈ x :: b, y < n := by
  intro y hy
  rcases List.mem_cons.mp hy with q | q
  · subst q; exact hx
  · exact chn_lt eB_b _ _ hc _ q
/-- one level of the search, from a departure on -/
theorem r_sub {p n mask : Nat} {w : Nat → Int} {x : Nat} (hmask : mask < 64) (hx : x < n) (hn : n ≤ 6) : ∀ (f : Nat) (b : List Nat), (x :: b).Nodup → chn (eP (eB n w)) x b → b.length + (f + 1) = n → ∀ (d t : Nat), t + d = n → x ≤ t → ∀ (h : tr_H) (A : List (Nat × List Nat)), tP h p n w → (∀ k, k ≤ b.length → h.1 11 k = iI (gl x b k)) → h.1 12 b.length = iI t → rF h w A →
    ∃ h', tr_lp (fun q => f_X8_ringsFrom_L17 p (iI x) (iI mask) q.1 q.2) (iI (b.length + 1 : Nat), h) = tr_lp (fun q => f_X8_ringsFrom_L17 p (iI x) (iI mask) q.1 q.2) (iI b.length, h') ∧ mR h h' ∧ (∀ k, k ≤ b.length → h'.1 11 k = h.1 11 k) ∧ (∀ k, k < b.length → h'.1 12 k = h.1 12 k) ∧ rF h' w (A ++ ((List.range' t d).flatMap (dbd (eB n w) n x (fun k => mask.testBit k) f b)).map (fun c => (x, c))) := by
  intro f
  induction f using Nat.strongRecOn with
  | ind f ihf =>
  intro b hnd hch hlen d
  have hltn := chn_mem_lt hx hch
  have hlt6 : ∀ y ∈ x :: b, y < 6 := fun y hy => by have := hltn y hy; omega
  have hla : la x b < 6 := hlt6 _ (la_mem x b)
  induction d with
  | zero =>
    intro t ht hxt h A hP hrow hnext hF
    obtain rfl : t = n := by omega
    have r1 := hrow b.length (Nat.le_refl _)
    have hp0 : h.1 p 0 = iI t := hP.2.2.1
    have hp12 : p ≠ 12 := by have := hP.1; unfold pagI at this; omega
    refine ⟨tr_si h 12 b.length (iI t + 1), tr_lp_go ?_, mR_si _ _ _ (Or.inr rfl), fun k _ => by rw [si_c _ _ _ (by decide)], fun k hk => si_n _ _ _ (by omega), ?_⟩
    · show f_X8_ringsFrom_L17 p (iI x) (iI mask) (iI (b.length + 1 : Nat)) h = _
      unfold f_X8_ringsFrom_L17
      have e1 : ((b.length + 1 : Nat) : Int) - 1 = (b.length : Int) := by omega
      have e0 : (0 : Int32).toNatClampNeg = 0 := rfl
      rw [e0]
      have e2 : (tr_si h 12 b.length (iI t + 1)).1 p 0 = iI t := by rw [si_c _ _ _ hp12]; exact hp0
      rw [if_neg (by rw [iI_0, iI_le (by omega) (by omega) (by omega) (by omega)]; omega), iI_1, iI_sub, e1]
      simp (disch := omega) only [tr_bd, tr_gdI, iI_cl, Int.toNat_natCast, hnext]
      rw [← iI_1, e2, if_neg (by rw [iI_lt (by omega) (by omega) (by omega) (by omega)]; omega), iI_m1, iI_add]
      congr 4
    · simp only [List.range'_zero, List.flatMap_nil, List.map_nil, List.append_nil]
      exact rF_c (si_c _ _ _ (by decide)) rfl hF
  | succ d ihd =>
    intro t ht hxt h A hP hrow hnext hF
    have r1 := hrow b.length (Nat.le_refl _)
    rw [gl_la] at r1
    have hp0 : h.1 p 0 = iI n := hP.2.2.1
    have hp12 : p ≠ 12 := by have := hP.1; unfold pagI at this; omega
    -- the pointer goes on
    obtain ⟨h1, e1⟩ : ∃ h1, h1 = tr_si h 12 b.length (iI (t + 1 : Nat)) := ⟨_, rfl⟩
    have m1 : mR h h1 := by rw [e1]; exact mR_si _ _ _ (Or.inr rfl)
    have p1 : tP h1 p n w := tP_R m1 hP
    have q1 : h1.1 11 = h.1 11 := by rw [e1]; exact si_c _ _ _ (by decide)
    have q2 : h1.1 12 b.length = iI (t + 1 : Nat) := by rw [e1]; exact si_s _ _ _ _
    have q3 : ∀ k, k < b.length → h1.1 12 k = h.1 12 k := fun k hk => by rw [e1]; exact si_n _ _ _ (by omega)
    have f1 : rF h1 w A := by rw [e1]; exact rF_c (si_c _ _ _ (by decide)) rfl hF
    have hstep : ∀ X, f_X8_ringsFrom_L17 p (iI x) (iI mask) (iI (b.length + 1 : Nat)) h = X ↔ (if iI t = iI x then (tr_bn (f_X8_isThere p (iI (la x b)) (iI t) h1) fun tv34 => if tv34 = 0 then f_X8_ringsFrom_J98 p (iI (la x b)) (iI t) h1 (iI (b.length + 1 : Nat)) (iI mask) (iI x) else tr_bn (f_X8_closeRing p (iI (b.length + 1 : Nat)) h1) fun th37 => some (.inl (iI (b.length + 1 : Nat), th37))) else f_X8_ringsFrom_J98 p (iI (la x b)) (iI t) h1 (iI (b.length + 1 : Nat)) (iI mask) (iI x)) = X := by
      intro X
      unfold f_X8_ringsFrom_L17
      have e2 : ((b.length + 1 : Nat) : Int) - 1 = (b.length : Int) := by omega
      have e0 : (0 : Int32).toNatClampNeg = 0 := rfl
      have e3 : (tr_si h 12 b.length (iI t + 1)) = h1 := by rw [e1, iI_1, iI_add]; rfl
      have e4 : h1.1 p 0 = iI n := p1.2.2.1
      rw [e0, if_neg (by rw [iI_0, iI_le (by omega) (by omega) (by omega) (by omega)]; omega), iI_1, iI_sub, e2]
      simp (disch := omega) only [tr_bd, tr_gdI, iI_cl, Int.toNat_natCast, hnext, r1]
      rw [← iI_1, e3, e4, if_pos (by rw [iI_lt (by omega) (by omega) (by omega) (by omega)]; omega)]
    have hth := r_isThere p1 (i := la x b) (j := t) hla (by omega)
    have hed : eB n w (la x b) t = true ↔ w (6 * la x b + t) ≠ -9 := by
      have : la x b < n := hltn _ (la_mem x b)
      simp [eB]
      omega
    -- how the rest is split
    have hsplit : List.range' t (d + 1) = t :: List.range' (t + 1) d := List.range'_succ ..
    rw [hsplit, List.flatMap_cons, List.map_append, ← List.append_assoc]
    -- going on with the next departure, whatever this one gave
    have hgo : ∀ (h2 : tr_H) (A2 : List (Nat × List Nat)), mR h h2 → (∀ k, k ≤ b.length → h2.1 11 k = h.1 11 k) → (∀ k, k < b.length → h2.1 12 k = h.1 12 k) → h2.1 12 b.length = iI (t + 1 : Nat) → rF h2 w A2 → ∃ h', tr_lp (fun q => f_X8_ringsFrom_L17 p (iI x) (iI mask) q.1 q.2) (iI (b.length + 1 : Nat), h2) = tr_lp (fun q => f_X8_ringsFrom_L17 p (iI x) (iI mask) q.1 q.2) (iI b.length, h') ∧ mR h h' ∧ (∀ k, k ≤ b.length → h'.1 11 k = h.1 11 k) ∧ (∀ k, k < b.length → h'.1 12 k = h.1 12 k) ∧ rF h' w (A2 ++ ((List.range' (t + 1) d).flatMap (dbd (eB n w) n x (fun k => mask.testBit k) f b)).map (fun c => (x, c))) := by
      intro h2 A2 g1 g2 g3 g4 g5
      obtain ⟨h', k1, k2, k3, k4, k5⟩ := ihd (t + 1) (by omega) (by omega) h2 A2 (tP_R g1 hP) (fun k hk => by rw [g2 k hk]; exact hrow k hk) g4 g5
      exact ⟨h', k1, mR_tr g1 k2, fun k hk => (k3 k hk).trans (g2 k hk), fun k hk => (k4 k hk).trans (g3 k hk), k5⟩
    -- what follows where no ring is closed
    have hJ : (¬ (t = x ∧ eB n w (la x b) t = true)) → f_X8_ringsFrom_L17 p (iI x) (iI mask) (iI (b.length + 1 : Nat)) h = f_X8_ringsFrom_J98 p (iI (la x b)) (iI t) h1 (iI (b.length + 1 : Nat)) (iI mask) (iI x) → ∃ h', tr_lp (fun q => f_X8_ringsFrom_L17 p (iI x) (iI mask) q.1 q.2) (iI (b.length + 1 : Nat), h) = tr_lp (fun q => f_X8_ringsFrom_L17 p (iI x) (iI mask) q.1 q.2) (iI b.length, h') ∧ mR h h' ∧ (∀ k, k ≤ b.length → h'.1 11 k = h.1 11 k) ∧ (∀ k, k < b.length → h'.1 12 k = h.1 12 k) ∧ rF h' w (A ++ (dbd (eB n w) n x (fun k => mask.testBit k) f b t).map (fun c => (x, c)) ++ ((List.range' (t + 1) d).flatMap (dbd (eB n w) n x (fun k => mask.testBit k) f b)).map (fun c => (x, c))) := by
      intro hno hL
      unfold dbd
      rw [if_neg hno]
      have hb6 : b.length + 1 ≤ 6 := by omega
      have hin := r_isIn (h := h1) (x := x) (b := b) (t := t) hb6 hlt6 (by omega) (fun k hk => by rw [q1]; exact hrow k hk)
      have hhas := r_has hmask (k := t) (by omega)
      by_cases c1 : eB n w (la x b) t = true ∧ mask.testBit t = true ∧ t ∉ x :: b
      · rw [if_pos c1]
        have hw9 := hed.mp c1.1
        have hnd2 : (x :: (b ++ [t])).Nodup := by
          have : ((x :: b) ++ [t]).Nodup := nodup_snoc.mpr ⟨hnd, c1.2.2⟩
          simpa using this
        have hch2 : chn (eP (eB n w)) x (b ++ [t]) := by
          rw [chn_app]
          exact ⟨hch, c1.1, trivial⟩
        have hle := nodup_lt n _ hnd2 (chn_mem_lt hx hch2)
        simp only [List.length_cons, List.length_append, List.length_nil] at hle
        obtain ⟨f', rfl⟩ : ∃ f', f = f' + 1 := ⟨f - 1, by omega⟩
        obtain ⟨h2, e2⟩ : ∃ h2, h2 = tr_si (tr_si h1 11 (b.length + 1) (iI t)) 12 (b.length + 1) (iI x) := ⟨_, rfl⟩
        have hJ2 : f_X8_ringsFrom_J98 p (iI (la x b)) (iI t) h1 (iI (b.length + 1 : Nat)) (iI mask) (iI x) = some (.inl (iI (b.length + 2 : Nat), h2)) := by
          unfold f_X8_ringsFrom_J98
          rw [hth, if_neg hw9, tr_bn_some, if_neg (show ¬ (1 : Int32) = 0 by decide), hhas, if_pos c1.2.1, tr_bn_some, if_neg (show ¬ (1 : Int32) = 0 by decide), hin, if_neg c1.2.2, tr_bn_some, if_pos rfl]
          have e3 : (((b.length + 1 : Nat) : Int)).toNat = b.length + 1 := by omega
          simp (disch := omega) only [iI_0, iI_1, iI_2, iI_3, iI_4, iI_5, iI_6, iI_7, iI_8, iI_9, iI_10, iI_11, iI_12, iI_14, iI_20, iI_30, iI_31, iI_36, iI_37, iI_40, iI_48, iI_60, iI_63, iI_64, iI_78, iI_100, iI_255, iI_481, iI_1000000, iI_m1, iI_m2, iI_m3, iI_m4, iI_m9, iI_m1000000, iI_add, iI_sub, iI_mul, iI_neg, iI_lt, iI_le, iI_eq, iI_cl, tr_bd, tr_bn_some, tr_b2_some, tr_gdI, tr_nzI, if_pos, if_neg, ↓reduceIte, e3]
          rw [← e2]
          rfl
        rw [tr_lp_go (s' := (iI (b.length + 2 : Nat), h2)) (by show f_X8_ringsFrom_L17 p (iI x) (iI mask) (iI (b.length + 1 : Nat)) h = _; rw [hL, hJ2])]
        have m2 : mR h h2 := by rw [e2]; exact mR_tr (mR_tr m1 (mR_si _ _ _ (Or.inl rfl))) (mR_si _ _ _ (Or.inr rfl))
        have rows2 : ∀ k, k ≤ b.length → h2.1 11 k = h.1 11 k := fun k hk => by rw [e2, si_c _ _ _ (by decide), si_n _ _ _ (by omega), q1]
        have rowt : h2.1 11 (b.length + 1) = iI t := by rw [e2, si_c _ _ _ (by decide), si_s]
        have nx2 : ∀ k, k ≤ b.length → h2.1 12 k = h1.1 12 k := fun k hk => by rw [e2, si_n _ _ _ (by omega), si_c _ _ _ (by decide)]
        have nxt : h2.1 12 (b.length + 1) = iI x := by rw [e2, si_s]
        have f2 : rF h2 w A := by rw [e2]; exact rF_c (by rw [si_c _ _ _ (by decide), si_c _ _ _ (by decide)]) rfl f1
        have hl2 : (b ++ [t]).length = b.length + 1 := by simp
        obtain ⟨h3, k1, k2, k3, k4, k5⟩ := ihf f' (by omega) (b ++ [t]) hnd2 hch2 (by rw [hl2]; omega) (n - x) x (by omega) (Nat.le_refl _) h2 A (tP_R m2 hP) (fun k hk => by
          rw [hl2] at hk
          by_cases ek : k = b.length + 1
          · rw [ek, rowt, gl_last]
          · rw [rows2 k (by omega), gl_snoc (by omega)]; exact hrow k (by omega)) (by rw [hl2]; exact nxt) f2
        rw [hl2] at k1 k3 k4
        rw [show b.length + 2 = b.length + 1 + 1 from rfl, k1]
        rw [← dfs_bd] at k5
        exact hgo h3 _ (mR_tr m2 k2) (fun k hk => by rw [k3 k (by omega)]; exact rows2 k hk) (fun k hk => by rw [k4 k (by omega), nx2 k (by omega)]; exact q3 k hk) (by rw [k4 _ (by omega), nx2 _ (Nat.le_refl _)]; exact q2) k5
      · rw [if_neg c1, List.map_nil, List.append_nil]
        have hJ2 : f_X8_ringsFrom_J98 p (iI (la x b)) (iI t) h1 (iI (b.length + 1 : Nat)) (iI mask) (iI x) = some (.inl (iI (b.length + 1 : Nat), h1)) := by
          unfold f_X8_ringsFrom_J98
          rw [hth, hhas, hin]
          by_cases d1 : w (6 * la x b + t) = -9
          · rw [if_pos d1]; rfl
          · rw [if_neg d1, tr_bn_some, if_neg (show ¬ (1 : Int32) = 0 by decide)]
            by_cases d2 : mask.testBit t = true
            · rw [if_pos d2, tr_bn_some, if_neg (show ¬ (1 : Int32) = 0 by decide)]
              by_cases d3 : t ∈ x :: b
              · rw [if_pos d3]; rfl
              · exact absurd ⟨hed.mpr d1, d2, d3⟩ c1
            · rw [if_neg d2]; rfl
        rw [tr_lp_go (s' := (iI (b.length + 1 : Nat), h1)) (by show f_X8_ringsFrom_L17 p (iI x) (iI mask) (iI (b.length + 1 : Nat)) h = _; rw [hL, hJ2])]
        exact hgo h1 A m1 (fun k _ => by rw [q1]) q3 q2 f1
    by_cases ctx : t = x
    · by_cases ce : eB n w (la x b) t = true
      · -- a ring is closed
        have hring : ring (eP (eB n w)) x b := ⟨hnd, by rw [chn_app]; exact ⟨hch, by have h9 := ce; rw [ctx] at h9; exact h9, trivial⟩⟩
        obtain ⟨h2, c1, c2, c3⟩ := r_close p1 hring (fun k hk => by rw [q1]; exact hrow k hk) f1
        have hL : f_X8_ringsFrom_L17 p (iI x) (iI mask) (iI (b.length + 1 : Nat)) h = some (.inl (iI (b.length + 1 : Nat), h2)) := by
          rw [hstep, if_pos (by rw [ctx]), hth, if_neg (hed.mp ce), tr_bn_some, if_neg (show ¬ (1 : Int32) = 0 by decide), c1]
          rfl
        rw [tr_lp_go (s' := (iI (b.length + 1 : Nat), h2)) hL]
        have hd : dbd (eB n w) n x (fun k => mask.testBit k) f b t = [b] := by unfold dbd; rw [if_pos ⟨ctx, ce⟩]
        rw [hd]
        exact hgo h2 _ (mR_tr m1 (mC_R c2)) (fun k _ => by rw [c2.1 11 (by decide), q1]) (fun k hk => by rw [c2.1 12 (by decide)]; exact q3 k hk) (by rw [c2.1 12 (by decide)]; exact q2) c3
      · refine hJ (fun q => ce q.2) ?_
        rw [hstep, if_pos (by rw [ctx]), hth]
        have d1 : w (6 * la x b + t) = -9 := by
          apply Classical.byContradiction
          intro q
          exact ce (hed.mpr q)
        rw [if_pos d1, tr_bn_some, if_pos rfl]
    · refine hJ (fun q => ctx q.1) ?_
      rw [hstep, if_neg (by rw [iI_eq (by omega) (by omega) (by omega) (by omega)]; omega)]
theorem r_ringsFrom {p n mask : Nat} {w : Nat → Int} {x : Nat} (hmask : mask < 64) (hx : x < n) {h : tr_H} {A : List (Nat × List Nat)} (hP : tP h p n w) (hF : rF h w A) : ∃ h', f_X8_ringsFrom p (iI x) (iI mask) h = some h' ∧ mR h h' ∧ rF h' w (A ++ (dfs (eB n w) n x (fun k => mask.testBit k) n []).map (fun c => (x, c))) := by
  have hn := hP.2.1.2.1
  obtain ⟨h2, e2⟩ : ∃ h2, h2 = tr_si (tr_si h 11 0 (iI x)) 12 0 (iI x) := ⟨_, rfl⟩
  have m2 : mR h h2 := by rw [e2]; exact mR_tr (mR_si _ _ _ (Or.inl rfl)) (mR_si _ _ _ (Or.inr rfl))
  obtain ⟨n', rfl⟩ : ∃ n', n = n' + 1 := ⟨n - 1, by omega⟩
  obtain ⟨h', k1, k2, k3, k4, k5⟩ := r_sub hmask hx hn n' [] (by simp) trivial (by simp) (n' + 1 - x) x (by omega) (Nat.le_refl _) h2 A (tP_R m2 hP) (fun k hk => by
    have : k = 0 := by simpa using hk
    subst this
    rw [e2, si_c _ _ _ (by decide), si_s]
    rfl) (by rw [e2]; exact si_s _ _ _ _) (by rw [e2]; exact rF_c (by rw [si_c _ _ _ (by decide), si_c _ _ _ (by decide)]) rfl hF)
  refine ⟨h', ?_, mR_tr m2 k2, by rw [dfs_bd]; exact k5⟩
  unfold f_X8_ringsFrom
  have e0 : (0 : Int32).toNatClampNeg = 0 := rfl
  rw [e0]
  unfold tr_bd
  dsimp only
  rw [← e2]
  have e1 : ((1 : Int32), h2) = (iI (([] : List Nat).length + 1 : Nat), h2) := rfl
  rw [e1, k1, tr_lp_out (r := h')]
  · rfl
  · rfl
/-- all rings of some departures: the reference's look at a page -/
theorem r_findRings {p n mask : Nat} {w : Nat → Int} (hmask : mask < 64) {h : tr_H} (hP : tP h p n w) : ∃ h', f_X8_findRings p (iI mask) h = some h' ∧ mR h h' ∧ rF h' w (ringsL (eB n w) n (fun k => mask.testBit k)) := by
  have hn := hP.2.1.2.1
  obtain ⟨h6, e6⟩ : ∃ h6, h6 = tr_sl (tr_si (tr_sl (tr_si (tr_si (tr_si h 0 17 0) 0 18 0) 0 19 0) 0 20 0) 0 21 0) 0 22 0 := ⟨_, rfl⟩
  have m6 : mC h h6 := by
    rw [e6]
    refine mC_tr ?_ (mC_sl _ _ (by omega))
    refine mC_tr ?_ (mC_si _ _ (by omega))
    refine mC_tr ?_ (mC_sl _ _ (by omega))
    refine mC_tr ?_ (mC_si _ _ (by omega))
    refine mC_tr ?_ (mC_si _ _ (by omega))
    exact mC_si _ _ (by omega)
  have f6 : rF h6 w [] := by
    refine ⟨?_, 0, 0, 0, 0, 0, ?_, ?_, ?_, ?_, ?_, by omega, by simp, Or.inl ⟨rfl, rfl, rfl, rfl⟩⟩
    · rw [e6]; simp (disch := decide) only [si_s, si_n, si_c, si_2, sl_s, sl_n, sl_c, sl_1]; rfl
    · rw [e6]; simp (disch := decide) only [si_s, si_n, si_c, si_2, sl_s, sl_n, sl_c, sl_1]; rfl
    · rw [e6]; simp (disch := decide) only [si_s, si_n, si_c, si_2, sl_s, sl_n, sl_c, sl_1]; rfl
    · rw [e6]; simp (disch := decide) only [si_s, si_n, si_c, si_2, sl_s, sl_n, sl_c, sl_1]; rfl
    · rw [e6]; simp (disch := decide) only [si_s, si_n, si_c, si_2, sl_s, sl_n, sl_c, sl_1]; rfl
    · rw [e6]; simp (disch := decide) only [si_s, si_n, si_c, si_2, sl_s, sl_n, sl_c, sl_1]; rfl
  have key : ∀ (j d : Nat), d + j = n → ∀ (h1 : tr_H), mR h h1 → rF h1 w ((List.range d).flatMap (fun d => if mask.testBit d = true then (dfs (eB n w) n d (fun k => mask.testBit k) n []).map (fun b => (d, b)) else [])) → ∃ h', tr_lp (fun q => f_X8_findRings_L32 p (iI mask) q.1 q.2) (iI d, h1) = some h' ∧ mR h h' ∧ rF h' w (ringsL (eB n w) n (fun k => mask.testBit k)) := by
    intro j
    induction j with
    | zero =>
      intro d hd h1 m1 f1
      obtain rfl : d = n := by omega
      refine ⟨h1, tr_lp_out ?_, m1, f1⟩
      show f_X8_findRings_L32 p (iI mask) (iI d) h1 = _
      unfold f_X8_findRings_L32
      have e0 : (0 : Int32).toNatClampNeg = 0 := rfl
      rw [e0, (tP_R m1 hP).2.2.1, if_pos (Int32.le_refl _)]
    | succ j ih =>
      intro d hd h1 m1 f1
      have p1 := tP_R m1 hP
      have hhas := r_has hmask (k := d) (by omega)
      by_cases c : mask.testBit d = true
      · obtain ⟨h2, k1, k2, k3⟩ := r_ringsFrom hmask (x := d) (by omega) p1 f1
        have hL : f_X8_findRings_L32 p (iI mask) (iI d) h1 = some (.inl (iI (d + 1 : Nat), h2)) := by
          unfold f_X8_findRings_L32
          have e0 : (0 : Int32).toNatClampNeg = 0 := rfl
          rw [e0, p1.2.2.1, if_neg (by rw [iI_le (by omega) (by omega) (by omega) (by omega)]; omega), hhas, if_pos c, tr_bn_some, if_neg (show ¬ (1 : Int32) = 0 by decide), k1, tr_bn_some]
          unfold tr_bd
          rw [iI_1, iI_add]
          rfl
        rw [tr_lp_go (s' := (iI (d + 1 : Nat), h2)) hL]
        refine ih (d + 1) (by omega) h2 (mR_tr m1 k2) ?_
        rw [List.range_succ, List.flatMap_append, List.flatMap_singleton, if_pos c]
        exact k3
      · have hL : f_X8_findRings_L32 p (iI mask) (iI d) h1 = some (.inl (iI (d + 1 : Nat), h1)) := by
          unfold f_X8_findRings_L32
          have e0 : (0 : Int32).toNatClampNeg = 0 := rfl
          rw [e0, p1.2.2.1, if_neg (by rw [iI_le (by omega) (by omega) (by omega) (by omega)]; omega), hhas, if_neg c, tr_bn_some, if_pos rfl]
          unfold tr_bd
          rw [iI_1, iI_add]
          rfl
        rw [tr_lp_go (s' := (iI (d + 1 : Nat), h1)) hL]
        refine ih (d + 1) (by omega) h1 m1 ?_
        rw [List.range_succ, List.flatMap_append, List.flatMap_singleton, if_neg c, List.append_nil]
        exact f1
  obtain ⟨h', k1, k2, k3⟩ := key n 0 (by omega) h6 (mC_R m6) (by simpa using f6)
  refine ⟨h', ?_, k2, k3⟩
  unfold f_X8_findRings
  unfold tr_bd
  dsimp only
  rw [← e6]
  have e1 : ((0 : Int32), h6) = (iI (0 : Nat), h6) := rfl
  rw [e1, k1]
  rfl
