/-! the class fills its sets -/
def HR (h : tr_H) (c : Nat → Nat) (l ps : Nat → Int) (rg : Nat) : Prop := (∀ j, j < 384 → h.1 28 j = iI (c j) ∧ h.1 29 j = iI (l j)) ∧ (∀ S, S < 64 → h.1 30 S = iI (ps S)) ∧ h.1 27 3 = iI rg
theorem w_lowestOf {S x : Nat} (hS : S < 64) (hx : x < 6) (h1 : S.testBit x = true) (h2 : ∀ t, t < x → S.testBit t = false) : f_X4_lowestOf (iI S) = some (iI x) := by
  unfold f_X4_lowestOf
  have key := tr_seq (f := fun q => f_X4_lowestOf_L2 (iI S) q) (fun m => iI m) (lo := 0) (hi := x) (r := iI x) (by omega) ?_ ?_
  · rw [show (0 : Int32) = iI (0 : Nat) from rfl, key]
    rfl
  · intro m _ hm
    show f_X4_lowestOf_L2 (iI S) (iI m) = some (.inl (iI (m + 1 : Nat)))
    unfold f_X4_lowestOf_L2
    rw [if_neg (by rw [iI_5, iI_le (by omega) (by omega) (by omega) (by omega)]; omega), if_pos ((bitz S hS m (by omega)).mpr (h2 m hm))]
    unfold tr_bd
    rw [iI_1, iI_add]
    rfl
  · show f_X4_lowestOf_L2 (iI S) (iI x) = _
    unfold f_X4_lowestOf_L2
    by_cases c : x = 5
    · rw [if_pos (by rw [iI_5, iI_le (by omega) (by omega) (by omega) (by omega)]; omega)]
    · rw [if_neg (by rw [iI_5, iI_le (by omega) (by omega) (by omega) (by omega)]; omega), if_neg (fun q => by have := (bitz S hS x (by omega)).mp q; rw [h1] at this; cases this)]
theorem HR_up {h : tr_H} {c : Nat → Nat} {l ps : Nat → Int} {rg : Nat} (hH : HR h c l ps rg) {k : Nat} (v : Nat) (z : Int) : HR (tr_si (tr_si h 28 k (iI (v : Int))) 29 k (iI z)) (nup c k v) (wup l k z) ps rg := by
  obtain ⟨a, b, d⟩ := hH
  refine ⟨fun j hj => ?_, fun S hS => ?_, ?_⟩
  · unfold nup wup
    by_cases e : j = k
    · rw [if_pos e, if_pos e, e]
      exact ⟨by rw [si_c _ _ _ (by decide), si_s], by rw [si_s]⟩
    · rw [if_neg e, if_neg e]
      exact ⟨by rw [si_c _ _ _ (by decide), si_n _ _ _ e]; exact (a j hj).1, by rw [si_n _ _ _ e, si_c _ _ _ (by decide)]; exact (a j hj).2⟩
  · rw [si_c _ _ _ (by decide), si_c _ _ _ (by decide)]; exact b S hS
  · rw [si_c _ _ _ (by decide), si_c _ _ _ (by decide)]; exact d
theorem w_goL {h : tr_H} {i n : Nat} {w : Nat → Int} {S e x : Nat} (hN : tN h i n w) (hS : S < 64) (he : e < n) (hx : x < n) {c : Nat → Nat} {l ps : Nat → Int} {rg : Nat} (hH : HR h c l ps rg) (v : Nat) {z : Int} (hz : 0 ≤ z ∧ z ≤ 60) (hl : ∀ j, 0 ≤ l j ∧ l j ≤ 60) :
    ∃ h', tr_lp (fun q => f_X4_goOn_L100 i (iI e) (iI S) (iI v) (iI z) q.1 q.2) (iI (x + 1 : Nat), h) = some h' ∧ fr [27, 28, 29, 30] h h' ∧ HR h' (gC n w S e x n c v) (gL n w S e x n l z) ps rg := by
  have hw := hN.2.1
  have h6 := hw.2.1
  have hi := hN.1
  have hni : i ∉ [27, 28, 29, 30] ∧ i + 1 ∉ [27, 28, 29, 30] := by unfold netI at hi; simp; omega
  obtain ⟨r, k1, k2, k3⟩ := tr_inv (f := fun q => f_X4_goOn_L100 i (iI e) (iI S) (iI v) (iI z) q.1 q.2) (fun m s => ∃ h1, s = (iI m, h1) ∧ x < m ∧ fr [27, 28, 29, 30] h h1 ∧ HR h1 (gC n w S e x m c v) (gL n w S e x m l z) ps rg) (fun h' => fr [27, 28, 29, 30] h h' ∧ HR h' (gC n w S e x n c v) (gL n w S e x n l z) ps rg) (hi := n) (by
    rintro m s hm ⟨h1, rfl, hxm, f1, H1⟩
    have hN1 := tN_fr f1 hni.1 hni.2 hN
    have ho := n_of hN1 (a := (e : Int)) (b := (m : Int)) (by omega) (by omega) (by omega) (by omega)
    rw [woI_in he hm] at ho
    have b3 := okn_b hw (c := 6 * e + m) (by omega)
    have hex : eB n w e m = true ↔ w (6 * e + m) ≠ -9 := by
      unfold eB
      rw [decide_eq_true_iff]
      exact ⟨fun q => q.2.2, fun q => ⟨he, hm, q⟩⟩
    have hlb : 0 ≤ gL n w S e x m l z (cel S m) ∧ gL n w S e x m l z (cel S m) ≤ 100 := by
      unfold gL
      rw [if_neg (hit_no (by omega))]
      have := hl (cel S m)
      omega
    show ∃ s', f_X4_goOn_L100 i (iI e) (iI S) (iI v) (iI z) (iI m) h1 = some (.inl s') ∧ _
    unfold f_X4_goOn_L100
    rw [hN1.2.2.1, if_neg (by rw [iI_le (by omega) (by omega) (by omega) (by omega)]; omega), ho, tr_bn_some]
    by_cases c1 : w (6 * e + m) = -9
    · have hno : ¬ okt n w S e x m := fun q => hex.mp q.2.1 c1
      refine ⟨(iI (m + 1 : Nat), h1), ?_, h1, rfl, by omega, f1, by rw [gC_n (by omega) c v hno, gL_n (by omega) l z hno]; exact H1⟩
      rw [c1, if_pos (show iI (-9) = -9 from rfl)]
      unfold tr_bd
      rw [iI_1, iI_add]
      rfl
    · rw [if_neg (by rw [iI_m9, iI_eq (by omega) (by omega) (by omega) (by omega)]; exact c1)]
      by_cases c2 : S.testBit m = false
      · have hok : okt n w S e x m := ⟨hxm, hex.mpr c1, c2⟩
        have hcel : cel S m < 384 := by have := or_64 hS (show m < 6 by omega); unfold cel; omega
        have q1 := (H1.1 _ hcel).1
        have q2 := (H1.1 _ hcel).2
        have hsm := H1
        have ecel : iI ((S ||| 2 ^ m : Nat)) * 6 + iI m = iI (cel S m : Nat) := by
          rw [iI_6, iI_mul, iI_add]
          congr 1
          unfold cel
          omega
        refine ⟨(iI (m + 1 : Nat), tr_si (tr_si h1 28 (cel S m) (iI ((gC n w S e x m c v (cel S m) + v : Nat) : Int))) 29 (cel S m) (iI (max (gL n w S e x m l z (cel S m)) (z + w (6 * e + m))))), ?_, _, rfl, by omega, ?_, ?_⟩
        · rw [if_pos ((bitz S hS m (by omega)).mpr c2), orb (by omega), ecel]
          simp (disch := omega) only [tr_bd, tr_gdI, iI_ix, si_c, q1, q2, iI_add, tr_maxI, iI_1]
          rfl
        · exact fr_tr f1 (fr_tr (fr_si _ _ _ (by simp)) (fr_si _ _ _ (by simp)))
        · rw [gC_y (by omega) c v hok, gL_y (by omega) l z hok]
          exact HR_up H1 _ _
      · have hno : ¬ okt n w S e x m := fun q => c2 q.2.2
        refine ⟨(iI (m + 1 : Nat), h1), ?_, h1, rfl, by omega, f1, by rw [gC_n (by omega) c v hno, gL_n (by omega) l z hno]; exact H1⟩
        rw [if_neg (fun q => c2 ((bitz S hS m (by omega)).mp q))]
        unfold tr_bd
        rw [iI_1, iI_add]
        rfl) (by
    rintro s ⟨h1, rfl, hxm, f1, H1⟩
    refine ⟨h1, ?_, f1, H1⟩
    have hN1 := tN_fr f1 hni.1 hni.2 hN
    show f_X4_goOn_L100 i (iI e) (iI S) (iI v) (iI z) (iI n) h1 = _
    unfold f_X4_goOn_L100
    rw [hN1.2.2.1, if_pos (Int32.le_refl _)]) (x + 1) (iI (x + 1 : Nat), h) (by omega) ⟨h, rfl, by omega, fr_rf _ _, by rw [gC_0 c v (by omega), gL_0 l z (by omega)]; exact hH⟩
  exact ⟨r, k1, k2, k3⟩
theorem w_goOn {h : tr_H} {i n : Nat} {w : Nat → Int} {S e : Nat} (hN : tN h i n w) (hS : S < 64) (he : e < n) {tot : Nat} {c : Nat → Nat} {l ps : Nat → Int} {rg : Nat} (hI : fInv n w tot (6 * S + e) c l ps rg) (hpb : ∀ S, ps S ≤ 100000) (hH : HR h c l ps rg) :
    ∃ h' c' l' ps' rg', f_X4_goOn i (iI S) (iI e) h = some h' ∧ fr [27, 28, 29, 30] h h' ∧ HR h' c' l' ps' rg' ∧ fInv n w tot (6 * S + e + 1) c' l' ps' rg' := by
  have hw := hN.2.1
  have h6 := hw.2.1
  have hi := hN.1
  have hni : i ∉ [27, 28, 29, 30] ∧ i + 1 ∉ [27, 28, 29, 30] := by unfold netI at hi; simp; omega
  have hcb := fInv_cb hS (by omega) hI
  have q1 := (hH.1 (6 * S + e) (by omega)).1
  have q2 := (hH.1 (6 * S + e) (by omega)).2
  have ek : iI S * 6 + iI e = iI (6 * S + e : Nat) := by
    rw [iI_6, iI_mul, iI_add]
    congr 1
    omega
  unfold f_X4_goOn
  rw [ek]
  simp (disch := omega) only [tr_bd, tr_gdI, iI_ix, q1, q2]
  by_cases c0 : c (6 * S + e) = 0
  · refine ⟨h, c, l, ps, rg, ?_, fr_rf _ _, hH, fInv_skip h6 hS (by omega) hI c0⟩
    rw [c0]
    rfl
  · obtain ⟨x, b, hp, hlx⟩ := fInv_path h6 hS (by omega) hI c0
    have hlow := pth_low h6 hp
    have hpl := pth_lt h6 hp
    have hgo := fInv_go hw hS he hI c0 hlow.1
    have hlb := fun j => (hI.2.2.1 j).1
    have ho := n_of hN (a := (e : Int)) (b := (x : Int)) (by omega) (by omega) (by omega) (by omega)
    rw [woI_in he hpl.2.2.1] at ho
    have b3 := okn_b hw (c := 6 * e + x) (by omega)
    have hex : eB n w e x = true ↔ w (6 * e + x) ≠ -9 := by
      unfold eB
      rw [decide_eq_true_iff]
      exact ⟨fun q => q.2.2, fun q => ⟨he, hpl.2.2.1, q⟩⟩
    rw [if_neg (by rw [iI_0, iI_eq (by omega) (by omega) (by omega) (by omega)]; omega), w_lowestOf hS (by omega) hpl.2.2.2.2.2.1 hlow.2, tr_bn_some, ho, tr_bn_some]
    by_cases c1 : w (6 * e + x) = -9
    · have hne : ¬ eB n w e x = true := fun q => hex.mp q c1
      rw [if_neg hne, if_neg hne] at hgo
      obtain ⟨h', k1, k2, k3⟩ := w_goL hN hS he hpl.2.2.1 hH (c (6 * S + e)) (hlb _) hlb
      refine ⟨h', _, _, _, _, ?_, k2, k3, hgo⟩
      rw [c1, if_pos (show iI (-9) = -9 from rfl)]
      unfold f_X4_goOn_J94 tr_bd
      dsimp only
      rw [iI_1, iI_add, show ((x : Int) + 1) = ((x + 1 : Nat) : Int) from rfl, k1]
      rfl
    · have hye := hex.mpr c1
      rw [if_pos hye, if_pos hye] at hgo
      have hpc := pcn_1 S hS hpl.2.2.2.2.2.2
      have hpc6 := pcn_6 S
      have hsx := sx_mul hpc hpc6
      have hl0 := hlb (6 * S + e)
      have hmul : 0 ≤ (l (6 * S + e) + w (6 * e + x)) * sx (pcn S 6) ∧ (l (6 * S + e) + w (6 * e + x)) * sx (pcn S 6) ≤ 69 * 60 := by
        have hw0 : 0 ≤ w (6 * e + x) := by have := (hw.2.2 (6 * e + x) (by omega)).1; omega
        exact ⟨Int.mul_nonneg (by omega) (by omega), Int.mul_le_mul (by omega) (by omega) (by omega) (by omega)⟩
      obtain ⟨h1, eh1⟩ : ∃ h1, h1 = tr_si (tr_si h 27 3 (iI (rg + c (6 * S + e) : Nat))) 30 S (iI (max (ps S) ((l (6 * S + e) + w (6 * e + x)) * sx (pcn S 6)))) := ⟨_, rfl⟩
      have f1 : fr [27, 28, 29, 30] h h1 := by rw [eh1]; exact fr_tr (fr_si _ _ _ (by simp)) (fr_si _ _ _ (by simp))
      have H1 : HR h1 c l (wup ps S (max (ps S) ((l (6 * S + e) + w (6 * e + x)) * sx (pcn S 6)))) (rg + c (6 * S + e)) := by
        obtain ⟨a, b, d⟩ := hH
        rw [eh1]
        refine ⟨fun j hj => ?_, fun T hT => ?_, ?_⟩
        · rw [si_c _ _ _ (by decide), si_c _ _ _ (by decide), si_c _ _ _ (by decide), si_c _ _ _ (by decide)]
          exact a j hj
        · unfold wup
          by_cases z : T = S
          · rw [if_pos z, z, si_s]
          · rw [if_neg z, si_n _ _ _ z, si_c _ _ _ (by decide)]
            exact b T hT
        · rw [si_c _ _ _ (by decide), si_s]
      obtain ⟨h', k1, k2, k3⟩ := w_goL (tN_fr f1 hni.1 hni.2 hN) hS he hpl.2.2.1 H1 (c (6 * S + e)) (hlb _) hlb
      refine ⟨h', _, _, _, _, ?_, fr_tr f1 k2, k3, hgo⟩
      have q3 := hH.2.1 S hS
      have q4 := hH.2.2
      have hps0 := (hI.2.2.2.2.1 S).1
      have hps1 := hpb S
      have hf0 := sx_f0 hpc hpc6
      have e1 : tr_si (tr_si h 27 3 (h.1 27 3 + iI (c (6 * S + e)))) 30 S (tr_max ((tr_si h 27 3 (h.1 27 3 + iI (c (6 * S + e)))).1 30 S) ((iI (l (6 * S + e)) + iI (w (6 * e + x))) * tr_f0 (pcn S 6))) = h1 := by
        rw [eh1, si_c _ _ _ (by decide), q3, q4, hf0, iI_add, iI_add, iI_mul, tr_maxI (by omega) (by omega) (by omega) (by omega)]
        rfl
      rw [if_neg (by rw [iI_m9, iI_eq (by omega) (by omega) (by omega) (by omega)]; exact c1), bcn S hS, tr_bn_some, tr_gdI (by omega) (by omega) (by omega), iI_ix (by omega), e1]
      unfold f_X4_goOn_J94 tr_bd
      dsimp only
      rw [iI_1, iI_add, show ((x : Int) + 1) = ((x + 1 : Nat) : Int) from rfl, k1]
      rfl
theorem pth_mean {n : Nat} {w : Nat → Int} (hw : okn n w) {T x e : Nat} {b : List Nat} (hp : pth n w T x b e) (he : eB n w e x = true) : ring (eP (eB n w)) x b ∧ wsm (wN w) x (b ++ [x]) = wsm (wN w) x b + wN w e x ∧ 0 ≤ (wsm (wN w) x b + wN w e x) * sx (b.length + 1) ∧ (wsm (wN w) x b + wN w e x) * sx (b.length + 1) ≤ 540 := by
  have h6 := hw.2.1
  have hr : ring (eP (eB n w)) x b := by
    refine ⟨hp.1, ?_⟩
    rw [chn_app, hp.2.2.2.1]
    exact ⟨hp.2.1, he, trivial⟩
  have hs : wsm (wN w) x (b ++ [x]) = wsm (wN w) x b + wN w e x := by
    rw [wsm_app, hp.2.2.2.1]
    simp [wsm]
  have h9 := wsm_9 hw _ _ hr.2
  have hl := ring_len hr
  rw [hs] at h9
  simp only [List.length_append, List.length_cons, List.length_nil] at h9
  have hsx := sx_mul (m := b.length + 1) (by omega) (by omega)
  refine ⟨hr, hs, Int.mul_nonneg h9.1 (by omega), ?_⟩
  rw [sx_le (by omega) (by omega)]
  omega
theorem fInv_pb {n : Nat} {w : Nat → Int} (hw : okn n w) {tot k : Nat} {c : Nat → Nat} {l ps : Nat → Int} {rg : Nat} (hI : fInv n w tot k c l ps rg) : ∀ S, ps S ≤ 100000 := by
  intro S
  rcases (hI.2.2.2.2.1 S).2 with q | ⟨x, b, e, q1, q2, q3⟩
  · omega
  · have := (pth_mean hw q1 q2).2.2.2
    omega
theorem fInv_row {n : Nat} {w : Nat → Int} (h6 : n ≤ 6) {tot S : Nat} (hS : S < 64) {c : Nat → Nat} {l ps : Nat → Int} {rg : Nat} (hI : fInv n w tot (6 * S + n) c l ps rg) : fInv n w tot (6 * (S + 1)) c l ps rg := by
  have : ∀ d, n + d ≤ 6 → fInv n w tot (6 * S + (n + d)) c l ps rg := by
    intro d
    induction d with
    | zero => intro _; exact hI
    | succ d ih =>
      intro hd
      exact fInv_out (e := n + d) h6 hS (by omega) (by omega) (ih (by omega))
  have h1 := this (6 - n) (by omega)
  rw [show n + (6 - n) = 6 by omega] at h1
  exact h1
/-! within a set -/
def sub (T S : Nat) : Prop := ∀ t, T.testBit t = true → S.testBit t = true
def atR (n : Nat) (w : Nat → Int) (S : Nat) (v : Int) : Prop := 0 ≤ v ∧ (v = 0 ∨ ∃ T x b e, pth n w T x b e ∧ eB n w e x = true ∧ sub T S ∧ v = (wsm (wN w) x b + wN w e x) * sx (b.length + 1))
def upR (n : Nat) (w : Nat → Int) (S : Nat) (v : Int) : Prop := ∀ T x b e, pth n w T x b e → eB n w e x = true → sub T S → (wsm (wN w) x b + wN w e x) * sx (b.length + 1) ≤ v
def exR (n : Nat) (w : Nat → Int) (S : Nat) (v : Int) : Prop := ∀ x b e, pth n w S x b e → eB n w e x = true → (wsm (wN w) x b + wN w e x) * sx (b.length + 1) ≤ v
theorem atR_b {n : Nat} {w : Nat → Int} (hw : okn n w) {S : Nat} {v : Int} (h : atR n w S v) : 0 ≤ v ∧ v ≤ 540 := by
  refine ⟨h.1, ?_⟩
  rcases h.2 with q | ⟨T, x, b, e, q1, q2, -, q3⟩
  · omega
  · have := (pth_mean hw q1 q2).2.2.2
    omega
theorem atR_pace {n : Nat} {w : Nat → Int} (hw : okn n w) {S : Nat} {v : Int} (h1 : atR n w S v) (h2 : upR n w S v) : ∃ P, isPace n w (fun k => S.testBit k) P ∧ v = max 0 P := by
  have h6 := hw.2.1
  have hring : ∀ T x b e, pth n w T x b e → sub T S → ∀ y ∈ x :: b, S.testBit y = true := fun T x b e hp hs y hy => hs y ((hp.2.2.2.2 y).mpr hy)
  by_cases hx : ∃ x b, ring (eP (eB n w)) x b ∧ ∀ y ∈ x :: b, S.testBit y = true
  · obtain ⟨P, p1, p2, p3, x, b, p4, p5⟩ := ex_pace hw (fun k => S.testBit k) hx
    have hr := mem_ringsL.mp p4
    refine ⟨P, Or.inr ⟨p1, p2, p3, x, b, hr.1, fun y hy => (hr.2 y hy).2.2, p5⟩, ?_⟩
    obtain ⟨c1, c2, -⟩ := (chn_app x b [x]).mp hr.1.2
    have hp : pth n w (msk (x :: b)) x b (la x b) := ⟨hr.1.1, c1, fun y hy => ⟨(hr.2 y hy).1, (hr.2 y hy).2.1⟩, rfl, fun t => msk_t _ _⟩
    have hs : sub (msk (x :: b)) S := fun t ht => (hr.2 t ((msk_t _ _).mp ht)).2.2
    have k1 := h2 _ x b _ hp c2 hs
    have hm := pth_mean hw hp c2
    have hl := ring_len hr.1
    rw [hm.2.1] at p5
    have k2 : P ≤ (wsm (wN w) x b + wN w (la x b) x) * sx (b.length + 1) := by
      rw [sx_ge (by omega) (by omega)]
      omega
    rcases h1.2 with q | ⟨T, x1, b1, e1, q1, q2, q3, q4⟩
    · omega
    · have hm1 := pth_mean hw q1 q2
      have hl1 := ring_len hm1.1
      have k3 := p3 x1 b1 hm1.1 (hring T x1 b1 e1 q1 q3)
      rw [hm1.2.1] at k3
      have k4 : (wsm (wN w) x1 b1 + wN w e1 x1) * sx (b1.length + 1) ≤ P := by
        rw [sx_le (by omega) (by omega)]
        omega
      omega
  · refine ⟨-1, Or.inl ⟨rfl, fun x b hr hs => hx ⟨x, b, hr, hs⟩⟩, ?_⟩
    rcases h1.2 with q | ⟨T, x1, b1, e1, q1, q2, q3, q4⟩
    · omega
    · exact absurd ⟨x1, b1, (pth_mean hw q1 q2).1, hring T x1 b1 e1 q1 q3⟩ hx
theorem sub_64 {n : Nat} (h6 : n ≤ 6) {S : Nat} (h : S < 2 ^ n) : S < 64 := Nat.lt_of_lt_of_le h (Nat.pow_le_pow_right (n := 2) (by decide) h6)
theorem w_takeWithin {h : tr_H} {n : Nat} {w : Nat → Int} (hw : okn n w) {q : Nat → Int} (hq : ∀ S, S < 64 → h.1 30 S = iI (q S)) (ha : ∀ S, atR n w S (q S)) (hx : ∀ S, exR n w S (q S)) : ∃ h', f_X4_takeWithin (iI n) h = some h' ∧ fr [30] h h' ∧ ∀ S, S < 2 ^ n → ∃ P, isPace n w (fun k => S.testBit k) P ∧ h'.1 30 S = iI (max 0 P) := by
  have h6 := hw.2.1
  have h64 : 2 ^ n ≤ 2 ^ 6 := Nat.pow_le_pow_right (by decide) h6
  have hp1 : 1 ≤ 2 ^ n := Nat.one_le_two_pow
  obtain ⟨r, k1, q1, k2, k3, k4, k5⟩ := tr_inv (f := fun z => f_X4_takeWithin_L2 (iI n) z.1 z.2) (fun S s => ∃ (h1 : tr_H) (q : Nat → Int), s = (iI S, h1) ∧ fr [30] h h1 ∧ (∀ S, S < 64 → h1.1 30 S = iI (q S)) ∧ (∀ S, atR n w S (q S)) ∧ (∀ T, T < S → upR n w T (q T)) ∧ (∀ T, S ≤ T → exR n w T (q T))) (fun h1 => ∃ (q : Nat → Int), fr [30] h h1 ∧ (∀ S, S < 64 → h1.1 30 S = iI (q S)) ∧ (∀ S, atR n w S (q S)) ∧ (∀ T, T < 2 ^ n → upR n w T (q T))) (hi := 2 ^ n) (by
    rintro S s hS ⟨h1, q, rfl, f1, t1, t2, t3, t4⟩
    have hS64 := sub_64 h6 hS
    obtain ⟨r2, k1, q2, f2, u1, u2, u3, u4, u5⟩ := tr_inv (f := fun z => f_X4_takeWithin_L11 (iI n) (iI S) z.1 z.2) (fun m s => ∃ (h1 : tr_H) (q : Nat → Int), s = (iI m, h1) ∧ fr [30] h h1 ∧ (∀ S, S < 64 → h1.1 30 S = iI (q S)) ∧ (∀ S, atR n w S (q S)) ∧ (∀ T, T < S → upR n w T (q T)) ∧ (∀ T, S ≤ T → exR n w T (q T)) ∧ (∀ u, u < m → S.testBit u = true → q (S ^^^ 2 ^ u) ≤ q S)) (fun h1 => ∃ (q : Nat → Int), fr [30] h h1 ∧ (∀ S, S < 64 → h1.1 30 S = iI (q S)) ∧ (∀ S, atR n w S (q S)) ∧ (∀ T, T < S → upR n w T (q T)) ∧ (∀ T, S ≤ T → exR n w T (q T)) ∧ (∀ u, u < n → S.testBit u = true → q (S ^^^ 2 ^ u) ≤ q S)) (hi := n) (by
      rintro m s hm ⟨h1, q, rfl, f1, t1, t2, t3, t4, t5⟩
      obtain ⟨S1, eS1⟩ : ∃ S1, S1 = if S.testBit m then S ^^^ 2 ^ m else S := ⟨_, rfl⟩
      have hS1 : S1 < 64 := by
        rw [eS1]
        split
        · rename_i c
          have := clr_lt S hS64 m (by omega) c
          omega
        · exact hS64
      have hsub : sub S1 S := by
        rw [eS1]
        intro t ht
        by_cases c : S.testBit m = true
        · rw [if_pos c] at ht
          exact ((xor_t c).mp ht).1
        · rw [if_neg c] at ht
          exact ht
      have a1 := atR_b hw (t2 S)
      have a2 := atR_b hw (t2 S1)
      refine ⟨(iI (m + 1 : Nat), tr_si h1 30 S (iI (max (q S) (q S1)))), ?_, _, wup q S (max (q S) (q S1)), rfl, fr_tr f1 (fr_si _ _ _ (by simp)), ?_, ?_, ?_, ?_, ?_⟩
      · show f_X4_takeWithin_L11 (iI n) (iI S) (iI m) h1 = _
        unfold f_X4_takeWithin_L11
        rw [if_neg (by rw [iI_le (by omega) (by omega) (by omega) (by omega)]; omega), clrb S hS64 m (by omega), ← eS1]
        have z1 := t1 S hS64
        have z2 := t1 S1 hS1
        simp (disch := omega) only [tr_bd, tr_gdI, iI_ix, z1, z2, iI_add, tr_maxI, iI_1]
        rfl
      · intro T hT
        unfold wup
        by_cases z : T = S
        · rw [if_pos z, z, si_s]
        · rw [if_neg z, si_n _ _ _ z]
          exact t1 T hT
      · intro T
        unfold wup
        by_cases z : T = S
        · rw [if_pos z, z]
          by_cases y : q S1 ≤ q S
          · rw [show max (q S) (q S1) = q S by omega]
            exact t2 S
          · rw [show max (q S) (q S1) = q S1 by omega]
            obtain ⟨g1, g2⟩ := t2 S1
            refine ⟨g1, ?_⟩
            rcases g2 with g2 | ⟨T', x, b, e, g2, g3, g4, g5⟩
            · exact Or.inl g2
            · exact Or.inr ⟨T', x, b, e, g2, g3, fun t ht => hsub t (g4 t ht), g5⟩
        · rw [if_neg z]
          exact t2 T
      · intro T hT
        unfold wup
        rw [if_neg (by omega)]
        exact t3 T hT
      · intro T hT x b e g1 g2
        have := t4 T hT x b e g1 g2
        unfold wup
        by_cases z : T = S
        · rw [if_pos z]; rw [z] at this; omega
        · rw [if_neg z]; exact this
      · intro u hu hb
        have hlt := clr_lt S hS64 u (by omega) hb
        unfold wup
        rw [if_neg (by omega), if_pos rfl]
        by_cases z : u = m
        · subst z
          rw [if_pos hb] at eS1
          rw [← eS1]
          omega
        · have := t5 u (by omega) hb
          omega) (by
      rintro s ⟨h1, q, rfl, f1, t1, t2, t3, t4, t5⟩
      refine ⟨h1, ?_, q, f1, t1, t2, t3, t4, t5⟩
      show f_X4_takeWithin_L11 (iI n) (iI S) (iI n) h1 = _
      unfold f_X4_takeWithin_L11
      rw [if_pos (Int32.le_refl _)]) 0 (iI (0 : Nat), h1) (by omega) ⟨h1, q, rfl, f1, t1, t2, t3, t4, fun u hu => by omega⟩
    refine ⟨(iI (S + 1 : Nat), r2), ?_, r2, q2, rfl, f2, u1, u2, ?_, fun T hT => u4 T (by omega)⟩
    · show f_X4_takeWithin_L2 (iI n) (iI S) h1 = _
      unfold f_X4_takeWithin_L2
      rw [shl7 n (by omega), if_neg (by rw [iI_le (by omega) (by omega) (by omega) (by omega)]; omega), show ((0 : Int32), h1) = (iI (0 : Nat), h1) from rfl, k1, tr_bn_some]
      unfold f_X4_takeWithin_E49 tr_bd
      rw [iI_1, iI_add]
      rfl
    · intro T hT
      by_cases z : T = S
      · subst z
        intro U x b e g1 g2 g3
        by_cases y : U = T
        · subst y
          exact u4 U (Nat.le_refl _) x b e g1 g2
        · -- a departure that U has not
          have hex : ∃ u, T.testBit u = true ∧ U.testBit u = false := by
            apply Classical.byContradiction
            intro hno
            apply y
            apply Nat.eq_of_testBit_eq
            intro i
            cases c1 : U.testBit i
            · cases c2 : T.testBit i
              · rfl
              · exact absurd ⟨i, c2, c1⟩ hno
            · rw [g3 i c1]
          obtain ⟨u, v1, v2⟩ := hex
          have hun : u < n := by
            apply Classical.byContradiction
            intro hno
            have : T.testBit u = false := Nat.testBit_lt_two_pow (Nat.lt_of_lt_of_le hS (Nat.pow_le_pow_right (by decide) (by omega)))
            rw [v1] at this
            cases this
          have hlt := clr_lt T hS64 u (by omega) v1
          have k8 := u3 _ hlt U x b e g1 g2 (fun t ht => (xor_t v1).mpr ⟨g3 t ht, fun q => by rw [q, v2] at ht; cases ht⟩)
          have k9 := u5 u hun v1
          omega
      · exact u3 T (by omega)) (by
    rintro s ⟨h1, q, rfl, f1, t1, t2, t3, t4⟩
    refine ⟨h1, ?_, q, f1, t1, t2, t3⟩
    show f_X4_takeWithin_L2 (iI n) (iI (2 ^ n : Nat)) h1 = _
    unfold f_X4_takeWithin_L2
    rw [shl7 n (by omega), if_pos (Int32.le_refl _)]) 1 (iI (1 : Nat), h) hp1 ⟨h, q, rfl, fr_rf _ _, hq, ha, fun T hT => by
      obtain rfl : T = 0 := by omega
      intro U x b e g1 _ g3
      exfalso
      have := g3 x (pth_lt h6 g1).2.2.2.2.2.1
      simp at this, fun T _ => hx T⟩
  refine ⟨r, ?_, k2, fun S hS => ?_⟩
  · unfold f_X4_takeWithin
    rw [show ((1 : Int32), h) = (iI (1 : Nat), h) from rfl, k1]
    rfl
  · obtain ⟨P, g1, g2⟩ := atR_pace hw (k4 S) (k5 S hS)
    exact ⟨P, g1, by rw [k3 S (sub_64 h6 hS), g2]⟩
theorem cI_w {m : Nat} (hm : m < 6) : cI (m + 1) = nup (cI m) (cel 0 m) 1 := by
  rw [cI_s hm]
  have hc := cel_6 (S := 0) hm
  have : cI m (cel 0 m) = 0 := by
    unfold cI
    rw [if_neg (fun q => by rw [hc.1] at q; omega)]
  rw [this]
/-- all rings, counted, and the pace of each set -/
theorem w_fill {h : tr_H} {i n : Nat} {w : Nat → Int} (hN : tN h i n w) : ∃ h', f_X4_fill i h = some h' ∧ fr [27, 28, 29, 30] h h' ∧ h'.1 27 3 = iI (ringsL (eB n w) n (fun k => (63 : Nat).testBit k)).length ∧ ∀ S, S < 2 ^ n → ∃ P, isPace n w (fun k => S.testBit k) P ∧ h'.1 30 S = iI (max 0 P) := by
  have hw := hN.2.1
  have h6 := hw.2.1
  have hi := hN.1
  have hni : i ∉ [27, 28, 29, 30] ∧ i + 1 ∉ [27, 28, 29, 30] := by unfold netI at hi; simp; omega
  have h64 : 2 ^ n ≤ 2 ^ 6 := Nat.pow_le_pow_right (by decide) h6
  have hp1 : 1 ≤ 2 ^ n := Nat.one_le_two_pow
  obtain ⟨ha, eha⟩ : ∃ ha, ha = tr_si (tr_sa (tr_sa (tr_sa h 28 (fun j => if j < 384 then 0 else h.1 28 j)) 29 (fun j => if j < 384 then 0 else h.1 29 j)) 30 (fun j => if j < 64 then 0 else h.1 30 j)) 27 3 0 := ⟨_, rfl⟩
  have fa : fr [27, 28, 29, 30] h ha := by
    rw [eha]
    exact fr_tr (fr_tr (fr_tr (fr_sa _ _ (by simp)) (fr_sa _ _ (by simp))) (fr_sa _ _ (by simp))) (fr_si _ _ _ (by simp))
  have Ha : HR ha (cI 0) (fun _ => 0) (fun _ => 0) 0 := by
    rw [eha]
    refine ⟨fun j hj => ⟨?_, ?_⟩, fun S hS => ?_, ?_⟩
    · rw [si_c _ _ _ (by decide), tr_sa_ne _ _ (by decide), tr_sa_ne _ _ (by decide), tr_sa_at, if_pos hj]
      unfold cI
      rw [if_neg (fun q => by omega)]
      rfl
    · rw [si_c _ _ _ (by decide), tr_sa_ne _ _ (by decide), tr_sa_at, if_pos hj]
      rfl
    · rw [si_c _ _ _ (by decide), tr_sa_at, if_pos hS]
      rfl
    · rw [si_s]
      rfl
  obtain ⟨hb, kb, fb, Hb⟩ := tr_inv (f := fun z => f_X4_fill_L31 i z.1 z.2) (fun m s => ∃ h1, s = (iI m, h1) ∧ fr [27, 28, 29, 30] h h1 ∧ HR h1 (cI m) (fun _ => 0) (fun _ => 0) 0) (fun h1 => fr [27, 28, 29, 30] h h1 ∧ HR h1 (cI n) (fun _ => 0) (fun _ => 0) 0) (hi := n) (by
    rintro m s hm ⟨h1, rfl, f1, H1⟩
    have hc6 := or_64 (show 0 < 64 by decide) (show m < 6 by omega)
    have hcel : cel 0 m < 384 := by unfold cel; omega
    have ecel : iI ((2 ^ m : Nat)) * 6 + iI m = iI (cel 0 m : Nat) := by
      rw [iI_6, iI_mul, iI_add]
      congr 1
      unfold cel
      rw [Nat.zero_or]
      omega
    refine ⟨(iI (m + 1 : Nat), tr_si h1 28 (cel 0 m) 1), ?_, _, rfl, fr_tr f1 (fr_si _ _ _ (by simp)), ?_⟩
    · show f_X4_fill_L31 i (iI m) h1 = _
      unfold f_X4_fill_L31
      rw [(tN_fr f1 hni.1 hni.2 hN).2.2.1, if_neg (by rw [iI_le (by omega) (by omega) (by omega) (by omega)]; omega), shl7 m (by omega), ecel]
      simp (disch := omega) only [tr_bd, tr_gdI, iI_ix]
      rw [iI_1, iI_add]
      rfl
    · obtain ⟨a, b, d⟩ := H1
      rw [cI_w (by omega)]
      refine ⟨fun j hj => ?_, fun S hS => ?_, ?_⟩
      · unfold nup
        by_cases z : j = cel 0 m
        · rw [if_pos z, z, si_s, si_c _ _ _ (by decide)]
          exact ⟨rfl, (a _ hcel).2⟩
        · rw [if_neg z, si_n _ _ _ z, si_c _ _ _ (by decide)]
          exact a j hj
      · rw [si_c _ _ _ (by decide)]; exact b S hS
      · rw [si_c _ _ _ (by decide)]; exact d) (by
    rintro s ⟨h1, rfl, f1, H1⟩
    refine ⟨h1, ?_, f1, H1⟩
    show f_X4_fill_L31 i (iI n) h1 = _
    unfold f_X4_fill_L31
    rw [(tN_fr f1 hni.1 hni.2 hN).2.2.1, if_pos (Int32.le_refl _)]) 0 (iI (0 : Nat), ha) (by omega) ⟨ha, rfl, fa, Ha⟩
  obtain ⟨hc, kc, c, l, ps, rg, fc, Hc, Ic⟩ := tr_inv (f := fun z => f_X4_fill_L61 i z.1 z.2) (fun S s => ∃ h1 c l ps rg, s = (iI S, h1) ∧ fr [27, 28, 29, 30] h h1 ∧ HR h1 c l ps rg ∧ fInv n w (ringsL (eB n w) n (fun k => (63 : Nat).testBit k)).length (6 * S) c l ps rg) (fun h1 => ∃ c l ps rg, fr [27, 28, 29, 30] h h1 ∧ HR h1 c l ps rg ∧ fInv n w (ringsL (eB n w) n (fun k => (63 : Nat).testBit k)).length (6 * 2 ^ n) c l ps rg) (hi := 2 ^ n) (by
    rintro S s hS ⟨h1, c, l, ps, rg, rfl, f1, H1, I1⟩
    have hS64 := sub_64 h6 hS
    obtain ⟨h2, k2, c2, l2, ps2, rg2, f2, H2, I2⟩ := tr_inv (f := fun z => f_X4_fill_L73 i (iI S) z.1 z.2) (fun e s => ∃ h1 c l ps rg, s = (iI e, h1) ∧ fr [27, 28, 29, 30] h h1 ∧ HR h1 c l ps rg ∧ fInv n w (ringsL (eB n w) n (fun k => (63 : Nat).testBit k)).length (6 * S + e) c l ps rg) (fun h1 => ∃ c l ps rg, fr [27, 28, 29, 30] h h1 ∧ HR h1 c l ps rg ∧ fInv n w (ringsL (eB n w) n (fun k => (63 : Nat).testBit k)).length (6 * S + n) c l ps rg) (hi := n) (by
      rintro e s he ⟨h1, c, l, ps, rg, rfl, f1, H1, I1⟩
      have hN1 := tN_fr f1 hni.1 hni.2 hN
      obtain ⟨h2, c2, l2, ps2, rg2, k2, f2, H2, I2⟩ := w_goOn hN1 hS64 he I1 (fInv_pb hw I1) H1
      refine ⟨(iI (e + 1 : Nat), h2), ?_, h2, c2, l2, ps2, rg2, rfl, fr_tr f1 f2, H2, I2⟩
      show f_X4_fill_L73 i (iI S) (iI e) h1 = _
      unfold f_X4_fill_L73
      rw [hN1.2.2.1, if_neg (by rw [iI_le (by omega) (by omega) (by omega) (by omega)]; omega), k2, tr_bn_some]
      unfold tr_bd
      rw [iI_1, iI_add]
      rfl) (by
      rintro s ⟨h1, c, l, ps, rg, rfl, f1, H1, I1⟩
      refine ⟨h1, ?_, c, l, ps, rg, f1, H1, I1⟩
      show f_X4_fill_L73 i (iI S) (iI n) h1 = _
      unfold f_X4_fill_L73
      rw [(tN_fr f1 hni.1 hni.2 hN).2.2.1, if_pos (Int32.le_refl _)]) 0 (iI (0 : Nat), h1) (by omega) ⟨h1, c, l, ps, rg, rfl, f1, H1, I1⟩
    refine ⟨(iI (S + 1 : Nat), h2), ?_, h2, c2, l2, ps2, rg2, rfl, f2, H2, fInv_row h6 hS64 I2⟩
    show f_X4_fill_L61 i (iI S) h1 = _
    unfold f_X4_fill_L61
    rw [(tN_fr f1 hni.1 hni.2 hN).2.2.1, shl7 n (by omega), if_neg (by rw [iI_le (by omega) (by omega) (by omega) (by omega)]; omega), show ((0 : Int32), h1) = (iI (0 : Nat), h1) from rfl, k2, tr_bn_some]
    unfold f_X4_fill_E94 tr_bd
    rw [iI_1, iI_add]
    rfl) (by
    rintro s ⟨h1, c, l, ps, rg, rfl, f1, H1, I1⟩
    refine ⟨h1, ?_, c, l, ps, rg, f1, H1, I1⟩
    show f_X4_fill_L61 i (iI (2 ^ n : Nat)) h1 = _
    unfold f_X4_fill_L61
    rw [(tN_fr f1 hni.1 hni.2 hN).2.2.1, shl7 n (by omega), if_pos (Int32.le_refl _)]) 1 (iI (1 : Nat), hb) hp1 ⟨hb, _, _, _, _, rfl, fb, Hb, fInv_beg hw⟩
  have hE := fInv_end h6 Ic
  obtain ⟨h', kd, fd, pd⟩ := w_takeWithin (h := hc) hw Hc.2.1 (fun S => by
    obtain ⟨g1, g2⟩ := Ic.2.2.2.2.1 S
    refine ⟨g1, ?_⟩
    rcases g2 with g2 | ⟨x, b, e, g2, g3, g4⟩
    · exact Or.inl g2
    · exact Or.inr ⟨S, x, b, e, g2, g3, fun _ z => z, g4⟩) (fun S x b e g1 g2 => hE.2 S x b e g1 g2)
  refine ⟨h', ?_, fr_tr fc (fr_up fd (by simp)), ?_, pd⟩
  · unfold f_X4_fill
    rw [j_fill h 28 384 0 (by decide), tr_bn_some, j_fill _ 29 384 0 (by decide), tr_bn_some, j_fill _ 30 64 0 (by decide), tr_bn_some]
    unfold tr_bd
    dsimp only
    rw [tr_sa_ne _ _ (show 30 ≠ 29 by decide), tr_sa_ne _ _ (show 30 ≠ 28 by decide), tr_sa_ne _ _ (show 29 ≠ 28 by decide), ← eha, show ((0 : Int32), ha) = (iI (0 : Nat), ha) from rfl, kb, tr_bn_some]
    unfold f_X4_fill_E59
    rw [show ((1 : Int32), hb) = (iI (1 : Nat), hb) from rfl, kc, tr_bn_some]
    unfold f_X4_fill_E100
    rw [(tN_fr fc hni.1 hni.2 hN).2.2.1, kd]
    rfl
  · rw [fd.1 27 (by decide), Hc.2.2, hE.1]
