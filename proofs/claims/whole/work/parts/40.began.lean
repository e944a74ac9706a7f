/-! where the delay began -/
theorem scanAll {f : Int32 → Option (Int32 ⊕ (Unit ⊕ Int32))} {Z : Nat} (ok : Nat → Prop) (step : ∀ i, i < Z → (ok i → f (iI i) = some (.inl (iI (i + 1 : Nat)))) ∧ (¬ ok i → f (iI i) = some (.inr (.inr 0)))) (ex : f (iI Z) = some (.inr (.inl ()))) : ((∀ i, i < Z → ok i) → tr_lp f (iI (0 : Nat)) = some (.inl ())) ∧ (¬ (∀ i, i < Z → ok i) → tr_lp f (iI (0 : Nat)) = some (.inr 0)) := by
  constructor
  · intro h
    exact tr_seq (f := f) (fun m => iI m) (lo := 0) (hi := Z) (by omega) (fun i _ hi => (step i hi).1 (h i hi)) ex
  · intro h
    have key : ∀ (d i : Nat), i + d = Z → (∃ k, i ≤ k ∧ k < Z ∧ ¬ ok k) → tr_lp f (iI i) = some (.inr 0) := by
      intro d
      induction d with
      | zero =>
        rintro i hi ⟨k, h1, h2, -⟩
        omega
      | succ d ih =>
        rintro i hi ⟨k, h1, h2, h3⟩
        by_cases c : ok i
        · rw [tr_lp_go ((step i (by omega)).1 c)]
          refine ih (i + 1) (by omega) ⟨k, ?_, h2, h3⟩
          have : k ≠ i := fun e => by subst e; exact h3 c
          omega
        · exact tr_lp_out ((step i (by omega)).2 c)
    refine key Z 0 (by omega) ?_
    apply Classical.byContradiction
    intro q
    exact h (fun i hi => Classical.byContradiction fun z => q ⟨i, Nat.zero_le _, hi, z⟩)
/-- what was seen, as numbers -/
def seeN (hx hm : tr_H) (Z : Nat) (A R Q : Nat → Nat) : Prop := (Z ≤ 6 ∧ hx.1 17 3 = iI Z ∧ hm.1 0 12 = iI Z) ∧ ∀ k, k < Z → (A k < 6 ∧ 1 ≤ R k ∧ R k ≤ 9 ∧ Q k ≤ 1) ∧ (hx.1 18 k = iI (A k) ∧ hx.1 19 k = iI (R k) ∧ hx.1 20 k = iI (Q k)) ∧ hm.1 8 k = iI (A k) ∧ hm.1 9 k = iI (R k) ∧ hm.1 10 k = iI (Q k)
theorem sen_fun {hx hm : tr_H} {Z : Nat} (h : sen hx hm Z) : seeN hx hm Z (fun k => (hx.1 18 k).toNatClampNeg) (fun k => (hx.1 19 k).toNatClampNeg) (fun k => (hx.1 20 k).toNatClampNeg) := by
  obtain ⟨z1, z2, z3, z4⟩ := h
  refine ⟨⟨z1, z2, z3⟩, fun k hk => ?_⟩
  obtain ⟨a, r, q, g1, ⟨g2, g3, g4⟩, g5, g6, g7⟩ := z4 k hk
  have e1 : (hx.1 18 k).toNatClampNeg = a := by rw [g2, iI_ix (by omega)]
  have e2 : (hx.1 19 k).toNatClampNeg = r := by rw [g3, iI_ix (by omega)]
  have e3 : (hx.1 20 k).toNatClampNeg = q := by rw [g4, iI_ix (by omega)]
  dsimp only
  rw [e1, e2, e3]
  exact ⟨g1, ⟨g2, g3, g4⟩, g5, g6, g7⟩
section BEG
variable {n : Nat} {w : Nat → Int} {Z : Nat} {A R Q : Nat → Nat}
def fit1 (n : Nat) (w : Nat → Int) (A R Q : Nat → Nat) (at_ : Nat) (d : Int) (k : Nat) : Prop := 0 < lat n w 10 at_ d (R k) (A k) ↔ Q k = 1
def fitP (n : Nat) (w : Nat → Int) (Z : Nat) (A R Q : Nat → Nat) (at_ : Nat) (d : Int) : Prop := ∀ k, k < Z → fit1 n w A R Q at_ d k
theorem w_fits {h hm : tr_H} (hw : okn n w) (hS : seeN h hm Z A R Q) {at_ : Nat} {d : Int} (hd : 0 ≤ d ∧ d ≤ 30) (hs : spT n (spq n w 10 at_) (9 + 1) 0 (h.1 26)) : (fitP n w Z A R Q at_ d → f_X5_fits (iI d) (iI n) h = some 1) ∧ (¬ fitP n w Z A R Q at_ d → f_X5_fits (iI d) (iI n) h = some 0) := by
  have hk := kept10 hw
  have h6 := hw.2.1
  have lb := lat_b (at_ := at_) hw hk hd
  have hsc := scanAll (f := fun q => f_X5_fits_L3 h (iI n) (iI d) q) (Z := Z) (fit1 n w A R Q at_ d) (by
    intro i hi
    obtain ⟨⟨a1, a2, a3, a4⟩, ⟨b1, b2, b3⟩, -⟩ := hS.2 i hi
    have hZ := hS.1.1
    -- what follows once it is known whether it was late
    have hJ : ∀ (L : Prop) (g : Int32), (L → g = 1) → (¬ L → g = 0) → ((L ↔ Q i = 1) → f_X5_fits_J57 (iI i) h g = some (.inl (iI (i + 1 : Nat)))) ∧ (¬ (L ↔ Q i = 1) → f_X5_fits_J57 (iI i) h g = some (.inr (.inr 0))) := by
      intro L g g1 g0
      unfold f_X5_fits_J57
      rw [tr_gdI (by omega) (by omega) (by omega), iI_ix (by omega), b3]
      have hq : (iI (Q i : Nat) = 1 ↔ Q i = 1) := by
        rw [iI_1, iI_eq (by omega) (by omega) (by omega) (by omega)]
        omega
      unfold f_X5_fits_J77
      simp only [tr_bd]
      by_cases cq : Q i = 1
      · rw [if_pos (hq.mpr cq)]
        by_cases cl : L
        · rw [g1 cl, if_pos rfl, iI_1, iI_add]
          exact ⟨fun _ => rfl, fun q => absurd ⟨fun _ => cq, fun _ => cl⟩ q⟩
        · rw [g0 cl, if_neg (by decide)]
          exact ⟨fun q => absurd (q.mpr cq) cl, fun _ => rfl⟩
      · rw [if_neg (fun z => cq (hq.mp z))]
        by_cases cl : L
        · rw [g1 cl, if_neg (by decide)]
          exact ⟨fun q => absurd (q.mp cl) cq, fun _ => rfl⟩
        · rw [g0 cl, if_pos rfl, iI_1, iI_add]
          exact ⟨fun _ => rfl, fun q => absurd ⟨fun z => absurd z cl, fun z => absurd z cq⟩ q⟩
    show (fit1 n w A R Q at_ d i → f_X5_fits_L3 h (iI n) (iI d) (iI i) = _) ∧ (¬ fit1 n w A R Q at_ d i → f_X5_fits_L3 h (iI n) (iI d) (iI i) = _)
    unfold f_X5_fits_L3
    rw [hS.1.2.1, if_neg (by rw [iI_le (by omega) (by omega) (by omega) (by omega)]; omega), if_neg (by rw [iI_6, iI_le (by omega) (by omega) (by omega) (by omega)]; omega), tr_gdI (by omega) (by omega) (by omega), tr_gdI (by omega) (by omega) (by omega), tr_gdI (by omega) (by omega) (by omega), iI_ix (by omega), b1, b2]
    by_cases ca : A i < n
    · have hl := w_lateness hw hk hd hs (r := R i) (v := A i) (by omega) (by omega) ca
      have b4 := lb (R i) (A i)
      rw [if_neg (by rw [iI_le (by omega) (by omega) (by omega) (by omega)]; omega), hl, tr_bn_some]
      by_cases cl : 0 < lat n w 10 at_ d (R i) (A i)
      · rw [if_neg (by rw [iI_0, iI_le (by omega) (by omega) (by omega) (by omega)]; omega)]
        exact hJ (0 < lat n w 10 at_ d (R i) (A i)) 1 (fun _ => rfl) (fun q => absurd cl q)
      · rw [if_pos (by rw [iI_0, iI_le (by omega) (by omega) (by omega) (by omega)]; omega)]
        exact hJ (0 < lat n w 10 at_ d (R i) (A i)) 0 (fun q => absurd q cl) (fun _ => rfl)
    · have hz : lat n w 10 at_ d (R i) (A i) = 0 := by
        obtain ⟨r, er⟩ : ∃ r, R i = r + 1 := ⟨R i - 1, by omega⟩
        rw [er, lat_s, if_neg ca]
      rw [if_pos (by rw [iI_le (by omega) (by omega) (by omega) (by omega)]; omega)]
      exact hJ (0 < lat n w 10 at_ d (R i) (A i)) 0 (fun q => by omega) (fun _ => rfl)) (by
    show f_X5_fits_L3 h (iI n) (iI d) (iI Z) = _
    unfold f_X5_fits_L3
    rw [hS.1.2.1, if_pos (Int32.le_refl _)])
  constructor
  · intro q
    unfold f_X5_fits
    rw [show (0 : Int32) = iI (0 : Nat) from rfl, hsc.1 q]
    rfl
  · intro q
    unfold f_X5_fits
    rw [show (0 : Int32) = iI (0 : Nat) from rfl, hsc.2 q]
    rfl
noncomputable def bI (P : Prop) : Int32 := if pB P then 1 else 0
theorem bI_t {P : Prop} (h : P) : bI P = 1 := by unfold bI; rw [pB_t h]; rfl
theorem bI_f {P : Prop} (h : ¬ P) : bI P = 0 := by unfold bI; rw [pB_f h]; rfl
theorem bI_cg {P P' : Prop} (h : P ↔ P') : bI P = bI P' := by
  by_cases c : P
  · rw [bI_t c, bI_t (h.mp c)]
  · rw [bI_f c, bI_f (fun q => c (h.mpr q))]
/-- as far as a round, and in it as far as a number -/
def exP (n : Nat) (w : Nat → Int) (Z : Nat) (A R Q : Nat → Nat) (at_ : Nat) (d : Int) (r i : Nat) : Prop := ∀ k, k < Z → (R k < r ∨ (R k = r ∧ k < i)) → fit1 n w A R Q at_ d k
theorem r_exStep {h hx : tr_H} (hw : okn n w) (hS : seeN hx h Z A R Q) {at_ : Nat} {d : Int} (hd : 0 ≤ d ∧ d ≤ 30) {r : Nat} (hr : r < 10) (hl : latP h n w 10 at_ d r) {i : Nat} (hi : i < Z) : f_X8_explains_L32 h (iI r) (bI (exP n w Z A R Q at_ d r i)) (iI i) = some (.inl (bI (exP n w Z A R Q at_ d r (i + 1)), iI (i + 1 : Nat))) := by
  have hk := kept10 hw
  have lb := lat_b (at_ := at_) hw hk hd
  obtain ⟨⟨a1, a2, a3, a4⟩, -, b1, b2, b3⟩ := hS.2 i hi
  have hZ := hS.1.1
  have hsucc : exP n w Z A R Q at_ d r (i + 1) ↔ (exP n w Z A R Q at_ d r i ∧ (R i = r → fit1 n w A R Q at_ d i)) := by
    constructor
    · intro q
      exact ⟨fun k h1 h2 => q k h1 (by omega), fun e => q i hi (by omega)⟩
    · rintro ⟨q1, q2⟩ k h1 h2
      by_cases e : k = i
      · subst e
        rcases h2 with h2 | h2
        · exact q1 k h1 (Or.inl h2)
        · exact q2 h2.1
      · exact q1 k h1 (by omega)
  unfold f_X8_explains_L32
  rw [hS.1.2.2, if_neg (by rw [iI_le (by omega) (by omega) (by omega) (by omega)]; omega)]
  by_cases c1 : exP n w Z A R Q at_ d r i
  · rw [bI_t c1, if_neg n10, tr_gdI (by omega) (by omega) (by omega), iI_ix (by omega), b2]
    by_cases c2 : R i = r
    · have b4 := lb r (A i)
      have hlA := hl (A i) a1
      rw [if_pos (show iI (R i : Nat) = iI (r : Nat) by rw [c2])]
      simp (disch := omega) only [tr_bd, tr_gdI, iI_ix, b1, hlA]
      have hq : (iI (Q i : Nat) = 1 ↔ Q i = 1) := by
        rw [iI_1, iI_eq (by omega) (by omega) (by omega) (by omega)]
        omega
      have hfit : bI (exP n w Z A R Q at_ d r (i + 1)) = bI (0 < lat n w 10 at_ d r (A i) ↔ Q i = 1) := bI_cg (by
        rw [hsucc]
        unfold fit1
        rw [c2]
        exact ⟨fun z => z.2 rfl, fun z => ⟨c1, fun _ => z⟩⟩)
      rw [hfit]
      have hJ : ∀ (L : Prop) (g : Int32), (L → g = 1) → (¬ L → g = 0) → f_X8_explains_J77 (iI i) h g = some (.inl (bI (L ↔ Q i = 1), iI (i + 1 : Nat))) := by
        intro L g g1 g0
        unfold f_X8_explains_J77
        rw [tr_gdI (by omega) (by omega) (by omega), iI_ix (by omega), b3]
        unfold f_X8_explains_J93
        simp only [tr_bd]
        by_cases cq : Q i = 1
        · rw [if_pos (hq.mpr cq)]
          by_cases cl : L
          · rw [g1 cl, if_pos rfl, bI_t ⟨fun _ => cq, fun _ => cl⟩, iI_1, iI_add]
            rfl
          · rw [g0 cl, if_neg (by decide), bI_f (fun z => cl (z.mpr cq)), iI_1, iI_add]
            rfl
        · rw [if_neg (fun z => cq (hq.mp z))]
          by_cases cl : L
          · rw [g1 cl, if_neg (by decide), bI_f (fun z => cq (z.mp cl)), iI_1, iI_add]
            rfl
          · rw [g0 cl, if_pos rfl, bI_t ⟨fun z => absurd z cl, fun z => absurd z cq⟩, iI_1, iI_add]
            rfl
      by_cases cl : 0 < lat n w 10 at_ d r (A i)
      · rw [if_neg (by rw [iI_0, iI_le (by omega) (by omega) (by omega) (by omega)]; omega)]
        exact hJ _ 1 (fun _ => rfl) (fun q => absurd cl q)
      · rw [if_pos (by rw [iI_0, iI_le (by omega) (by omega) (by omega) (by omega)]; omega)]
        exact hJ _ 0 (fun q => absurd q cl) (fun _ => rfl)
    · rw [if_neg (show ¬ iI (R i : Nat) = iI (r : Nat) by rw [iI_eq (by omega) (by omega) (by omega) (by omega)]; omega), bI_t (hsucc.mpr ⟨c1, fun z => absurd z c2⟩)]
      simp only [tr_bd]
      rw [iI_1, iI_add]
      rfl
  · rw [bI_f c1, if_pos z00, bI_f (fun z => c1 (hsucc.mp z).1)]
    simp only [tr_bd]
    rw [iI_1, iI_add]
    rfl
theorem seeN_m {hx hm hm' : tr_H} (e0 : hm'.1 0 12 = hm.1 0 12) (e1 : hm'.1 8 = hm.1 8) (e2 : hm'.1 9 = hm.1 9) (e3 : hm'.1 10 = hm.1 10) (h : seeN hx hm Z A R Q) : seeN hx hm' Z A R Q := by
  unfold seeN at h ⊢
  rw [e0, e1, e2, e3]
  exact h
theorem seeN_x {hx hx' hm : tr_H} (e0 : hx'.1 17 = hx.1 17) (e1 : hx'.1 18 = hx.1 18) (e2 : hx'.1 19 = hx.1 19) (e3 : hx'.1 20 = hx.1 20) (h : seeN hx hm Z A R Q) : seeN hx' hm Z A R Q := by
  unfold seeN at h ⊢
  rw [e0, e1, e2, e3]
  exact h
theorem r_explains {h hx : tr_H} (hP : tP h 3 n w) (hT : timP h n w 10) (hS : seeN hx h Z A R Q) {at_ : Nat} (ha : at_ < n) {d : Int} (hd : 0 ≤ d ∧ d ≤ 30) : ∃ h', f_X8_explains (iI at_) (iI d) h = some (bI (fitP n w Z A R Q at_ d), h') ∧ fr [14, 15] h h' := by
  have hw := hP.2.1
  have h6 := hw.2.1
  have hk := kept10 hw
  obtain ⟨h1, a1, a2, a3⟩ := r_beginLate (h := h) (n := n) (w := w) (p := 10) (d := d) (at_ := at_) (by omega)
  have f1 : fr [14, 15] h h1 := fr_up a2 (by simp)
  obtain ⟨r, k1, h2, k2, k3⟩ := tr_inv (f := fun q => f_X8_explains_L11 q.1 q.2.1 q.2.2) (fun m s => ∃ h2, s = (bI (exP n w Z A R Q at_ d m 0), iI m, h2) ∧ fr [14, 15] h h2 ∧ 1 ≤ m ∧ latP h2 n w 10 at_ d (m - 1)) (fun s => ∃ h2, s = (bI (exP n w Z A R Q at_ d 10 0), h2) ∧ fr [14, 15] h h2) (hi := 10) (by
    rintro m s hm ⟨h2, rfl, f2, m1, l2⟩
    have hP2 := tP_fr f2 (by simp) hP
    obtain ⟨h3, e3, f3, l3⟩ := r_goRound hP2 hk (fun v hv => by rw [f2.1 13 (by decide)]; exact hT v hv) hd l2
    rw [show m - 1 + 1 = m by omega] at l3
    have f4 : fr [14, 15] h h3 := fr_tr f2 f3
    have hS3 : seeN hx h3 Z A R Q := seeN_m (by rw [f4.1 0 (by decide)]) (f4.1 8 (by decide)) (f4.1 9 (by decide)) (f4.1 10 (by decide)) hS
    have hZ := hS.1.1
    have key := tr_seq (f := fun q => f_X8_explains_L32 h3 (iI m) q.1 q.2) (fun i => (bI (exP n w Z A R Q at_ d m i), iI i)) (lo := 0) (hi := Z) (r := bI (exP n w Z A R Q at_ d m Z)) (by omega) (fun i _ hi => r_exStep hw hS3 hd hm l3 hi) (by
      show f_X8_explains_L32 h3 (iI m) (bI (exP n w Z A R Q at_ d m Z)) (iI Z) = _
      unfold f_X8_explains_L32
      rw [hS3.1.2.2, if_pos (Int32.le_refl _)])
    have hnx : bI (exP n w Z A R Q at_ d m Z) = bI (exP n w Z A R Q at_ d (m + 1) 0) := bI_cg ⟨fun q k h1 h2 => q k h1 (by omega), fun q k h1 h2 => q k h1 (by omega)⟩
    refine ⟨(bI (exP n w Z A R Q at_ d (m + 1) 0), iI (m + 1 : Nat), h3), ?_, h3, rfl, f4, by omega, by rw [show m + 1 - 1 = m by omega]; exact l3⟩
    show f_X8_explains_L11 (bI (exP n w Z A R Q at_ d m 0)) (iI m) h2 = _
    unfold f_X8_explains_L11
    rw [if_neg (by rw [iI_10, iI_le (by omega) (by omega) (by omega) (by omega)]; omega), iI_10, e3, tr_b2_some, show ((bI (exP n w Z A R Q at_ d m 0)), (0 : Int32)) = (bI (exP n w Z A R Q at_ d m 0), iI (0 : Nat)) from rfl, key, tr_bn_some, hnx]
    unfold f_X8_explains_E108 tr_bd
    rw [iI_1, iI_add]
    rfl) (by
    rintro s ⟨h2, rfl, f2, m1, l2⟩
    exact ⟨_, rfl, h2, rfl, f2⟩) 1 (bI (exP n w Z A R Q at_ d 1 0), iI (1 : Nat), h1) (by omega) ⟨h1, rfl, f1, by omega, a3⟩
  refine ⟨h2, ?_, k3⟩
  have e0 : bI (exP n w Z A R Q at_ d 1 0) = 1 := bI_t (fun k h1 h2 => by have := (hS.2 k h1).1; omega)
  have e9 : bI (exP n w Z A R Q at_ d 10 0) = bI (fitP n w Z A R Q at_ d) := bI_cg ⟨fun q k h1 => q k h1 (by have := (hS.2 k h1).1; omega), fun q k h1 _ => q k h1⟩
  unfold f_X8_explains
  rw [a1, tr_bn_some, show ((1 : Int32), (1 : Int32), h1) = (bI (exP n w Z A R Q at_ d 1 0), iI (1 : Nat), h1) by rw [e0]; rfl, k1, tr_bn_some, k2, e9]
  unfold f_X8_explains_E114
  by_cases c : fitP n w Z A R Q at_ d
  · rw [bI_t c, zb1]
  · rw [bI_f c, zb0]
/-! both count -/
noncomputable def stp (n : Nat) (w : Nat → Int) (Z : Nat) (A R Q : Nat → Nat) (at_ e : Nat) (s : Int × Int) : Int × Int := if pB (fitP n w Z A R Q at_ ((e + 1 : Nat) : Int)) then (if s.2 = 0 then ((100 * at_ + (e + 1) : Nat) : Int) else s.1, s.2 + 1) else s
noncomputable def bgD (n : Nat) (w : Nat → Int) (Z : Nat) (A R Q : Nat → Nat) (at_ m : Nat) (s : Int × Int) : Int × Int := itr (stp n w Z A R Q at_) m s
noncomputable def bgA (n : Nat) (w : Nat → Int) (Z : Nat) (A R Q : Nat → Nat) (m : Nat) : Int × Int := itr (fun at_ s => bgD n w Z A R Q at_ 30 s) m (-9, 0)
theorem stp_b {at_ e : Nat} {s : Int × Int} {B : Int} (h : 0 ≤ s.2 ∧ s.2 ≤ B) : 0 ≤ (stp n w Z A R Q at_ e s).2 ∧ (stp n w Z A R Q at_ e s).2 ≤ B + 1 := by
  unfold stp
  split
  · show 0 ≤ s.2 + 1 ∧ s.2 + 1 ≤ B + 1
    omega
  · omega
theorem bgD_b {at_ : Nat} {s : Int × Int} {B : Int} (h : 0 ≤ s.2 ∧ s.2 ≤ B) : ∀ m : Nat, 0 ≤ (bgD n w Z A R Q at_ m s).2 ∧ (bgD n w Z A R Q at_ m s).2 ≤ B + m := by
  intro m
  induction m with
  | zero => exact ⟨h.1, by show s.2 ≤ B + 0; omega⟩
  | succ m ih =>
    have := stp_b (n := n) (w := w) (Z := Z) (A := A) (R := R) (Q := Q) (at_ := at_) (e := m) ih
    exact ⟨this.1, by show (stp n w Z A R Q at_ m (bgD n w Z A R Q at_ m s)).2 ≤ B + ((m + 1 : Nat) : Int); omega⟩
theorem bgA_b : ∀ m : Nat, 0 ≤ (bgA n w Z A R Q m).2 ∧ (bgA n w Z A R Q m).2 ≤ 30 * m := by
  intro m
  induction m with
  | zero => exact ⟨Int.le_refl _, Int.le_refl _⟩
  | succ m ih =>
    have := bgD_b (n := n) (w := w) (Z := Z) (A := A) (R := R) (Q := Q) (at_ := m) ih 30
    exact ⟨this.1, by show (bgD n w Z A R Q m 30 (bgA n w Z A R Q m)).2 ≤ 30 * ((m + 1 : Nat) : Int); omega⟩
theorem w_beganD {h hm : tr_H} (hN : tN h 2 n w) (hS : seeN h hm Z A R Q) {at_ : Nat} (ha : at_ < n) (hs : spT n (spq n w 10 at_) (9 + 1) 0 (h.1 26)) {s : Int × Int} (hb : 0 ≤ s.2 ∧ s.2 ≤ 200) : tr_lp (fun q => f_X7_began_L79 h (iI at_) q.1 q.2.1 q.2.2) (iI s.1, iI s.2, iI (1 : Nat)) = some (iI (bgD n w Z A R Q at_ 30 s).1, iI (bgD n w Z A R Q at_ 30 s).2) := by
  have hw := hN.2.1
  have h6 := hw.2.1
  have key := tr_seq (f := fun q => f_X7_began_L79 h (iI at_) q.1 q.2.1 q.2.2) (fun m => (iI (bgD n w Z A R Q at_ m s).1, iI (bgD n w Z A R Q at_ m s).2, iI (m + 1 : Nat))) (lo := 0) (hi := 30) (r := (iI (bgD n w Z A R Q at_ 30 s).1, iI (bgD n w Z A R Q at_ 30 s).2)) (by omega) (fun m _ hm => by
    have b := bgD_b (n := n) (w := w) (Z := Z) (A := A) (R := R) (Q := Q) (at_ := at_) hb m
    have hf := w_fits hw hS (at_ := at_) (d := ((m + 1 : Nat) : Int)) (by omega) hs
    show f_X7_began_L79 h (iI at_) (iI (bgD n w Z A R Q at_ m s).1) (iI (bgD n w Z A R Q at_ m s).2) (iI (m + 1 : Nat)) = some (.inl (iI (stp n w Z A R Q at_ m (bgD n w Z A R Q at_ m s)).1, iI (stp n w Z A R Q at_ m (bgD n w Z A R Q at_ m s)).2, iI (m + 1 + 1 : Nat)))
    generalize bgD n w Z A R Q at_ m s = t at b
    unfold f_X7_began_L79 stp
    rw [if_neg (by rw [iI_30, iI_lt (by omega) (by omega) (by omega) (by omega)]; omega), hN.2.2.1]
    by_cases c : fitP n w Z A R Q at_ ((m + 1 : Nat) : Int)
    · rw [hf.1 c, tr_bn_some, if_neg n10, pB_t c, if_pos rfl]
      by_cases c2 : t.2 = 0
      · rw [if_pos (show iI t.2 = 0 by rw [c2]; rfl), if_pos c2]
        simp only [tr_bd]
        rw [iI_100, iI_mul, iI_add, iI_1, iI_add, iI_add]
        rfl
      · rw [if_neg (show ¬ iI t.2 = 0 by rw [iI_0, iI_eq (by omega) (by omega) (by omega) (by omega)]; exact c2), if_neg c2]
        simp only [tr_bd]
        rw [iI_1, iI_add, iI_add]
        rfl
    · rw [hf.2 c, tr_bn_some, if_pos z00, pB_f c, if_neg (by decide)]
      simp only [tr_bd]
      rw [iI_1, iI_add]
      rfl) (by
    show f_X7_began_L79 h (iI at_) _ _ (iI (30 + 1 : Nat)) = _
    unfold f_X7_began_L79
    rw [if_pos (by rw [iI_30, iI_lt (by omega) (by omega) (by omega) (by omega)]; omega)])
  exact key
theorem w_beganA {h hm : tr_H} (hN : tN h 2 n w) (hS : seeN h hm Z A R Q) (hT : timH h n w 10) : ∃ h', tr_lp (fun q => f_X7_began_L49 q.1 q.2.1 q.2.2.1 q.2.2.2) (iI (-9), iI 0, iI (0 : Nat), h) = some (iI (bgA n w Z A R Q n).1, iI (bgA n w Z A R Q n).2, h') ∧ fr [26] h h' := by
  have hw := hN.2.1
  have h6 := hw.2.1
  have hk := kept10 hw
  obtain ⟨r, k1, h2, k2, k3⟩ := tr_inv (f := fun q => f_X7_began_L49 q.1 q.2.1 q.2.2.1 q.2.2.2) (fun m s => ∃ h1, s = (iI (bgA n w Z A R Q m).1, iI (bgA n w Z A R Q m).2, iI m, h1) ∧ fr [26] h h1) (fun s => ∃ h1, s = (iI (bgA n w Z A R Q n).1, iI (bgA n w Z A R Q n).2, h1) ∧ fr [26] h h1) (hi := n) (by
    rintro m s hm ⟨h1, rfl, f1⟩
    have hN1 := tN_fr f1 (by simp) (by simp) hN
    have b := bgA_b (n := n) (w := w) (Z := Z) (A := A) (R := R) (Q := Q) m
    obtain ⟨g, e1, e2⟩ := w_spread hN1 hk (show timH h1 n w 10 from ⟨by rw [f1.1 24 (by decide)]; exact hT.1, fun v hv => by rw [f1.1 25 (by decide)]; exact hT.2 v hv⟩) hm (show 9 ≤ 40 by omega)
    have f2 : fr [26] h (tr_sa h1 26 g) := fr_tr f1 (fr_sa _ _ (by simp))
    have hN2 := tN_fr f2 (by simp) (by simp) hN
    have hd := w_beganD (h := tr_sa h1 26 g) hN2 (seeN_x (f2.1 17 (by decide)) (f2.1 18 (by decide)) (f2.1 19 (by decide)) (f2.1 20 (by decide)) hS) hm (by rw [tr_sa_at]; exact e2) (s := bgA n w Z A R Q m) (by omega)
    refine ⟨(iI (bgA n w Z A R Q (m + 1)).1, iI (bgA n w Z A R Q (m + 1)).2, iI (m + 1 : Nat), tr_sa h1 26 g), ?_, _, rfl, f2⟩
    show f_X7_began_L49 _ _ (iI m) h1 = _
    unfold f_X7_began_L49
    rw [hN1.2.2.1, if_neg (by rw [iI_le (by omega) (by omega) (by omega) (by omega)]; omega), show (9 : Int32) = iI ((9 : Nat) : Int) from rfl, e1, tr_bn_some, show (iI (bgA n w Z A R Q m).1, iI (bgA n w Z A R Q m).2, (1 : Int32)) = (iI (bgA n w Z A R Q m).1, iI (bgA n w Z A R Q m).2, iI (1 : Nat)) from rfl, hd, tr_bn_some]
    unfold f_X7_began_E135 tr_bd
    rw [iI_1, iI_add]
    rfl) (by
    rintro s ⟨h1, rfl, f1⟩
    refine ⟨_, ?_, h1, rfl, f1⟩
    have hN1 := tN_fr f1 (by simp) (by simp) hN
    show f_X7_began_L49 _ _ (iI n) h1 = _
    unfold f_X7_began_L49
    rw [hN1.2.2.1, if_pos (Int32.le_refl _)]) 0 (iI (-9), iI 0, iI (0 : Nat), h) (by omega) ⟨h, rfl, fr_rf _ _⟩
  exact ⟨h2, by rw [k1, k2], k3⟩
/-- the reference's heap while it counts -/
def bgH (h h1 : tr_H) (s : Int × Int) : Prop := (∀ c, c ≠ 0 → c ≠ 14 → c ≠ 15 → h1.1 c = h.1 c) ∧ (∀ k, k ≠ 28 → k ≠ 29 → h1.1 0 k = h.1 0 k) ∧ h1.2 = h.2 ∧ h1.1 0 28 = iI s.2 ∧ h1.1 0 29 = iI s.1
theorem bgH_tP {h h1 : tr_H} {s : Int × Int} (hB : bgH h h1 s) (hP : tP h 3 n w) : tP h1 3 n w := by
  obtain ⟨a, b, c, d⟩ := hP
  exact ⟨a, b, by rw [hB.1 3 (by decide) (by decide) (by decide)]; exact c, fun k hk => by rw [hB.1 3 (by decide) (by decide) (by decide)]; exact d k hk⟩
theorem r_beganD {h h1 hx : tr_H} (hP : tP h 3 n w) (hT : timP h n w 10) (hS : seeN hx h Z A R Q) {at_ : Nat} (ha : at_ < n) {s : Int × Int} (hb : 0 ≤ s.2 ∧ s.2 ≤ 200) (hB : bgH h h1 s) : ∃ h', tr_lp (fun q => f_X8_began_L53 (iI at_) q.1 q.2) (iI (1 : Nat), h1) = some h' ∧ bgH h h' (bgD n w Z A R Q at_ 30 s) := by
  have hw := hP.2.1
  have h6 := hw.2.1
  obtain ⟨r, k1, k2⟩ := tr_inv (f := fun q => f_X8_began_L53 (iI at_) q.1 q.2) (fun m z => ∃ h2, z = (iI (m + 1 : Nat), h2) ∧ bgH h h2 (bgD n w Z A R Q at_ m s)) (fun h2 => bgH h h2 (bgD n w Z A R Q at_ 30 s)) (hi := 30) (by
    rintro m z hm ⟨h2, rfl, B2⟩
    have b := bgD_b (n := n) (w := w) (Z := Z) (A := A) (R := R) (Q := Q) (at_ := at_) hb m
    have hS2 : seeN hx h2 Z A R Q := seeN_m (B2.2.1 12 (by decide) (by decide)) (B2.1 8 (by decide) (by decide) (by decide)) (B2.1 9 (by decide) (by decide) (by decide)) (B2.1 10 (by decide) (by decide) (by decide)) hS
    obtain ⟨h3, e3, f3⟩ := r_explains (bgH_tP B2 hP) (fun v hv => by rw [B2.1 13 (by decide) (by decide) (by decide)]; exact hT v hv) hS2 ha (d := ((m + 1 : Nat) : Int)) (by omega)
    have B3 : bgH h h3 (bgD n w Z A R Q at_ m s) := by
      refine ⟨fun c q1 q2 q3 => ?_, fun k q1 q2 => ?_, by rw [f3.2]; exact B2.2.2.1, by rw [f3.1 0 (by decide)]; exact B2.2.2.2.1, by rw [f3.1 0 (by decide)]; exact B2.2.2.2.2⟩
      · rw [f3.1 c (by simp; omega)]; exact B2.1 c q1 q2 q3
      · rw [f3.1 0 (by decide)]; exact B2.2.1 k q1 q2
    have eT : bgD n w Z A R Q at_ (m + 1) s = stp n w Z A R Q at_ m (bgD n w Z A R Q at_ m s) := rfl
    show ∃ s', f_X8_began_L53 (iI at_) (iI (m + 1 : Nat)) h2 = some (.inl s') ∧ ∃ h2, s' = (iI (m + 1 + 1 : Nat), h2) ∧ bgH h h2 (bgD n w Z A R Q at_ (m + 1) s)
    rw [eT]
    generalize bgD n w Z A R Q at_ m s = t at b B3
    have hfin : ∀ (v : Int32) (y : Int) (z : Int × Int), v = iI y → z.1 = y → (z.2 = t.2 + 1) → f_X8_began_J93 h3 1 (iI (m + 1 : Nat)) v = some (.inl (iI (m + 1 + 1 : Nat), tr_si (tr_si h3 0 29 (iI z.1)) 0 28 (iI z.2))) ∧ bgH h (tr_si (tr_si h3 0 29 (iI z.1)) 0 28 (iI z.2)) z := by
      intro v y z hv hz1 hz2
      constructor
      · unfold f_X8_began_J93
        simp only [tr_bd]
        rw [if_neg n10, si_n _ _ _ (show (28 : Nat) ≠ 29 by decide), B3.2.2.2.1, iI_1, iI_add, iI_add, hv, hz1, hz2]
        rfl
      · refine ⟨fun c q1 q2 q3 => ?_, fun k q1 q2 => ?_, by rw [si_2, si_2]; exact B3.2.2.1, si_s _ _ _ _, by rw [si_n _ _ _ (by decide), si_s]⟩
        · rw [si_c _ _ _ q1, si_c _ _ _ q1]; exact B3.1 c q1 q2 q3
        · rw [si_n _ _ _ q1, si_n _ _ _ q2]; exact B3.2.1 k q1 q2
    unfold f_X8_began_L53
    rw [if_neg (by rw [iI_30, iI_lt (by omega) (by omega) (by omega) (by omega)]; omega), e3, tr_b2_some]
    by_cases c : fitP n w Z A R Q at_ ((m + 1 : Nat) : Int)
    · have est : stp n w Z A R Q at_ m t = (if t.2 = 0 then ((100 * at_ + (m + 1) : Nat) : Int) else t.1, t.2 + 1) := by
        unfold stp
        rw [pB_t c, if_pos rfl]
      rw [bI_t c, if_neg n10, B3.2.2.2.1, est]
      by_cases c2 : t.2 = 0
      · rw [if_pos (show iI t.2 = 0 by rw [c2]; rfl), if_pos c2]
        have q := hfin (100 * iI at_ + iI (m + 1 : Nat)) ((100 * at_ + (m + 1) : Nat) : Int) (((100 * at_ + (m + 1) : Nat) : Int), t.2 + 1) (by rw [iI_100, iI_mul, iI_add]; rfl) rfl rfl
        exact ⟨_, q.1, _, rfl, q.2⟩
      · rw [if_neg (show ¬ iI t.2 = 0 by rw [iI_0, iI_eq (by omega) (by omega) (by omega) (by omega)]; exact c2), if_neg c2]
        unfold f_X8_began_J89
        have q := hfin (h3.1 0 29) t.1 (t.1, t.2 + 1) B3.2.2.2.2 rfl rfl
        exact ⟨_, q.1, _, rfl, q.2⟩
    · have est : stp n w Z A R Q at_ m t = t := by
        unfold stp
        rw [pB_f c, if_neg (by decide)]
      rw [bI_f c, if_pos z00, est]
      unfold f_X8_began_J89 f_X8_began_J93
      simp only [tr_bd]
      rw [if_pos trivial, si_n _ _ _ (show (28 : Nat) ≠ 29 by decide), B3.2.2.2.1, B3.2.2.2.2, iI_0, iI_add, iI_1, iI_add]
      refine ⟨_, rfl, _, rfl, fun c q1 q2 q3 => ?_, fun k q1 q2 => ?_, by rw [si_2, si_2]; exact B3.2.2.1, by rw [si_s, Int.add_zero], by rw [si_n _ _ _ (by decide), si_s]⟩
      · rw [si_c _ _ _ q1, si_c _ _ _ q1]; exact B3.1 c q1 q2 q3
      · rw [si_n _ _ _ q1, si_n _ _ _ q2]; exact B3.2.1 k q1 q2) (by
    rintro z ⟨h2, rfl, B2⟩
    exact ⟨h2, rfl, B2⟩) 0 (iI (1 : Nat), h1) (by omega) ⟨h1, rfl, hB⟩
  exact ⟨r, k1, k2⟩
theorem r_beganA {h h1 hx : tr_H} (hP : tP h 3 n w) (hT : timP h n w 10) (hS : seeN hx h Z A R Q) (hB : bgH h h1 (-9, 0)) : ∃ h', tr_lp (fun q => f_X8_began_L41 q.1 q.2) (iI (0 : Nat), h1) = some h' ∧ bgH h h' (bgA n w Z A R Q n) := by
  have hw := hP.2.1
  have h6 := hw.2.1
  obtain ⟨r, k1, k2⟩ := tr_inv (f := fun q => f_X8_began_L41 q.1 q.2) (fun m z => ∃ h2, z = (iI m, h2) ∧ bgH h h2 (bgA n w Z A R Q m)) (fun h2 => bgH h h2 (bgA n w Z A R Q n)) (hi := n) (by
    rintro m z hm ⟨h2, rfl, B2⟩
    have b := bgA_b (n := n) (w := w) (Z := Z) (A := A) (R := R) (Q := Q) m
    obtain ⟨h3, e3, B3⟩ := r_beganD hP hT hS hm (s := bgA n w Z A R Q m) (by omega) B2
    refine ⟨(iI (m + 1 : Nat), h3), ?_, h3, rfl, B3⟩
    show f_X8_began_L41 (iI m) h2 = _
    unfold f_X8_began_L41
    rw [show (0 : Int32).toNatClampNeg = 0 from rfl, (bgH_tP B2 hP).2.2.1, if_neg (by rw [iI_le (by omega) (by omega) (by omega) (by omega)]; omega), show ((1 : Int32), h2) = (iI (1 : Nat), h2) from rfl, e3, tr_bn_some]
    unfold f_X8_began_E121 tr_bd
    rw [iI_1, iI_add]
    rfl) (by
    rintro z ⟨h2, rfl, B2⟩
    refine ⟨h2, ?_, B2⟩
    show f_X8_began_L41 (iI n) h2 = _
    unfold f_X8_began_L41
    rw [show (0 : Int32).toNatClampNeg = 0 from rfl, (bgH_tP B2 hP).2.2.1, if_pos (Int32.le_refl _)]) 0 (iI (0 : Nat), h1) (by omega) ⟨h1, rfl, hB⟩
  exact ⟨r, k1, k2⟩
end BEG
theorem s_began : ∀ (v0 : Int32) (hx hm : tr_H), Rl hx hm → ∃ (r0 : Int32) (gx gm : tr_H), f_X7_began v0 hx = some (r0, gx) ∧ f_X8_began v0 hm = some (r0, gm) ∧ Rl gx gm := by
  intro v0 hx hm hR
  obtain ⟨v, hv, rfl⟩ := ex_iI v0
  have hR0 := Rl_0 hR
  obtain ⟨m0, em0⟩ : ∃ m0, m0 = tr_si hm 0 0 0 := ⟨_, rfl⟩
  rw [← em0] at hR0
  obtain ⟨n, w, hN, hP⟩ := Rl_net hR0
  have hw := hN.2.1
  have hk := kept10 hw
  obtain ⟨Z, hZ⟩ := hR0.2.2.2.1
  have hS := sen_fun hZ
  generalize (fun k => (hx.1 18 k).toNatClampNeg) = A at hS
  generalize (fun k => (hx.1 19 k).toNatClampNeg) = R at hS
  generalize (fun k => (hx.1 20 k).toNatClampNeg) = Q at hS
  have hin := r_inv hv 0 1
  rw [i64_0, i64_1] at hin
  unfold f_X7_began f_X8_began
  simp only [tr_bd]
  rw [← em0, hin, tr_bn_some]
  by_cases c : 0 ≤ v ∧ v ≤ 1
  · -- the class
    obtain ⟨x1, a1, a2⟩ := w_kept hN (p := 10) (by omega) (by omega)
    rw [if_pos hk.1] at a1
    have hN1 := tN_fr a2 (by simp) (by simp) hN
    obtain ⟨x2, c1, c2, c3⟩ := w_set hN1 hk
    have f2 : fr [22, 24, 25] hx x2 := fr_tr (fr_up a2 (by simp)) (fr_up c2 (by simp))
    have hN2 := tN_fr f2 (by simp) (by simp) hN
    have hS2 : seeN x2 m0 Z A R Q := seeN_x (f2.1 17 (by decide)) (f2.1 18 (by decide)) (f2.1 19 (by decide)) (f2.1 20 (by decide)) hS
    obtain ⟨x3, d1, d2⟩ := w_beganA hN2 hS2 c3
    have hX : f_X7_began_J12 hx (iI v) = some (if v = 0 then iI (bgA n w Z A R Q n).2 else iI (bgA n w Z A R Q n).1, x3) := by
      unfold f_X7_began_J12
      rw [iI_10, a1, tr_b2_some, if_neg n10, c1, tr_bn_some, show ((-9 : Int32), (0 : Int32), (0 : Int32), x2) = (iI (-9), iI 0, iI (0 : Nat), x2) from rfl, d1, tr_bn_some]
      unfold f_X7_began_E141 f_X7_began_J141
      by_cases e : v = 0
      · rw [if_pos (show iI v = 0 by rw [e]; rfl), if_pos e]
      · rw [if_neg (show ¬ iI v = 0 by rw [iI_0, iI_eq (by omega) (by omega) (by omega) (by omega)]; exact e), if_neg e]
    have hX2 : (if iI v = 0 then f_X7_began_J12 hx (iI v) else if iI v = 1 then f_X7_began_J12 hx (iI v) else some (-2, hx)) = f_X7_began_J12 hx (iI v) := by
      by_cases e : v = 0
      · rw [if_pos (show iI v = 0 by rw [e]; rfl)]
      · rw [if_neg (show ¬ iI v = 0 by rw [iI_0, iI_eq (by omega) (by omega) (by omega) (by omega)]; exact e), if_pos (show iI v = 1 by rw [show v = 1 by omega]; rfl)]
    -- the reference
    have g1 : gM m0 (tr_si (tr_si m0 0 28 0) 0 29 (-9)) := gM_tr (gM_0 _ _ (by omega)) (gM_0 _ _ (by omega))
    have z28 : (tr_si (tr_si m0 0 28 0) 0 29 (-9)).1 0 28 = iI 0 := by rw [si_n _ _ _ (by decide), si_s]; rfl
    have z29 : (tr_si (tr_si m0 0 28 0) 0 29 (-9)).1 0 29 = iI (-9) := by rw [si_s]; rfl
    generalize tr_si (tr_si m0 0 28 0) 0 29 (-9) = m1 at g1 z28 z29
    have hP1 := tP_M g1 hP
    obtain ⟨m2, e1, e2, e3⟩ := r_set hP1 hk
    have hP2 := tP_fr e2 (by simp) hP1
    have g2 : gM m0 m2 := gM_tr g1 (gM_f e2 (by decide) (by decide))
    have hSm : seeN hx m2 Z A R Q := seeN_m (g2.2.1 12 (by omega)) (g2.1 8 (by decide)) (g2.1 9 (by decide)) (g2.1 10 (by decide)) hS
    obtain ⟨m3, j1, j2⟩ := r_beganA hP2 e3 hSm (h1 := m2) ⟨fun _ _ _ _ => rfl, fun _ _ _ => rfl, rfl, by rw [e2.1 0 (by decide)]; exact z28, by rw [e2.1 0 (by decide)]; exact z29⟩
    have g3 : gM m2 m3 := ⟨fun c hc => j2.1 c (by rintro rfl; simp at hc) (by rintro rfl; simp at hc) (by rintro rfl; simp at hc), fun k hk => j2.2.1 k (by omega) (by omega), by rw [j2.2.2.1]⟩
    refine ⟨if v = 0 then iI (bgA n w Z A R Q n).2 else iI (bgA n w Z A R Q n).1, x3, m3, by rw [hX2, hX], ?_, Rl_fr (fr_tr (fr_up f2 (by decide)) (fr_up d2 (by decide))) (gM_tr g2 g3) hR0⟩
    rw [if_pos c, if_neg n10, iI_10, e1, tr_bn_some, show ((0 : Int32), m2) = (iI (0 : Nat), m2) from rfl, j1, tr_bn_some]
    unfold f_X8_began_E127
    rw [j2.2.2.2.1, j2.2.2.2.2]
    by_cases e : v = 0
    · rw [if_pos (show iI v = 0 by rw [e]; rfl), if_pos e]
    · rw [if_neg (show ¬ iI v = 0 by rw [iI_0, iI_eq (by omega) (by omega) (by omega) (by omega)]; exact e), if_neg e]
  · rw [if_neg c, if_pos z00, if_neg (show ¬ iI v = 0 by rw [iI_0, iI_eq (by omega) (by omega) (by omega) (by omega)]; omega), if_neg (show ¬ iI v = 1 by rw [iI_1, iI_eq (by omega) (by omega) (by omega) (by omega)]; omega)]
    exact ⟨_, _, _, rfl, rfl, hR0⟩
