/-! what holds between the two heaps of numbers, between calls -/
theorem ex_iI (x : Int32) : ∃ v : Int, (-2147483648 ≤ v ∧ v < 2147483648) ∧ x = iI v := ⟨x.toInt, ⟨iI_lo _, iI_hi _⟩, iI_to _⟩
def bkP (h : tr_H) (cl o n : Nat) (w : Nat → Int) : Prop := h.1 cl o = iI n ∧ ∀ c, c < 36 → h.1 cl (o + (1 + c)) = iI (cvn (w c))
def dgs (hx hm : tr_H) (n : Nat) (w : Nat → Int) (D : Nat) (W : Nat → Nat → Int) : Prop :=
  D ≤ 14 ∧ hx.1 13 3 = iI D ∧ hm.1 0 9 = iI D ∧ W D = w ∧ ∀ k, k < D → okn n (W k) ∧ (∃ a b, a < n ∧ b < n ∧ hx.1 14 k = iI a ∧ hx.1 15 k = iI b ∧ hx.1 16 k = iI (W k (6 * a + b)) ∧ W k = wup (W (k + 1)) (6 * a + b) (W k (6 * a + b))) ∧ bkP hm 5 (37 * k) n (W k)
def slo (hx hm : tr_H) : Prop := ∀ s, s < 2 → hm.1 7 s = hx.1 11 s ∧ (hx.1 11 s = 0 ∨ (hx.1 11 s = 1 ∧ ∃ n w, tN hx (6 + 2 * s) n w ∧ bkP hm 6 (37 * s) n w))
def sen (hx hm : tr_H) (Z : Nat) : Prop := Z ≤ 6 ∧ hx.1 17 3 = iI Z ∧ hm.1 0 12 = iI Z ∧ ∀ k, k < Z → ∃ a r q : Nat, (a < 6 ∧ 1 ≤ r ∧ r ≤ 9 ∧ q ≤ 1) ∧ (hx.1 18 k = iI a ∧ hx.1 19 k = iI r ∧ hx.1 20 k = iI q) ∧ hm.1 8 k = iI a ∧ hm.1 9 k = iI r ∧ hm.1 10 k = iI q
def txt (hx hm : tr_H) (L : Nat) (tx : Nat → Int) : Prop := (L ≤ 64 ∧ ∀ k, k < L → 0 ≤ tx k ∧ tx k ≤ 255) ∧ (hx.1 0 11 = iI L ∧ ∀ k, k < L → hx.1 1 k = iI (tx k)) ∧ txM hm L tx
def Rl (hx hm : tr_H) : Prop := (∃ n w, (tN hx 2 n w ∧ tP hm 3 n w) ∧ ∃ D W, dgs hx hm n w D W) ∧ (∃ L tx, txt hx hm L tx) ∧ slo hx hm ∧ (∃ Z, sen hx hm Z) ∧ hx.2 0 12 = hm.2 0 16
/-! cells that only one call uses -/
def LX : List Nat := [4, 5, 12, 21, 22, 23, 24, 25, 26, 27, 28, 29, 30]
def gM (h h' : tr_H) : Prop := (∀ c, c ∉ [0, 2, 4, 11, 12, 13, 14, 15, 16] → h'.1 c = h.1 c) ∧ (∀ k, k = 2 ∨ k = 9 ∨ k = 12 → h'.1 0 k = h.1 0 k) ∧ h'.2 0 16 = h.2 0 16
theorem gM_rf (h : tr_H) : gM h h := ⟨fun _ _ => rfl, fun _ _ => rfl, rfl⟩
theorem gM_tr {a b c : tr_H} (h1 : gM a b) (h2 : gM b c) : gM a c := ⟨fun k hk => (h2.1 k hk).trans (h1.1 k hk), fun k hk => (h2.2.1 k hk).trans (h1.2.1 k hk), h2.2.2.trans h1.2.2⟩
theorem gM_R {a b : tr_H} (h : mR a b) : gM a b := ⟨fun c hc => h.1 c (by rintro rfl; simp at hc) (by rintro rfl; simp at hc) (by rintro rfl; simp at hc), fun k hk => h.2.1 k (by omega) (by omega) (by omega) (by omega), h.2.2 0 16 (by omega)⟩
theorem gM_g {a b : tr_H} (h : gR a b) : gM a b := ⟨fun c hc => h.1 c (by rintro rfl; simp at hc) (by rintro rfl; simp at hc), fun k hk => h.2.1 k (by omega) (by omega), by rw [h.2.2]⟩
theorem gM_f {L : List Nat} {a b : tr_H} (h : fr L a b) (h0 : 0 ∉ L) (hL : ∀ x, x ∈ L → x ∈ [0, 2, 4, 11, 12, 13, 14, 15, 16]) : gM a b := ⟨fun c hc => h.1 c (fun q => hc (hL c q)), fun k _ => by rw [h.1 0 h0], by rw [h.2]⟩
theorem gM_0 (h : tr_H) {k : Nat} (v : Int32) (hk : k = 0 ∨ k = 3 ∨ k = 4 ∨ (17 ≤ k ∧ k ≤ 22) ∨ k = 28 ∨ k = 29) : gM h (tr_si h 0 k v) := ⟨fun c hc => si_c _ _ _ (by rintro rfl; simp at hc), fun j hj => si_n _ _ _ (by omega), rfl⟩
theorem tP_M {h h' : tr_H} {n : Nat} {w : Nat → Int} (hg : gM h h') (hP : tP h 3 n w) : tP h' 3 n w := by
  obtain ⟨a, b, c, d⟩ := hP
  exact ⟨a, b, by rw [hg.1 3 (by decide)]; exact c, fun k hk => by rw [hg.1 3 (by decide)]; exact d k hk⟩
theorem dgs_c {hx hx' hm hm' : tr_H} {n : Nat} {w : Nat → Int} {D : Nat} {W : Nat → Nat → Int} (e1 : hx'.1 13 = hx.1 13) (e2 : hx'.1 14 = hx.1 14) (e3 : hx'.1 15 = hx.1 15) (e4 : hx'.1 16 = hx.1 16) (e5 : hm'.1 0 9 = hm.1 0 9) (e6 : hm'.1 5 = hm.1 5) (h : dgs hx hm n w D W) : dgs hx' hm' n w D W := by
  unfold dgs bkP at h ⊢
  rw [e1, e2, e3, e4, e5, e6]
  exact h
theorem slo_c {hx hx' hm hm' : tr_H} (e0 : hx'.1 11 = hx.1 11) (e1 : hx'.1 6 = hx.1 6) (e2 : hx'.1 7 = hx.1 7) (e3 : hx'.1 8 = hx.1 8) (e4 : hx'.1 9 = hx.1 9) (e5 : hm'.1 7 = hm.1 7) (e6 : hm'.1 6 = hm.1 6) (h : slo hx hm) : slo hx' hm' := by
  intro s hs
  obtain ⟨h1, h2⟩ := h s hs
  rw [e0, e5]
  refine ⟨h1, h2.imp id ?_⟩
  rintro ⟨h3, n, w, h4, h5⟩
  refine ⟨h3, n, w, ?_, by unfold bkP at h5 ⊢; rw [e6]; exact h5⟩
  have q1 : hx'.1 (6 + 2 * s) = hx.1 (6 + 2 * s) ∧ hx'.1 (6 + 2 * s + 1) = hx.1 (6 + 2 * s + 1) := by
    rcases (show s = 0 ∨ s = 1 by omega) with rfl | rfl
    · exact ⟨e1, e2⟩
    · exact ⟨e3, e4⟩
  obtain ⟨a, b, c, d⟩ := h4
  exact ⟨a, b, by rw [q1.1]; exact c, fun k hk => by rw [q1.2]; exact d k hk⟩
theorem sen_c {hx hx' hm hm' : tr_H} {Z : Nat} (e1 : hx'.1 17 = hx.1 17) (e2 : hx'.1 18 = hx.1 18) (e3 : hx'.1 19 = hx.1 19) (e4 : hx'.1 20 = hx.1 20) (e5 : hm'.1 0 12 = hm.1 0 12) (e6 : hm'.1 8 = hm.1 8) (e7 : hm'.1 9 = hm.1 9) (e8 : hm'.1 10 = hm.1 10) (h : sen hx hm Z) : sen hx' hm' Z := by
  unfold sen at h ⊢
  rw [e1, e2, e3, e4, e5, e6, e7, e8]
  exact h
theorem txt_c {hx hx' hm hm' : tr_H} {L : Nat} {tx : Nat → Int} (e1 : hx'.1 0 11 = hx.1 0 11) (e2 : hx'.1 1 = hx.1 1) (e3 : hm'.1 0 2 = hm.1 0 2) (e4 : hm'.1 1 = hm.1 1) (h : txt hx hm L tx) : txt hx' hm' L tx := by
  unfold txt txM at h ⊢
  rw [e1, e2, e3, e4]
  exact h
/-- a call that leaves all but its own cells -/
theorem Rl_fr {hx gx hm gm : tr_H} (f1 : fr LX hx gx) (f2 : gM hm gm) (h : Rl hx hm) : Rl gx gm := by
  obtain ⟨⟨n, w, ⟨h1, h2⟩, D, W, h3⟩, ⟨L, tx, h4⟩, h5, ⟨Z, h6⟩, h7⟩ := h
  have c := fun (k : Nat) (hk : k ∉ LX) => f1.1 k hk
  have m := fun (k : Nat) (hk : k ∉ [0, 2, 4, 11, 12, 13, 14, 15, 16]) => f2.1 k hk
  refine ⟨⟨n, w, ⟨tN_fr f1 (by decide) (by decide) h1, tP_M f2 h2⟩, D, W, dgs_c (c 13 (by decide)) (c 14 (by decide)) (c 15 (by decide)) (c 16 (by decide)) (f2.2.1 9 (by omega)) (m 5 (by decide)) h3⟩, ⟨L, tx, txt_c (by rw [c 0 (by decide)]) (c 1 (by decide)) (f2.2.1 2 (by omega)) (m 1 (by decide)) h4⟩, slo_c (c 11 (by decide)) (c 6 (by decide)) (c 7 (by decide)) (c 8 (by decide)) (c 9 (by decide)) (m 7 (by decide)) (m 6 (by decide)) h5, ⟨Z, sen_c (c 17 (by decide)) (c 18 (by decide)) (c 19 (by decide)) (c 20 (by decide)) (f2.2.1 12 (by omega)) (m 8 (by decide)) (m 9 (by decide)) (m 10 (by decide)) h6⟩, ?_⟩
  rw [f1.2, f2.2.2]
  exact h7
theorem Rl_0 {hx hm : tr_H} (h : Rl hx hm) : Rl hx (tr_si hm 0 0 0) := Rl_fr (fr_rf _ _) (gM_0 _ _ (by omega)) h
theorem Rl_net {hx hm : tr_H} (h : Rl hx hm) : ∃ n w, tN hx 2 n w ∧ tP hm 3 n w := by
  obtain ⟨⟨n, w, h1, -⟩, -⟩ := h
  exact ⟨n, w, h1⟩
/-! small rows -/
theorem r_inv {v : Int} (hv : -2147483648 ≤ v ∧ v < 2147483648) (a b : Int64) : f_X8_in ((iI v : Int32).toInt64) a b = some (if a.toInt ≤ v ∧ v ≤ b.toInt then 1 else 0) := by
  rw [r_in, Int32.toInt_toInt64, iI_in hv.1 hv.2]
theorem r_nod {h : tr_H} {n : Nat} {w : Nat → Int} (hP : tP h 3 n w) {v : Int} (hv : -2147483648 ≤ v ∧ v < 2147483648) : f_X8_noDeparture (iI v) h = some (if 0 ≤ v ∧ v < n then 0 else 1) := by
  rw [r_noDep hP, iI_in hv.1 hv.2]
theorem i64_0 : (0 : Int64).toInt = 0 := by decide
theorem i64_1 : (1 : Int64).toInt = 1 := by decide
theorem i64_4 : (4 : Int64).toInt = 4 := by decide
theorem i64_9 : (9 : Int64).toInt = 9 := by decide
theorem i64_10 : (10 : Int64).toInt = 10 := by decide
theorem i64_20 : (20 : Int64).toInt = 20 := by decide
theorem i64_30 : (30 : Int64).toInt = 30 := by decide
theorem i64_40 : (40 : Int64).toInt = 40 := by decide
theorem i64_255 : (255 : Int64).toInt = 255 := by decide
theorem n10 : ¬ (1 : Int32) = 0 := by decide
/-! the calls, one by one: the text -/
theorem s_write : ∀ (v0 : Int32) (hx hm : tr_H), Rl hx hm → ∃ (r0 : Int32) (gx gm : tr_H), f_X7_write v0 hx = some (r0, gx) ∧ f_X8_write v0 hm = some (r0, gm) ∧ Rl gx gm := by
  intro v0 hx hm hR
  obtain ⟨v, hv, rfl⟩ := ex_iI v0
  have hR0 := Rl_0 hR
  obtain ⟨m0, em0⟩ : ∃ m0, m0 = tr_si hm 0 0 0 := ⟨_, rfl⟩
  have hin := r_inv hv 0 255
  rw [i64_0, i64_255] at hin
  unfold f_X7_write f_X8_write
  simp only [tr_bd]
  rw [← em0, hin, tr_bn_some]
  rw [← em0] at hR0
  by_cases c : 0 ≤ v ∧ v ≤ 255
  · obtain ⟨k1, ⟨L, tx, ⟨⟨t1, t2⟩, ⟨t3, t4⟩, t5, t6⟩⟩, k3, k4, k5⟩ := hR0
    rw [if_pos c, if_neg n10, if_neg (show ¬ iI v < 0 by rw [iI_0, iI_lt (by omega) (by omega) (by omega) (by omega)]; omega), if_pos (show iI v ≤ 255 by rw [iI_255, iI_le (by omega) (by omega) (by omega) (by omega)]; omega), t3, t5, if_neg (show ¬ iI (L : Int) < 0 by rw [iI_0, iI_lt (by omega) (by omega) (by omega) (by omega)]; omega)]
    by_cases c2 : L < 64
    · rw [if_pos (show iI (L : Int) < 64 by rw [iI_64, iI_lt (by omega) (by omega) (by omega) (by omega)]; omega), if_neg (show ¬ iI (L : Int) = 64 by rw [iI_64, iI_eq (by omega) (by omega) (by omega) (by omega)]; omega), tr_gdI (by omega) (by omega) (by omega), tr_gdI (by omega) (by omega) (by omega), iI_ix (by omega), si_c _ _ _ (show (0 : Nat) ≠ 1 by decide), si_c _ _ _ (show (0 : Nat) ≠ 1 by decide), t3, t5, iI_1, iI_add, si_s, si_s, show (L : Int) + 1 = ((L + 1 : Nat) : Int) from rfl]
      refine ⟨_, _, _, rfl, rfl, ?_⟩
      obtain ⟨n, w, ⟨h1, h2⟩, D, W, h3⟩ := k1
      obtain ⟨Z, k4⟩ := k4
      refine ⟨⟨n, w, ⟨?_, ?_⟩, D, W, dgs_c ?_ ?_ ?_ ?_ ?_ ?_ h3⟩, ⟨L + 1, fun k => if k = L then v else tx k, ⟨by omega, fun k hk => ?_⟩, ⟨by rw [si_s], fun k hk => ?_⟩, by rw [si_s], fun k hk => ?_⟩, slo_c ?_ ?_ ?_ ?_ ?_ ?_ ?_ k3, ⟨Z, sen_c ?_ ?_ ?_ ?_ ?_ ?_ ?_ ?_ k4⟩, k5⟩
      · exact tN_fr (L := [0, 1]) (fr_tr (fr_si _ _ _ (by simp)) (fr_si _ _ _ (by simp))) (by simp) (by simp) h1
      · exact tP_fr (L := [0, 1]) (fr_tr (fr_si _ _ _ (by simp)) (fr_si _ _ _ (by simp))) (by simp) h2
      all_goals first
        | (rw [si_c _ _ _ (by decide), si_c _ _ _ (by decide)]; done)
        | (rw [si_n _ _ _ (by decide), si_c _ _ _ (by decide)]; done)
        | (by_cases e : k = L
           · simp [e]; omega
           · have := t2 k (by omega); simp [e]; omega)
        | (rw [si_c _ _ _ (show (1 : Nat) ≠ 0 by decide)]
           by_cases e : k = L
           · rw [e, si_s]; simp
           · rw [si_n _ _ _ e]; simp only [e, if_false]; first | exact t4 k (by omega) | exact t6 k (by omega))
    · obtain rfl : L = 64 := by omega
      rw [if_neg (show ¬ iI ((64 : Nat) : Int) < 64 by decide), if_pos (show iI ((64 : Nat) : Int) = 64 from rfl)]
      exact ⟨_, _, _, rfl, rfl, k1, ⟨64, tx, ⟨t1, t2⟩, ⟨t3, t4⟩, t5, t6⟩, k3, k4, k5⟩
  · rw [if_neg c, if_pos rfl]
    refine ⟨-2, hx, m0, ?_, rfl, hR0⟩
    by_cases c2 : v < 0
    · rw [if_pos (show iI v < 0 by rw [iI_0, iI_lt (by omega) (by omega) (by omega) (by omega)]; omega)]
    · rw [if_neg (show ¬ iI v < 0 by rw [iI_0, iI_lt (by omega) (by omega) (by omega) (by omega)]; omega), if_neg (show ¬ iI v ≤ 255 by rw [iI_255, iI_le (by omega) (by omega) (by omega) (by omega)]; omega)]
theorem s_wipe : ∀ (hx hm : tr_H), Rl hx hm → ∃ (r0 : Int32) (gx gm : tr_H), f_X7_wipe hx = some (r0, gx) ∧ f_X8_wipe hm = some (r0, gm) ∧ Rl gx gm := by
  intro hx hm hR
  have hR0 := Rl_0 hR
  obtain ⟨m0, em0⟩ : ∃ m0, m0 = tr_si hm 0 0 0 := ⟨_, rfl⟩
  unfold f_X7_wipe f_X8_wipe
  simp only [tr_bd]
  rw [← em0]
  rw [← em0] at hR0
  obtain ⟨⟨n, w, ⟨h1, h2⟩, D, W, h3⟩, ⟨L, tx, ⟨⟨t1, t2⟩, ⟨t3, t4⟩, t5, t6⟩⟩, k3, ⟨Z, k4⟩, k5⟩ := hR0
  rw [t3, t5]
  refine ⟨_, _, _, rfl, rfl, ?_⟩
  refine ⟨⟨n, w, ⟨tN_fr (L := [0]) (fr_si _ _ _ (by simp)) (by simp) (by simp) h1, tP_fr (L := [0]) (fr_si _ _ _ (by simp)) (by simp) h2⟩, D, W, dgs_c ?_ ?_ ?_ ?_ ?_ ?_ h3⟩, ⟨0, tx, ⟨by omega, fun k hk => by omega⟩, ⟨by rw [si_s]; rfl, fun k hk => by omega⟩, by rw [si_s]; rfl, fun k hk => by omega⟩, slo_c ?_ ?_ ?_ ?_ ?_ ?_ ?_ k3, ⟨Z, sen_c ?_ ?_ ?_ ?_ ?_ ?_ ?_ ?_ k4⟩, k5⟩
  all_goals first
    | (rw [si_c _ _ _ (by decide)]; done)
    | (rw [si_n _ _ _ (by decide)]; done)
theorem s_fault : ∀ (hx hm : tr_H), Rl hx hm → ∃ (r0 : Int32) (gx gm : tr_H), f_X7_fault hx = some (r0, gx) ∧ f_X8_fault hm = some (r0, gm) ∧ Rl gx gm := by
  intro hx hm hR
  have hR0 := Rl_0 hR
  obtain ⟨m0, em0⟩ : ∃ m0, m0 = tr_si hm 0 0 0 := ⟨_, rfl⟩
  rw [← em0] at hR0
  obtain ⟨L, tx, ⟨⟨t1, t2⟩, ⟨t3, t4⟩, t5⟩⟩ := hR0.2.1
  obtain ⟨r, gx, gm, k1, k2, k3, k4, -⟩ := rd_all t1 t2 t4 t5
  refine ⟨iI r, gx, gm, ?_, ?_, Rl_fr (fr_up k3 (by decide)) (gM_g k4) hR0⟩
  · unfold f_X7_fault
    rw [t3, k1]
    rfl
  · unfold f_X8_fault
    simp only [tr_bd]
    rw [← em0, k2]
    rfl
theorem s_minutes : ∀ (v0 : Int32) (v1 : Int32) (hx hm : tr_H), Rl hx hm → ∃ (r0 : Int32) (_gx gm : tr_H), f_X7_minutes v0 v1 hx = some r0 ∧ f_X8_minutes v0 v1 hm = some (r0, gm) ∧ Rl hx gm := by
  intro v0 v1 hx hm hR
  obtain ⟨v, hv, rfl⟩ := ex_iI v0
  obtain ⟨u, hu, rfl⟩ := ex_iI v1
  have hR0 := Rl_0 hR
  obtain ⟨m0, em0⟩ : ∃ m0, m0 = tr_si hm 0 0 0 := ⟨_, rfl⟩
  rw [← em0] at hR0
  obtain ⟨n, w, hN, hP⟩ := Rl_net hR0
  have h6 := hN.2.1.2.1
  unfold f_X7_minutes f_X8_minutes
  simp only [tr_bd]
  rw [← em0, n_has hN hv.1 hv.2, n_has hN hu.1 hu.2, r_nod hP hv, r_nod hP hu, n_of hN hv.1 hv.2 hu.1 hu.2]
  simp only [tr_bn_some]
  by_cases c1 : 0 ≤ v ∧ v < n
  · by_cases c2 : 0 ≤ u ∧ u < n
    · obtain ⟨a, rfl⟩ : ∃ a : Nat, v = (a : Int) := ⟨v.toNat, by omega⟩
      obtain ⟨b, rfl⟩ : ∃ b : Nat, u = (b : Int) := ⟨u.toNat, by omega⟩
      rw [if_pos c1, if_pos c1, if_pos c2, if_pos c2, if_neg n10, if_neg n10, if_pos rfl, if_pos rfl, woI_in (by omega) (by omega), r_isThere hP (i := a) (j := b) (by omega) (by omega), tr_bn_some, r_minutesOf hP (i := a) (j := b) (by omega) (by omega), tr_bn_some]
      have b3 := cvn_b hN.2.1 (c := 6 * a + b) (by omega)
      refine ⟨_, hx, m0, rfl, ?_, hR0⟩
      by_cases c3 : w (6 * a + b) = -9
      · rw [if_pos c3, if_pos rfl, c3]
        rfl
      · rw [if_neg c3, if_neg n10, b3.2.2.2 c3, show w (6 * a + b) + 1 - 1 = w (6 * a + b) by omega]
    · rw [if_pos c1, if_pos c1, if_neg c2, if_neg c2, if_neg n10, if_pos rfl, if_pos rfl, if_neg n10]
      exact ⟨_, hx, m0, rfl, rfl, hR0⟩
  · rw [if_neg c1, if_neg c1, if_pos rfl, if_neg n10]
    exact ⟨_, hx, m0, rfl, rfl, hR0⟩
/-! what is seen, the seed -/
theorem s_see : ∀ (v0 : Int32) (v1 : Int32) (v2 : Int32) (hx hm : tr_H), Rl hx hm → ∃ (r0 : Int32) (gx gm : tr_H), f_X7_see v0 v1 v2 hx = some (r0, gx) ∧ f_X8_see v0 v1 v2 hm = some (r0, gm) ∧ Rl gx gm := by
  intro v0 v1 v2 hx hm hR
  obtain ⟨v, hv, rfl⟩ := ex_iI v0
  obtain ⟨u, hu, rfl⟩ := ex_iI v1
  obtain ⟨t, ht, rfl⟩ := ex_iI v2
  have hR0 := Rl_0 hR
  obtain ⟨m0, em0⟩ : ∃ m0, m0 = tr_si hm 0 0 0 := ⟨_, rfl⟩
  rw [← em0] at hR0
  obtain ⟨n, w, hN, hP⟩ := Rl_net hR0
  have h6 := hN.2.1.2.1
  have i1 := r_inv hu 1 9
  have i2 := r_inv ht 0 1
  rw [i64_1, i64_9] at i1
  rw [i64_0, i64_1] at i2
  unfold f_X7_see f_X8_see
  simp only [tr_bd]
  rw [← em0, n_has hN hv.1 hv.2, r_nod hP hv, i1, i2]
  simp only [tr_bn_some]
  by_cases c1 : 0 ≤ v ∧ v < n
  · rw [if_pos c1, if_pos c1, if_neg n10, if_pos rfl]
    by_cases c2 : 1 ≤ u ∧ u ≤ 9
    · rw [if_pos c2, if_neg n10, if_neg (show ¬ iI u < 1 by rw [iI_1, iI_lt (by omega) (by omega) (by omega) (by omega)]; omega), if_neg (show ¬ 9 < iI u by rw [iI_9, iI_lt (by omega) (by omega) (by omega) (by omega)]; omega)]
      by_cases c3 : 0 ≤ t ∧ t ≤ 1
      · rw [if_pos c3, if_neg n10, if_neg (show ¬ iI t < 0 by rw [iI_0, iI_lt (by omega) (by omega) (by omega) (by omega)]; omega), if_pos (show iI t ≤ 1 by rw [iI_1, iI_le (by omega) (by omega) (by omega) (by omega)]; omega)]
        obtain ⟨a, rfl⟩ : ∃ a : Nat, v = (a : Int) := ⟨v.toNat, by omega⟩
        obtain ⟨r, rfl⟩ : ∃ r : Nat, u = (r : Int) := ⟨u.toNat, by omega⟩
        obtain ⟨q, rfl⟩ : ∃ q : Nat, t = (q : Int) := ⟨t.toNat, by omega⟩
        have hR1 := hR0
        obtain ⟨⟨n', w', ⟨h1, h2⟩, D, W, h3⟩, ⟨L, tx, k2⟩, k3, ⟨Z, z1, z2, z3, z4⟩, k5⟩ := hR1
        unfold f_X5_add
        rw [z2, z3, if_neg (show ¬ iI (Z : Int) < 0 by rw [iI_0, iI_lt (by omega) (by omega) (by omega) (by omega)]; omega)]
        by_cases c4 : Z < 6
        · rw [if_pos (show iI (Z : Int) < 6 by rw [iI_6, iI_lt (by omega) (by omega) (by omega) (by omega)]; omega), if_neg (show ¬ iI (Z : Int) = 6 by rw [iI_6, iI_eq (by omega) (by omega) (by omega) (by omega)]; omega)]
          simp (disch := omega) only [tr_bd, tr_gdI, iI_ix, si_c, z2, z3]
          rw [tr_b2_some, if_neg n10, si_s, si_s, iI_1, iI_add]
          refine ⟨_, _, _, rfl, rfl, ?_⟩
          refine ⟨⟨n', w', ⟨tN_fr (L := [17, 18, 19, 20]) (fr_tr (fr_tr (fr_tr (fr_si _ _ _ (by simp)) (fr_si _ _ _ (by simp))) (fr_si _ _ _ (by simp))) (fr_si _ _ _ (by simp))) (by simp) (by simp) h1, tP_fr (L := [0, 8, 9, 10]) (fr_tr (fr_tr (fr_tr (fr_si _ _ _ (by simp)) (fr_si _ _ _ (by simp))) (fr_si _ _ _ (by simp))) (fr_si _ _ _ (by simp))) (by simp) h2⟩, D, W, dgs_c ?_ ?_ ?_ ?_ ?_ ?_ h3⟩, ⟨L, tx, txt_c ?_ ?_ ?_ ?_ k2⟩, slo_c ?_ ?_ ?_ ?_ ?_ ?_ ?_ k3, ⟨Z + 1, by omega, by rw [si_s]; rfl, by rw [si_s]; rfl, fun k hk => ?_⟩, k5⟩
          case refine_18 =>
            by_cases e : k = Z
            · subst e
              refine ⟨a, r, q, ⟨by omega, by omega, by omega, by omega⟩, ⟨?_, ?_, ?_⟩, ?_, ?_, ?_⟩
              all_goals simp (disch := decide) only [si_c, si_s]
            · obtain ⟨a', r', q', g1, ⟨g2, g3, g4⟩, g5, g6, g7⟩ := z4 k (by omega)
              refine ⟨a', r', q', g1, ⟨?_, ?_, ?_⟩, ?_, ?_, ?_⟩
              all_goals simp (disch := first | decide | exact e) only [si_c, si_n]
              all_goals assumption
          all_goals simp (disch := decide) only [si_c, si_n]
        · obtain rfl : Z = 6 := by omega
          rw [if_neg (show ¬ iI ((6 : Nat) : Int) < 6 by decide), if_pos (show iI ((6 : Nat) : Int) = 6 from rfl), tr_b2_some, if_pos rfl]
          exact ⟨_, _, _, rfl, rfl, hR0⟩
      · rw [if_neg c3, if_pos rfl]
        refine ⟨-2, hx, m0, ?_, rfl, hR0⟩
        by_cases c4 : t < 0
        · rw [if_pos (show iI t < 0 by rw [iI_0, iI_lt (by omega) (by omega) (by omega) (by omega)]; omega)]
        · rw [if_neg (show ¬ iI t < 0 by rw [iI_0, iI_lt (by omega) (by omega) (by omega) (by omega)]; omega), if_neg (show ¬ iI t ≤ 1 by rw [iI_1, iI_le (by omega) (by omega) (by omega) (by omega)]; omega)]
    · rw [if_neg c2, if_pos rfl]
      refine ⟨-2, hx, m0, ?_, rfl, hR0⟩
      by_cases c4 : u < 1
      · rw [if_pos (show iI u < 1 by rw [iI_1, iI_lt (by omega) (by omega) (by omega) (by omega)]; omega)]
      · rw [if_neg (show ¬ iI u < 1 by rw [iI_1, iI_lt (by omega) (by omega) (by omega) (by omega)]; omega), if_pos (show 9 < iI u by rw [iI_9, iI_lt (by omega) (by omega) (by omega) (by omega)]; omega)]
  · rw [if_neg c1, if_neg c1, if_pos rfl, if_neg n10]
    exact ⟨_, hx, m0, rfl, rfl, hR0⟩
theorem s_unsee : ∀ (hx hm : tr_H), Rl hx hm → ∃ (r0 : Int32) (gx gm : tr_H), f_X7_unsee hx = some (r0, gx) ∧ f_X8_unsee hm = some (r0, gm) ∧ Rl gx gm := by
  intro hx hm hR
  have hR0 := Rl_0 hR
  obtain ⟨m0, em0⟩ : ∃ m0, m0 = tr_si hm 0 0 0 := ⟨_, rfl⟩
  unfold f_X7_unsee f_X8_unsee
  simp only [tr_bd]
  rw [← em0]
  rw [← em0] at hR0
  obtain ⟨⟨n, w, ⟨h1, h2⟩, D, W, h3⟩, ⟨L, tx, k2⟩, k3, ⟨Z, z1, z2, z3, z4⟩, k5⟩ := hR0
  rw [z2, z3]
  refine ⟨_, _, _, rfl, rfl, ?_⟩
  refine ⟨⟨n, w, ⟨tN_fr (L := [17]) (fr_si _ _ _ (by simp)) (by simp) (by simp) h1, tP_fr (L := [0]) (fr_si _ _ _ (by simp)) (by simp) h2⟩, D, W, dgs_c ?_ ?_ ?_ ?_ ?_ ?_ h3⟩, ⟨L, tx, txt_c ?_ ?_ ?_ ?_ k2⟩, slo_c ?_ ?_ ?_ ?_ ?_ ?_ ?_ k3, ⟨0, by omega, by rw [si_s]; rfl, by rw [si_s]; rfl, fun k hk => by omega⟩, k5⟩
  all_goals simp (disch := decide) only [si_c, si_n]
theorem s_seed : ∀ (v0 : Int64) (hx hm : tr_H), Rl hx hm → ∃ (r0 : Int64) (gx gm : tr_H), f_X7_seed v0 hx = some (r0, gx) ∧ f_X8_seed v0 hm = some (r0, gm) ∧ Rl gx gm := by
  intro v0 hx hm hR
  have hR0 := Rl_0 hR
  obtain ⟨m0, em0⟩ : ∃ m0, m0 = tr_si hm 0 0 0 := ⟨_, rfl⟩
  unfold f_X7_seed f_X8_seed
  simp only [tr_bd]
  rw [← em0]
  rw [← em0] at hR0
  obtain ⟨k1, k2, k3, k4, k5⟩ := hR0
  rw [k5]
  refine ⟨_, _, _, rfl, rfl, k1, k2, k3, k4, ?_⟩
  rw [sl_s, sl_s]
