/-! pasted from the given laws: lN under shifts and masks -/
theorem wb_tb (n : Nat) : (lN n).toBitVec = BitVec.ofNat 64 n := rfl
theorem wb_inj {a b : Int64} (h : a.toBitVec = b.toBitVec) : a = b := Int64.toBitVec_inj.mp h
theorem wb_tn {n : Nat} (h : n < 2 ^ 64) : (lN n).toBitVec.toNat = n := by rw [wb_tb, BitVec.toNat_ofNat, Nat.mod_eq_of_lt h]
theorem wb_of (x : Int64) : ∃ n, n < 2 ^ 64 ∧ x = lN n := ⟨x.toBitVec.toNat, x.toBitVec.isLt, wb_inj (by rw [wb_tb]; simp)⟩
theorem wb_of32 (x : Int32) : ∃ n, n < 2 ^ 32 ∧ x = nI n := ⟨x.toBitVec.toNat, x.toBitVec.isLt, Int32.toBitVec_inj.mp (by show _ = BitVec.ofNat 32 _; simp)⟩
theorem wb_c : ∀ k, k < 64 → ((nI k).toInt64 &&& 63) = lN k := by decide +kernel
theorem wb_cu : ∀ k, k < 64 → ((nI k).toInt64.toUInt64 &&& Int64.toUInt64 63) = UInt64.ofNat k := by decide +kernel
theorem wb_sm : ∀ k, k < 64 → (BitVec.ofNat 64 k).smod 64 = BitVec.ofNat 64 k := by decide +kernel
theorem wb_pw {a b : Nat} (h : a ≤ b) : 2 ^ b = 2 ^ a * 2 ^ (b - a) := by rw [← Nat.pow_add]; congr 1; omega
theorem wb_lt2 {a b : Nat} (h : a < b) : 2 ^ a < 2 ^ b := Nat.pow_lt_pow_right (by decide) h
theorem wb_mod (n : Nat) : lN n = lN (n % 2 ^ 64) := wb_inj (by rw [wb_tb, wb_tb]; apply BitVec.eq_of_toNat_eq; rw [BitVec.toNat_ofNat, BitVec.toNat_ofNat, Nat.mod_mod])
theorem wb_shr {n k : Nat} (hn : n < 2 ^ 64) (hk : k < 64) : ((lN n).toUInt64 >>> ((nI k).toInt64.toUInt64 &&& Int64.toUInt64 63)).toInt64 = lN (n / 2 ^ k) := by
  rw [wb_cu k hk]
  apply wb_inj
  apply BitVec.eq_of_toNat_eq
  show ((lN n).toUInt64 >>> UInt64.ofNat k).toNat = (BitVec.ofNat 64 _).toNat
  have h1 : (UInt64.ofNat k).toNat = k := by
    show (BitVec.ofNat 64 k).toNat = k
    rw [BitVec.toNat_ofNat, Nat.mod_eq_of_lt (by omega)]
  have h2 : (lN n).toUInt64.toNat = n := wb_tn hn
  rw [UInt64.toNat_shiftRight, h1, h2, Nat.mod_eq_of_lt hk, Nat.shiftRight_eq_div_pow, BitVec.toNat_ofNat, Nat.mod_eq_of_lt (Nat.lt_of_le_of_lt (Nat.div_le_self _ _) hn)]
theorem wb_shl (n : Nat) {k : Nat} (hk : k < 64) : lN n <<< ((nI k).toInt64 &&& 63) = lN (n * 2 ^ k) := by
  rw [wb_c k hk]
  apply wb_inj
  rw [Int64.toBitVec_shiftLeft, wb_tb, wb_tb, wb_tb, wb_sm k hk]
  apply BitVec.eq_of_toNat_eq
  rw [BitVec.shiftLeft_eq', BitVec.toNat_shiftLeft, BitVec.toNat_ofNat, BitVec.toNat_ofNat, BitVec.toNat_ofNat, Nat.mod_eq_of_lt (show k < 2 ^ 64 by omega), Nat.shiftLeft_eq, Nat.mul_mod, Nat.mod_mod, ← Nat.mul_mod]
theorem wb_and {a b : Nat} (ha : a < 2 ^ 64) (hb : b < 2 ^ 64) : lN a &&& lN b = lN (a &&& b) := by
  apply wb_inj
  rw [Int64.toBitVec_and, wb_tb, wb_tb, wb_tb]
  apply BitVec.eq_of_toNat_eq
  rw [BitVec.toNat_and, BitVec.toNat_ofNat, BitVec.toNat_ofNat, BitVec.toNat_ofNat, Nat.mod_eq_of_lt ha, Nat.mod_eq_of_lt hb, Nat.mod_eq_of_lt (Nat.and_lt_two_pow _ hb)]
theorem wb_or {a b : Nat} (ha : a < 2 ^ 64) (hb : b < 2 ^ 64) : lN a ||| lN b = lN (a ||| b) := by
  apply wb_inj
  rw [Int64.toBitVec_or, wb_tb, wb_tb, wb_tb]
  apply BitVec.eq_of_toNat_eq
  rw [BitVec.toNat_or, BitVec.toNat_ofNat, BitVec.toNat_ofNat, BitVec.toNat_ofNat, Nat.mod_eq_of_lt ha, Nat.mod_eq_of_lt hb, Nat.mod_eq_of_lt (Nat.or_lt_two_pow ha hb)]
theorem wb_mask {n k : Nat} (hn : n < 2 ^ 64) (hk : k < 64) : lN n &&& lN (2 ^ k - 1) = lN (n % 2 ^ k) := by
  rw [wb_and hn (by have := wb_lt2 hk; omega), Nat.and_two_pow_sub_one_eq_mod]
theorem wb_a1 {n : Nat} (hn : n < 2 ^ 64) : lN n &&& 1 = lN (n % 2) := wb_mask (k := 1) hn (by decide)
theorem wb_bit {n k : Nat} (hn : n < 2 ^ 64) (hk : k < 64) : ((lN n).toUInt64 >>> ((nI k).toInt64.toUInt64 &&& Int64.toUInt64 63)).toInt64 &&& 1 = lN (n / 2 ^ k % 2) := by
  rw [wb_shr hn hk, wb_a1 (Nat.lt_of_le_of_lt (Nat.div_le_self _ _) hn)]
theorem pf_lI {a : Nat} (h : a < 2 ^ 63) : (lN a).toInt = (a : Int) := lg_ofNat_toInt h
theorem pf_shr {a d : Nat} {D : Int64} (hD : (D.toBitVec.smod 64).toNat = d) (h : a < 2 ^ 62) : lN a >>> D = lN (a / 2 ^ d) := by
  have hd : a / 2 ^ d ≤ a := Nat.div_le_self _ _
  apply Int64.toInt_inj.mp
  have e : (lN a >>> D).toInt = (lN a).toInt >>> d := by
    rw [← hD]
    exact BitVec.toInt_sshiftRight ..
  rw [e, Int.shiftRight_eq_div_pow, pf_lI (by omega), pf_lI (by omega)]
  rfl
/-! our own rows over them -/
theorem iI_nat (k : Nat) : iI (k : Int) = nI k := Int32.ofInt_eq_ofNat
theorem nI_or (a b : Nat) : nI a ||| nI b = nI (a ||| b) := Int32.toBitVec_inj.mp (by
  show BitVec.ofNat 32 a ||| BitVec.ofNat 32 b = BitVec.ofNat 32 (a ||| b)
  exact BitVec.ofNat_or.symm)
theorem lN_or (a b : Nat) : lN a ||| lN b = lN (a ||| b) := wb_inj (by
  show BitVec.ofNat 64 a ||| BitVec.ofNat 64 b = BitVec.ofNat 64 (a ||| b)
  exact BitVec.ofNat_or.symm)
theorem shl64 {k : Nat} (hk : k < 64) : (1 : Int64) <<< ((iI k).toInt64 &&& 63) = lN (2 ^ k) := by
  have h := wb_shl 1 hk
  rw [Nat.one_mul] at h
  rw [iI_nat]
  exact h
theorem shl32 : ∀ k : Nat, k < 6 → (1 : Int32) <<< (iI k &&& 31) = nI (2 ^ k) := by decide +kernel
theorem shr64 {a k : Nat} (hk : k < 64) (ha : a < 2 ^ 62) : lN a >>> ((iI k).toInt64 &&& 63) = lN (a / 2 ^ k) := by
  rw [iI_nat, wb_c k hk]
  refine pf_shr ?_ ha
  rw [wb_tb, wb_sm k hk, BitVec.toNat_ofNat]
  omega
theorem bit64 {a k : Nat} (hk : k < 64) (ha : a < 2 ^ 62) : (lN a >>> ((iI k).toInt64 &&& 63)) &&& 1 = lN (if a.testBit k then 1 else 0) := by
  have h1 : a / 2 ^ k ≤ a := Nat.div_le_self _ _
  rw [shr64 hk ha, wb_a1 (by omega), Nat.testBit_eq_decide_div_mod_eq]
  congr 1
  have h2 : a / 2 ^ k % 2 < 2 := Nat.mod_lt _ (by decide)
  by_cases c : a / 2 ^ k % 2 = 1
  · simp [c]
  · have : a / 2 ^ k % 2 = 0 := by omega
    simp [this]
theorem has32 : ∀ m : Nat, m < 64 → ∀ k : Nat, k < 6 → ((iI m >>> (iI k &&& 31)) &&& 1 = 1 ↔ m.testBit k = true) := by decide +kernel
theorem lg_lt {x y : Int64} : lg_cmp x y < 0 ↔ x.toInt < y.toInt := by
  unfold lg_cmp
  by_cases h1 : x > y
  · have h2 : y.toInt < x.toInt := Int64.lt_iff_toInt_lt.mp h1
    rw [if_pos h1]
    constructor
    · intro h; exact absurd h (by decide)
    · intro h; omega
  · have h2 : ¬ y.toInt < x.toInt := fun h => h1 (Int64.lt_iff_toInt_lt.mpr h)
    rw [if_neg h1]
    by_cases h3 : x = y
    · subst h3
      rw [if_pos rfl]
      constructor
      · intro h; exact absurd h (by decide)
      · intro h; omega
    · have h4 : x.toInt ≠ y.toInt := fun h => h3 (Int64.toInt_inj.mp h)
      rw [if_neg h3]
      constructor
      · intro _; omega
      · intro _; decide
theorem lg_gt {x y : Int64} : 0 < lg_cmp x y ↔ y.toInt < x.toInt := by
  unfold lg_cmp
  by_cases h1 : x > y
  · have h2 : y.toInt < x.toInt := Int64.lt_iff_toInt_lt.mp h1
    rw [if_pos h1]
    exact ⟨fun _ => h2, fun _ => by decide⟩
  · have h2 : ¬ y.toInt < x.toInt := fun h => h1 (Int64.lt_iff_toInt_lt.mpr h)
    rw [if_neg h1]
    by_cases h3 : x = y
    · rw [if_pos h3]
      exact ⟨fun h => absurd h (by decide), fun h => absurd h h2⟩
    · rw [if_neg h3]
      exact ⟨fun h => absurd h (by decide), fun h => absurd h h2⟩
theorem lg_le {x y : Int64} : lg_cmp x y ≤ 0 ↔ x.toInt ≤ y.toInt := by
  have h := lg_gt (x := x) (y := y)
  rw [← Int32.not_lt, h]
  omega
theorem r_in (x y z : Int64) : f_X8_in x y z = some (if y.toInt ≤ x.toInt ∧ x.toInt ≤ z.toInt then 1 else 0) := by
  unfold f_X8_in
  by_cases h1 : x.toInt < y.toInt
  · rw [if_pos (lg_lt.mpr h1), if_neg (by omega)]
  · rw [if_neg (fun h => h1 (lg_lt.mp h))]
    by_cases h2 : z.toInt < x.toInt
    · rw [if_pos (lg_gt.mpr h2), if_neg (by omega)]
    · rw [if_neg (fun h => h2 (lg_gt.mp h)), if_pos (by omega)]
/-- how many bits -/
def pcn (a : Nat) : Nat → Nat
  | 0 => 0
  | k + 1 => pcn a k + a / 2 ^ k % 2
theorem pcn_cnt (a k : Nat) : pcn a k = cnt (fun j => a.testBit j) k := by
  induction k with
  | zero => rfl
  | succ k ih =>
    unfold pcn cnt
    rw [ih]
    congr 1
    show _ = if a.testBit k = true then 1 else 0
    rw [Nat.testBit_eq_decide_div_mod_eq]
    have : a / 2 ^ k % 2 < 2 := Nat.mod_lt _ (by decide)
    by_cases c : a / 2 ^ k % 2 = 1
    · simp [c]
    · have h0 : a / 2 ^ k % 2 = 0 := by omega
      simp [h0]
theorem r_many {a K : Nat} (ha : a < 2 ^ K) (hK : K ≤ 60) : f_X8_many (lN a) = some (iI (pcn a K)) := by
  have ha2 : a < 2 ^ 62 := Nat.lt_of_lt_of_le ha (Nat.pow_le_pow_right (by decide) (by omega))
  -- the first place from which there is nothing left
  have hz : ∃ k, k ≤ K ∧ a / 2 ^ k = 0 ∧ ∀ j, j < k → 0 < a / 2 ^ j := by
    clear ha2 hK
    induction K generalizing a with
    | zero =>
      refine ⟨0, Nat.le_refl _, ?_, fun j hj => by omega⟩
      simp at ha
      subst ha
      rfl
    | succ K ih =>
      by_cases h0 : a = 0
      · subst h0
        exact ⟨0, by omega, by simp, fun j hj => by omega⟩
      · obtain ⟨k, g1, g2, g3⟩ := ih (a := a / 2) (by rw [Nat.pow_succ] at ha; omega)
        refine ⟨k + 1, by omega, ?_, fun j hj => ?_⟩
        · rw [Nat.pow_succ, Nat.mul_comm, ← Nat.div_div_eq_div_mul]; exact g2
        · cases j with
          | zero => simp; omega
          | succ j =>
            rw [Nat.pow_succ, Nat.mul_comm, ← Nat.div_div_eq_div_mul]
            exact g3 j (by omega)
  obtain ⟨k, g1, g2, g3⟩ := hz
  have hrest : ∀ d, pcn a (k + d) = pcn a k := by
    intro d
    induction d with
    | zero => rfl
    | succ d ih =>
      show pcn a (k + d) + a / 2 ^ (k + d) % 2 = pcn a k
      rw [ih, Nat.pow_add, ← Nat.div_div_eq_div_mul, g2]
      simp
  have hKk : pcn a K = pcn a k := by
    have := hrest (K - k)
    rw [show k + (K - k) = K by omega] at this
    exact this
  rw [hKk]
  unfold f_X8_many
  have hle : ∀ j, a / 2 ^ j < 2 ^ 62 := fun j => Nat.lt_of_le_of_lt (Nat.div_le_self _ _) ha2
  have key := tr_seq (f := fun q => f_X8_many_L4 q.1 q.2) (fun m => (iI (pcn a m), lN (a / 2 ^ m))) (lo := 0) (hi := k) (r := iI (pcn a k)) (by omega) ?_ ?_
  · have e : ((0 : Int32), lN a) = (iI (pcn a 0 : Nat), lN (a / 2 ^ 0)) := by simp only [pcn, Nat.pow_zero, Nat.div_one]; rfl
    rw [e, key]
    rfl
  · intro m _ hm
    have h1 := g3 m hm
    have h2 := hle m
    show f_X8_many_L4 (iI (pcn a m)) (lN (a / 2 ^ m)) = _
    unfold f_X8_many_L4
    rw [if_neg (fun h => by
      rw [lg_le, pf_lI (by omega)] at h
      have : (0 : Int64).toInt = 0 := by decide
      omega)]
    unfold tr_bd
    have e1 := shr64 (a := a / 2 ^ m) (k := 1) (by decide) (by omega)
    have e2 : ((1 : Int32).toInt64 &&& 63) = ((iI (1 : Nat)).toInt64 &&& 63) := rfl
    rw [wb_a1 (by omega), lN_i, e2, e1, Nat.div_div_eq_div_mul, ← Nat.pow_add, ← iI_nat, iI_add]
    rfl
  · show f_X8_many_L4 (iI (pcn a k)) (lN (a / 2 ^ k)) = _
    unfold f_X8_many_L4
    rw [g2]
    rfl
