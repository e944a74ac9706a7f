/-! whole numbers as ints of 32 bits -/
def iI (z : Int) : Int32 := Int32.ofInt z
theorem iI_0 : (0 : Int32) = iI 0 := by decide
theorem iI_1 : (1 : Int32) = iI 1 := by decide
theorem iI_2 : (2 : Int32) = iI 2 := by decide
theorem iI_3 : (3 : Int32) = iI 3 := by decide
theorem iI_4 : (4 : Int32) = iI 4 := by decide
theorem iI_5 : (5 : Int32) = iI 5 := by decide
theorem iI_6 : (6 : Int32) = iI 6 := by decide
theorem iI_7 : (7 : Int32) = iI 7 := by decide
theorem iI_8 : (8 : Int32) = iI 8 := by decide
theorem iI_9 : (9 : Int32) = iI 9 := by decide
theorem iI_10 : (10 : Int32) = iI 10 := by decide
theorem iI_11 : (11 : Int32) = iI 11 := by decide
theorem iI_12 : (12 : Int32) = iI 12 := by decide
theorem iI_14 : (14 : Int32) = iI 14 := by decide
theorem iI_20 : (20 : Int32) = iI 20 := by decide
theorem iI_30 : (30 : Int32) = iI 30 := by decide
theorem iI_31 : (31 : Int32) = iI 31 := by decide
theorem iI_36 : (36 : Int32) = iI 36 := by decide
theorem iI_37 : (37 : Int32) = iI 37 := by decide
theorem iI_40 : (40 : Int32) = iI 40 := by decide
theorem iI_48 : (48 : Int32) = iI 48 := by decide
theorem iI_60 : (60 : Int32) = iI 60 := by decide
theorem iI_63 : (63 : Int32) = iI 63 := by decide
theorem iI_64 : (64 : Int32) = iI 64 := by decide
theorem iI_78 : (78 : Int32) = iI 78 := by decide
theorem iI_100 : (100 : Int32) = iI 100 := by decide
theorem iI_255 : (255 : Int32) = iI 255 := by decide
theorem iI_481 : (481 : Int32) = iI 481 := by decide
theorem iI_1000000 : (1000000 : Int32) = iI 1000000 := by decide
theorem iI_m1 : (-1 : Int32) = iI (-1) := by decide
theorem iI_m2 : (-2 : Int32) = iI (-2) := by decide
theorem iI_m3 : (-3 : Int32) = iI (-3) := by decide
theorem iI_m4 : (-4 : Int32) = iI (-4) := by decide
theorem iI_m9 : (-9 : Int32) = iI (-9) := by decide
theorem iI_m1000000 : (-1000000 : Int32) = iI (-1000000) := by decide
theorem iI_add (a b : Int) : iI a + iI b = iI (a + b) := (Int32.ofInt_add a b).symm
theorem iI_sub (a b : Int) : iI a - iI b = iI (a - b) := (Int32.ofInt_sub a b).symm
theorem iI_mul (a b : Int) : iI a * iI b = iI (a * b) := (Int32.ofInt_mul a b).symm
theorem iI_neg (a : Int) : -iI a = iI (-a) := (Int32.ofInt_neg a).symm
theorem iI_to (x : Int32) : x = iI x.toInt := (Int32.ofInt_toInt x).symm
theorem iI_in {a : Int} (h1 : -2147483648 ≤ a) (h2 : a < 2147483648) : (iI a).toInt = a := Int32.toInt_ofInt_of_le (by omega) (by omega)
theorem iI_lt {a b : Int} (h1 : -2147483648 ≤ a) (h2 : a < 2147483648) (h3 : -2147483648 ≤ b) (h4 : b < 2147483648) : (iI a < iI b) = (a < b) := by
  rw [Int32.lt_iff_toInt_lt, iI_in h1 h2, iI_in h3 h4]
theorem iI_le {a b : Int} (h1 : -2147483648 ≤ a) (h2 : a < 2147483648) (h3 : -2147483648 ≤ b) (h4 : b < 2147483648) : (iI a ≤ iI b) = (a ≤ b) := by
  rw [Int32.le_iff_toInt_le, iI_in h1 h2, iI_in h3 h4]
theorem iI_eq {a b : Int} (h1 : -2147483648 ≤ a) (h2 : a < 2147483648) (h3 : -2147483648 ≤ b) (h4 : b < 2147483648) : (iI a = iI b) = (a = b) := by
  rw [← Int32.toInt_inj, iI_in h1 h2, iI_in h3 h4]
theorem iI_cl {a : Int} (h1 : 0 ≤ a) (h2 : a < 2147483648) : (iI a).toNatClampNeg = a.toNat := by
  show (iI a).toInt.toNat = a.toNat
  rw [iI_in (by omega) h2]
theorem iI_lo (x : Int32) : -2147483648 ≤ x.toInt := Int32.le_toInt x
theorem iI_hi (x : Int32) : x.toInt < 2147483648 := Int32.toInt_lt x
theorem tr_gdI {α : Type} {a : Int} {n : Nat} {o : Option α} (h1 : 0 ≤ a) (h2 : a < n) (h3 : a < 2147483648) : tr_gd (iI a) n o = o := by
  unfold tr_gd
  rw [if_neg]
  rw [iI_cl h1 h3, iI_0, iI_lt (by omega) h3 (by omega) (by omega)]
  omega
theorem tr_nzI {α : Type} {a : Int} {o : Option α} (h1 : a ≠ 0) (h2 : -2147483648 ≤ a) (h3 : a < 2147483648) : tr_nz (iI a) o = o := by
  unfold tr_nz
  rw [if_neg]
  rw [iI_0, iI_eq h2 h3 (by omega) (by omega)]
  exact h1
theorem tr_bn_some {α β : Type} (a : α) (f : α → Option β) : tr_bn (some a) f = f a := rfl
theorem tr_b2_some {α β γ : Type} (a : α) (b : β) (f : α → β → Option γ) : tr_b2 (some (a, b)) f = f a b := rfl
theorem iI_div {a b : Int} (h1 : 0 ≤ a) (h2 : a < 2147483648) (h3 : 0 < b) (h4 : b < 2147483648) : iI a / iI b = iI (a / b) := by
  have h5 : 0 ≤ a / b := Int.ediv_nonneg h1 (by omega)
  have h6 : a / b ≤ a := Int.ediv_le_self b h1
  rw [← Int32.toInt_inj, iI_in (a := a / b) (by omega) (by omega), Int32.toInt_div_of_ne_right]
  · rw [iI_in (by omega) h2, iI_in (by omega) h4, Int.tdiv_eq_ediv_of_nonneg h1]
  · intro h
    rw [iI_m1, iI_eq (by omega) h4 (by omega) (by omega)] at h
    omega
theorem iI_rem {a b : Int} (h1 : 0 ≤ a) (h2 : a < 2147483648) (h3 : 0 < b) (h4 : b < 2147483648) : iI a - iI a / iI b * iI b = iI (a % b) := by
  rw [iI_div h1 h2 h3 h4, iI_mul, iI_sub]
  congr 1
  rw [Int.emod_def, Int.mul_comm]
/-! the heap of numbers -/
theorem tr_sa_at (h : tr_H) (i : Nat) (f : Nat → Int32) : (tr_sa h i f).1 i = f := by simp [tr_sa]
theorem tr_sa_ne (h : tr_H) {i j : Nat} (f : Nat → Int32) (hij : j ≠ i) : (tr_sa h i f).1 j = h.1 j := by simp [tr_sa, hij]
theorem tr_sa_2 (h : tr_H) (i : Nat) (f : Nat → Int32) : (tr_sa h i f).2 = h.2 := rfl
theorem tr_sa_sa (h : tr_H) (i : Nat) (f g : Nat → Int32) : tr_sa (tr_sa h i f) i g = tr_sa h i g := by
  unfold tr_sa
  congr 1
  funext a
  by_cases ha : a = i <;> simp [ha]
theorem tr_sa_self (h : tr_H) (i : Nat) : tr_sa h i (h.1 i) = h := by
  unfold tr_sa
  refine Prod.ext ?_ rfl
  funext a
  by_cases ha : a = i <;> simp [ha]
/-! loops -/
theorem tr_lp_go {σ ρ : Type} {f : σ → Option (σ ⊕ ρ)} {s s' : σ} (h : f s = some (.inl s')) : tr_lp f s = tr_lp f s' := by rw [tr_lp_eq, h]; rfl
theorem tr_lp_out {σ ρ : Type} {f : σ → Option (σ ⊕ ρ)} {s : σ} {r : ρ} (h : f s = some (.inr r)) : tr_lp f s = some r := by rw [tr_lp_eq, h]; rfl
/-- a loop whose states are told -/
theorem tr_seq {σ ρ : Type} {f : σ → Option (σ ⊕ ρ)} (S : Nat → σ) {lo hi : Nat} {r : ρ} (hle : lo ≤ hi) (step : ∀ k, lo ≤ k → k < hi → f (S k) = some (.inl (S (k + 1)))) (ex : f (S hi) = some (.inr r)) : tr_lp f (S lo) = some r := by
  obtain ⟨d, rfl⟩ : ∃ d, hi = lo + d := ⟨hi - lo, by omega⟩
  induction d generalizing lo with
  | zero => exact tr_lp_out ex
  | succ d ih =>
    rw [tr_lp_go (step lo (Nat.le_refl _) (by omega))]
    refine ih (lo := lo + 1) (by omega) (fun k h1 h2 => step k (by omega) (by omega)) ?_
    rw [show lo + 1 + d = lo + (d + 1) by omega]
    exact ex
