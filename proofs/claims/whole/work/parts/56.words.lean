/-! the two sides; words of the tables by their places; rows of the fields -/
def tr_cx (ad : Nat → Nat) (cA : Nat → ClassId) : Nat → (Nat → Int32) → (Nat → Int64) → va_E
  | 0, f, g => .inr (7, [.ref (ad 1), .ref (ad 2), .ref (ad 4), .ref (ad 10), .ref (ad 11), .ref (ad 12), .ref (ad 13), .ref (ad 17), .ref (ad 21), .ref (ad 24), .ref (ad 27), .int (f 11), .long (g 12)])
  | 1, f, _ => .inl (cA 0, 64, .inl f)
  | 2, f, _ => .inr (2, [.ref (ad 3), .int (f 1)])
  | 3, f, _ => .inl (cA 0, 36, .inl f)
  | 4, f, _ => .inr (2, [.ref (ad 5), .int (f 1)])
  | 5, f, _ => .inl (cA 0, 36, .inl f)
  | 6, f, _ => .inr (2, [.ref (ad 7), .int (f 1)])
  | 7, f, _ => .inl (cA 0, 36, .inl f)
  | 8, f, _ => .inr (2, [.ref (ad 9), .int (f 1)])
  | 9, f, _ => .inl (cA 0, 36, .inl f)
  | 10, _, _ => .inl (cA 2, 2, .inr (.inr (.inr (.inr (va_up (va_up (fun _ => none) 0 (some (ad 6))) 1 (some (ad 8)))))))
  | 11, f, _ => .inl (cA 1, 2, .inl f)
  | 12, f, _ => .inr (3, [.int (f 0), .int (f 1)])
  | 13, f, _ => .inr (1, [.ref (ad 14), .ref (ad 15), .ref (ad 16), .int (f 3)])
  | 14, f, _ => .inl (cA 0, 14, .inl f)
  | 15, f, _ => .inl (cA 0, 14, .inl f)
  | 16, f, _ => .inl (cA 0, 14, .inl f)
  | 17, f, _ => .inr (5, [.ref (ad 18), .ref (ad 19), .ref (ad 20), .int (f 3)])
  | 18, f, _ => .inl (cA 0, 6, .inl f)
  | 19, f, _ => .inl (cA 0, 6, .inl f)
  | 20, f, _ => .inl (cA 0, 6, .inl f)
  | 21, f, _ => .inr (6, [.ref (ad 22), .ref (ad 23), .int (f 2)])
  | 22, f, _ => .inl (cA 0, 42, .inl f)
  | 23, f, _ => .inl (cA 0, 36, .inl f)
  | 24, f, _ => .inr (0, [.ref (ad 25), .ref (ad 26), .int (f 2)])
  | 25, f, _ => .inl (cA 0, 6, .inl f)
  | 26, f, _ => .inl (cA 0, 246, .inl f)
  | 27, f, _ => .inr (4, [.ref (ad 28), .ref (ad 29), .ref (ad 30), .int (f 3)])
  | 28, f, _ => .inl (cA 0, 384, .inl f)
  | 29, f, _ => .inl (cA 0, 384, .inl f)
  | 30, f, _ => .inl (cA 0, 64, .inl f)
  | _, f, _ => .inl (cA 0, 0, .inl f)
def tr_cm (ad : Nat → Nat) (cA : Nat → ClassId) : Nat → (Nat → Int32) → (Nat → Int64) → va_E
  | 0, f, g => .inr (8, [.int (f 0), .ref (ad 1), .int (f 2), .int (f 3), .int (f 4), .ref (ad 2), .ref (ad 3), .ref (ad 4), .ref (ad 5), .int (f 9), .ref (ad 6), .ref (ad 7), .int (f 12), .ref (ad 8), .ref (ad 9), .ref (ad 10), .long (g 16), .int (f 17), .int (f 18), .int (f 19), .long (g 20), .int (f 21), .long (g 22), .ref (ad 11), .ref (ad 12), .ref (ad 13), .ref (ad 14), .ref (ad 15), .int (f 28), .int (f 29), .ref (ad 16)])
  | 1, f, _ => .inl (cA 0, 64, .inl f)
  | 2, f, _ => .inl (cA 0, 37, .inl f)
  | 3, f, _ => .inl (cA 0, 37, .inl f)
  | 4, f, _ => .inl (cA 0, 37, .inl f)
  | 5, f, _ => .inl (cA 0, 518, .inl f)
  | 6, f, _ => .inl (cA 0, 74, .inl f)
  | 7, f, _ => .inl (cA 1, 2, .inl f)
  | 8, f, _ => .inl (cA 0, 6, .inl f)
  | 9, f, _ => .inl (cA 0, 6, .inl f)
  | 10, f, _ => .inl (cA 0, 6, .inl f)
  | 11, f, _ => .inl (cA 0, 6, .inl f)
  | 12, f, _ => .inl (cA 0, 6, .inl f)
  | 13, f, _ => .inl (cA 0, 6, .inl f)
  | 14, f, _ => .inl (cA 0, 6, .inl f)
  | 15, f, _ => .inl (cA 0, 6, .inl f)
  | 16, f, _ => .inl (cA 0, 64, .inl f)
  | _, f, _ => .inl (cA 0, 0, .inl f)
abbrev tr_X : tr_Y := (31, tr_cx)
abbrev tr_M : tr_Y := (17, tr_cm)
theorem ar_X_1 (w : tr_E) : tr_Ar tr_X w 1 64 := ⟨by decide, fun _ _ => rfl⟩
theorem ar_X_3 (w : tr_E) : tr_Ar tr_X w 3 36 := ⟨by decide, fun _ _ => rfl⟩
theorem ar_X_5 (w : tr_E) : tr_Ar tr_X w 5 36 := ⟨by decide, fun _ _ => rfl⟩
theorem ar_X_7 (w : tr_E) : tr_Ar tr_X w 7 36 := ⟨by decide, fun _ _ => rfl⟩
theorem ar_X_9 (w : tr_E) : tr_Ar tr_X w 9 36 := ⟨by decide, fun _ _ => rfl⟩
theorem ar_X_11 (w : tr_E) : tr_Az tr_X w 11 2 := ⟨by decide, fun _ _ => rfl⟩
theorem ar_X_14 (w : tr_E) : tr_Ar tr_X w 14 14 := ⟨by decide, fun _ _ => rfl⟩
theorem ar_X_15 (w : tr_E) : tr_Ar tr_X w 15 14 := ⟨by decide, fun _ _ => rfl⟩
theorem ar_X_16 (w : tr_E) : tr_Ar tr_X w 16 14 := ⟨by decide, fun _ _ => rfl⟩
theorem ar_X_18 (w : tr_E) : tr_Ar tr_X w 18 6 := ⟨by decide, fun _ _ => rfl⟩
theorem ar_X_19 (w : tr_E) : tr_Ar tr_X w 19 6 := ⟨by decide, fun _ _ => rfl⟩
theorem ar_X_20 (w : tr_E) : tr_Ar tr_X w 20 6 := ⟨by decide, fun _ _ => rfl⟩
theorem ar_X_22 (w : tr_E) : tr_Ar tr_X w 22 42 := ⟨by decide, fun _ _ => rfl⟩
theorem ar_X_23 (w : tr_E) : tr_Ar tr_X w 23 36 := ⟨by decide, fun _ _ => rfl⟩
theorem ar_X_25 (w : tr_E) : tr_Ar tr_X w 25 6 := ⟨by decide, fun _ _ => rfl⟩
theorem ar_X_26 (w : tr_E) : tr_Ar tr_X w 26 246 := ⟨by decide, fun _ _ => rfl⟩
theorem ar_X_28 (w : tr_E) : tr_Ar tr_X w 28 384 := ⟨by decide, fun _ _ => rfl⟩
theorem ar_X_29 (w : tr_E) : tr_Ar tr_X w 29 384 := ⟨by decide, fun _ _ => rfl⟩
theorem ar_X_30 (w : tr_E) : tr_Ar tr_X w 30 64 := ⟨by decide, fun _ _ => rfl⟩
theorem ar_M_1 (w : tr_E) : tr_Ar tr_M w 1 64 := ⟨by decide, fun _ _ => rfl⟩
theorem ar_M_2 (w : tr_E) : tr_Ar tr_M w 2 37 := ⟨by decide, fun _ _ => rfl⟩
theorem ar_M_3 (w : tr_E) : tr_Ar tr_M w 3 37 := ⟨by decide, fun _ _ => rfl⟩
theorem ar_M_4 (w : tr_E) : tr_Ar tr_M w 4 37 := ⟨by decide, fun _ _ => rfl⟩
theorem ar_M_5 (w : tr_E) : tr_Ar tr_M w 5 518 := ⟨by decide, fun _ _ => rfl⟩
theorem ar_M_6 (w : tr_E) : tr_Ar tr_M w 6 74 := ⟨by decide, fun _ _ => rfl⟩
theorem ar_M_7 (w : tr_E) : tr_Az tr_M w 7 2 := ⟨by decide, fun _ _ => rfl⟩
theorem ar_M_8 (w : tr_E) : tr_Ar tr_M w 8 6 := ⟨by decide, fun _ _ => rfl⟩
theorem ar_M_9 (w : tr_E) : tr_Ar tr_M w 9 6 := ⟨by decide, fun _ _ => rfl⟩
theorem ar_M_10 (w : tr_E) : tr_Ar tr_M w 10 6 := ⟨by decide, fun _ _ => rfl⟩
theorem ar_M_11 (w : tr_E) : tr_Ar tr_M w 11 6 := ⟨by decide, fun _ _ => rfl⟩
theorem ar_M_12 (w : tr_E) : tr_Ar tr_M w 12 6 := ⟨by decide, fun _ _ => rfl⟩
theorem ar_M_13 (w : tr_E) : tr_Ar tr_M w 13 6 := ⟨by decide, fun _ _ => rfl⟩
theorem ar_M_14 (w : tr_E) : tr_Ar tr_M w 14 6 := ⟨by decide, fun _ _ => rfl⟩
theorem ar_M_15 (w : tr_E) : tr_Ar tr_M w 15 6 := ⟨by decide, fun _ _ => rfl⟩
theorem ar_M_16 (w : tr_E) : tr_Ar tr_M w 16 64 := ⟨by decide, fun _ _ => rfl⟩
def tr_net (i : Nat) : Prop := i = 2 ∨ i = 4 ∨ i = 6 ∨ i = 8
theorem tr_net_2 : tr_net 2 := Or.inl rfl
theorem tr_net_4 : tr_net 4 := Or.inr (Or.inl rfl)
theorem tr_net_lt {i : Nat} (h : tr_net i) : i < tr_X.1 := by rcases h with rfl | rfl | rfl | rfl <;> decide
theorem tr_net_cx {i : Nat} (h : tr_net i) (ad : Nat → Nat) (cA : Nat → ClassId) (f : Nat → Int32) (g : Nat → Int64) : tr_cx ad cA i f g = .inr (2, [.ref (ad (i + 1)), .int (f 1)]) := by rcases h with rfl | rfl | rfl | rfl <;> rfl
theorem tr_net_ar {i : Nat} (h : tr_net i) (w : tr_E) : tr_Ar tr_X w (i + 1) 36 := by rcases h with rfl | rfl | rfl | rfl <;> exact ⟨by decide, fun _ _ => rfl⟩
def tr_pg (i : Nat) : Prop := i = 2 ∨ i = 3 ∨ i = 4
theorem tr_pg_2 : tr_pg 2 := Or.inl rfl
theorem tr_pg_3 : tr_pg 3 := Or.inr (Or.inl rfl)
theorem tr_pg_4 : tr_pg 4 := Or.inr (Or.inr rfl)
theorem tr_pg_ar {i : Nat} (h : tr_pg i) (w : tr_E) : tr_Ar tr_M w i 37 := by rcases h with rfl | rfl | rfl <;> exact ⟨by decide, fun _ _ => rfl⟩
theorem tr_net_sl {x : Int32} (h : vp_in x 2) : tr_net (6 + 2 * x.toNatClampNeg) := by
  have h1 : x.toNatClampNeg < 2 := Nat.not_le.mp fun q => h (Or.inr q)
  rcases (show x.toNatClampNeg = 0 ∨ x.toNatClampNeg = 1 by omega) with e | e <;> rw [e] <;> simp [tr_net]
set_option maxRecDepth 20000 in
theorem hinX0 : ∀ x ∈ u_ws RX0 TX0 3, x ∈ tr_T := by decide +kernel
set_option maxRecDepth 20000 in
theorem hinX1 : ∀ x ∈ u_ws RX1 TX1 4, x ∈ tr_T := by decide +kernel
set_option maxRecDepth 20000 in
theorem hinX2 : ∀ x ∈ u_ws RX2 TX2 2, x ∈ tr_T := by decide +kernel
set_option maxRecDepth 20000 in
theorem hinX3 : ∀ x ∈ u_ws RX3 TX3 2, x ∈ tr_T := by decide +kernel
set_option maxRecDepth 20000 in
theorem hinX4 : ∀ x ∈ u_ws RX4 TX4 4, x ∈ tr_T := by decide +kernel
set_option maxRecDepth 20000 in
theorem hinX5 : ∀ x ∈ u_ws RX5 TX5 4, x ∈ tr_T := by decide +kernel
set_option maxRecDepth 20000 in
theorem hinX6 : ∀ x ∈ u_ws RX6 TX6 3, x ∈ tr_T := by decide +kernel
set_option maxRecDepth 20000 in
theorem hinX7 : ∀ x ∈ u_ws RX7 TX7 13, x ∈ tr_T := by decide +kernel
set_option maxRecDepth 20000 in
theorem hinX8 : ∀ x ∈ u_ws RX8 TX8 31, x ∈ tr_T := by decide +kernel
theorem ml_X0_22 : Cond.methodLink RX0 22 yJ7_fill_53178 ∈ tr_T := tr_in 443 (by decide +kernel) rfl
theorem ml_X0_33 : Cond.methodLink RX0 33 yX2_of ∈ tr_T := tr_in 444 (by decide +kernel) rfl
theorem ml_X0_37 : Cond.methodLink RX0 37 Lib.Math.max.name ∈ tr_T := tr_in 445 (by decide +kernel) rfl
theorem ml_X0_42 : Cond.methodLink RX0 42 yX0_timeOf ∈ tr_T := tr_in 458 (by decide +kernel) rfl
theorem ml_X0_47 : Cond.methodLink RX0 47 yX0_leastSpare ∈ tr_T := tr_in 468 (by decide +kernel) rfl
theorem ml_X0_51 : Cond.methodLink RX0 51 yX0_spareOf ∈ tr_T := tr_in 472 (by decide +kernel) rfl
theorem ml_X0_54 : Cond.methodLink RX0 54 Lib.Math.min.name ∈ tr_T := tr_in 473 (by decide +kernel) rfl
theorem ml_X0_57 : Cond.methodLink RX0 57 yX0_lateness ∈ tr_T := tr_in 490 (by decide +kernel) rfl
theorem ml_X1_25 : Cond.methodLink RX1 25 yX1_forgetFirst ∈ tr_T := tr_in 395 (by decide +kernel) rfl
theorem ml_X1_28 : Cond.methodLink RX1 28 yX2_lay ∈ tr_T := tr_in 416 (by decide +kernel) rfl
theorem ml_X2_19 : Cond.methodLink RX2 19 yJ7_fill_53178 ∈ tr_T := tr_in 69 (by decide +kernel) rfl
theorem ml_X2_25 : Cond.methodLink RX2 25 yX2_has ∈ tr_T := tr_in 278 (by decide +kernel) rfl
theorem ml_X2_29 : Cond.methodLink RX2 29 yX2_of ∈ tr_T := tr_in 269 (by decide +kernel) rfl
theorem ml_X2_33 : Cond.methodLink RX2 33 Lib.Math.min.name ∈ tr_T := tr_in 251 (by decide +kernel) rfl
theorem ml_X2_38 : Cond.methodLink RX2 38 Lib.Math.max.name ∈ tr_T := tr_in 254 (by decide +kernel) rfl
theorem ml_X2_41 : Cond.methodLink RX2 41 arraycopyName ∈ tr_T := tr_in 287 (by decide +kernel) rfl
theorem ml_X3_9 : Cond.methodLink RX3 9 yX2_begin ∈ tr_T := tr_in 247 (by decide +kernel) rfl
theorem ml_X3_15 : Cond.methodLink RX3 15 yX3_takes ∈ tr_T := tr_in 257 (by decide +kernel) rfl
theorem ml_X3_25 : Cond.methodLink RX3 25 yX2_has ∈ tr_T := tr_in 261 (by decide +kernel) rfl
theorem ml_X3_29 : Cond.methodLink RX3 29 yX2_leadsToAll ∈ tr_T := tr_in 265 (by decide +kernel) rfl
theorem ml_X3_35 : Cond.methodLink RX3 35 yX2_of ∈ tr_T := tr_in 273 (by decide +kernel) rfl
theorem ml_X3_39 : Cond.methodLink RX3 39 yX2_lay ∈ tr_T := tr_in 274 (by decide +kernel) rfl
theorem ml_X4_21 : Cond.methodLink RX4 21 yJ7_fill_53178 ∈ tr_T := tr_in 306 (by decide +kernel) rfl
theorem ml_X4_36 : Cond.methodLink RX4 36 yX4_goOn ∈ tr_T := tr_in 307 (by decide +kernel) rfl
theorem ml_X4_40 : Cond.methodLink RX4 40 yX4_takeWithin ∈ tr_T := tr_in 324 (by decide +kernel) rfl
theorem ml_X4_44 : Cond.methodLink RX4 44 yX4_lowestOf ∈ tr_T := tr_in 311 (by decide +kernel) rfl
theorem ml_X4_48 : Cond.methodLink RX4 48 yX2_of ∈ tr_T := tr_in 314 (by decide +kernel) rfl
theorem ml_X4_55 : Cond.methodLink RX4 55 yJ6_bitCount_0f7a4 ∈ tr_T := tr_in 317 (by decide +kernel) rfl
theorem ml_X4_60 : Cond.methodLink RX4 60 Lib.Math.max.name ∈ tr_T := tr_in 323 (by decide +kernel) rfl
theorem ml_X5_25 : Cond.methodLink RX5 25 yX0_lateness ∈ tr_T := tr_in 549 (by decide +kernel) rfl
theorem ml_X6_18 : Cond.methodLink RX6 18 yX6_slowest ∈ tr_T := tr_in 336 (by decide +kernel) rfl
theorem ml_X6_28 : Cond.methodLink RX6 28 yX6_longest ∈ tr_T := tr_in 340 (by decide +kernel) rfl
theorem ml_X6_32 : Cond.methodLink RX6 32 yX6_leastMean ∈ tr_T := tr_in 346 (by decide +kernel) rfl
theorem ml_X6_36 : Cond.methodLink RX6 36 Lib.Math.max.name ∈ tr_T := tr_in 345 (by decide +kernel) rfl
theorem ml_X6_41 : Cond.methodLink RX6 41 yX2_of ∈ tr_T := tr_in 344 (by decide +kernel) rfl
theorem ml_X6_48 : Cond.methodLink RX6 48 Lib.Math.min.name ∈ tr_T := tr_in 352 (by decide +kernel) rfl
theorem ml_X6_54 : Cond.methodLink RX6 54 yX6_gainOf ∈ tr_T := tr_in 353 (by decide +kernel) rfl
theorem ml_X6_57 : Cond.methodLink RX6 57 yX6_join ∈ tr_T := tr_in 358 (by decide +kernel) rfl
theorem ml_X6_62 : Cond.methodLink RX6 62 yX6_comesBack ∈ tr_T := tr_in 371 (by decide +kernel) rfl
theorem ml_X7_77 : Cond.methodLink RX7 77 yX3_read ∈ tr_T := tr_in 243 (by decide +kernel) rfl
theorem ml_X7_81 : Cond.methodLink RX7 81 yX2_copyFrom ∈ tr_T := tr_in 283 (by decide +kernel) rfl
theorem ml_X7_85 : Cond.methodLink RX7 85 yX1_forget ∈ tr_T := tr_in 290 (by decide +kernel) rfl
theorem ml_X7_88 : Cond.methodLink RX7 88 yX2_waits ∈ tr_T := tr_in 294 (by decide +kernel) rfl
theorem ml_X7_95 : Cond.methodLink RX7 95 yX4_fill ∈ tr_T := tr_in 302 (by decide +kernel) rfl
theorem ml_X7_101 : Cond.methodLink RX7 101 yX7_aboutEachWait ∈ tr_T := tr_in 328 (by decide +kernel) rfl
theorem ml_X7_105 : Cond.methodLink RX7 105 yX7_leastPeriod ∈ tr_T := tr_in 372 (by decide +kernel) rfl
theorem ml_X7_112 : Cond.methodLink RX7 112 yX2_has ∈ tr_T := tr_in 382 (by decide +kernel) rfl
theorem ml_X7_116 : Cond.methodLink RX7 116 yX2_of ∈ tr_T := tr_in 362 (by decide +kernel) rfl
theorem ml_X7_120 : Cond.methodLink RX7 120 yX7_change ∈ tr_T := tr_in 387 (by decide +kernel) rfl
theorem ml_X7_124 : Cond.methodLink RX7 124 yX1_takeBack ∈ tr_T := tr_in 412 (by decide +kernel) rfl
theorem ml_X7_127 : Cond.methodLink RX7 127 yX6_slowest ∈ tr_T := tr_in 376 (by decide +kernel) rfl
theorem ml_X7_131 : Cond.methodLink RX7 131 yX7_told ∈ tr_T := tr_in 421 (by decide +kernel) rfl
theorem ml_X7_135 : Cond.methodLink RX7 135 yX6_compare ∈ tr_T := tr_in 332 (by decide +kernel) rfl
theorem ml_X7_138 : Cond.methodLink RX7 138 yX6_isCritical ∈ tr_T := tr_in 367 (by decide +kernel) rfl
theorem ml_X7_142 : Cond.methodLink RX7 142 yX6_isKept ∈ tr_T := tr_in 435 (by decide +kernel) rfl
theorem ml_X7_146 : Cond.methodLink RX7 146 yX0_settle ∈ tr_T := tr_in 439 (by decide +kernel) rfl
theorem ml_X7_150 : Cond.methodLink RX7 150 yX0_timeOf ∈ tr_T := tr_in 446 (by decide +kernel) rfl
theorem ml_X7_153 : Cond.methodLink RX7 153 yX0_spareOf ∈ tr_T := tr_in 454 (by decide +kernel) rfl
theorem ml_X7_157 : Cond.methodLink RX7 157 yX0_spread ∈ tr_T := tr_in 463 (by decide +kernel) rfl
theorem ml_X7_161 : Cond.methodLink RX7 161 yX0_lateness ∈ tr_T := tr_in 474 (by decide +kernel) rfl
theorem ml_X7_164 : Cond.methodLink RX7 164 yX7_lastsUntil ∈ tr_T := tr_in 482 (by decide +kernel) rfl
theorem ml_X7_169 : Cond.methodLink RX7 169 yX2_lay ∈ tr_T := tr_in 399 (by decide +kernel) rfl
theorem ml_X7_177 : Cond.methodLink RX7 177 yX7_figuresOf ∈ tr_T := tr_in 502 (by decide +kernel) rfl
theorem ml_X7_181 : Cond.methodLink RX7 181 yX7_holds ∈ tr_T := tr_in 506 (by decide +kernel) rfl
theorem ml_X7_187 : Cond.methodLink RX7 187 yX4_added ∈ tr_T := tr_in 524 (by decide +kernel) rfl
theorem ml_X7_190 : Cond.methodLink RX7 190 yX5_add ∈ tr_T := tr_in 533 (by decide +kernel) rfl
theorem ml_X7_193 : Cond.methodLink RX7 193 yX5_fits ∈ tr_T := tr_in 545 (by decide +kernel) rfl
theorem ml_X7_205 : Cond.methodLink RX7 205 Lib.Math.max.name ∈ tr_T := tr_in 377 (by decide +kernel) rfl
theorem ml_X7_210 : Cond.methodLink RX7 210 yX1_add ∈ tr_T := tr_in 391 (by decide +kernel) rfl
theorem ml_X7_213 : Cond.methodLink RX7 213 yX6_comesBack ∈ tr_T := tr_in 363 (by decide +kernel) rfl
theorem ml_X7_217 : Cond.methodLink RX7 217 yX0_firstQuietRound ∈ tr_T := tr_in 486 (by decide +kernel) rfl
theorem ml_X7_222 : Cond.methodLink RX7 222 yX7_departsAt ∈ tr_T := tr_in 510 (by decide +kernel) rfl
theorem ml_X7_225 : Cond.methodLink RX7 225 yX7_isOver ∈ tr_T := tr_in 514 (by decide +kernel) rfl
theorem ml_X7_228 : Cond.methodLink RX7 228 yX7_commonDivisor ∈ tr_T := tr_in 424 (by decide +kernel) rfl
theorem ml_X8_63 : Cond.methodLink RX8 63 yX8_in ∈ tr_T := tr_in 677 (by decide +kernel) rfl
theorem ml_X8_67 : Cond.methodLink RX8 67 yX8_minutesOf ∈ tr_T := tr_in 706 (by decide +kernel) rfl
theorem ml_X8_79 : Cond.methodLink RX8 79 yX8_isThere ∈ tr_T := tr_in 703 (by decide +kernel) rfl
theorem ml_X8_83 : Cond.methodLink RX8 83 yX8_figure ∈ tr_T := tr_in 692 (by decide +kernel) rfl
theorem ml_X8_90 : Cond.methodLink RX8 90 yX8_waitsFrom ∈ tr_T := tr_in 700 (by decide +kernel) rfl
theorem ml_X8_94 : Cond.methodLink RX8 94 yX8_readWait ∈ tr_T := tr_in 696 (by decide +kernel) rfl
theorem ml_X8_98 : Cond.methodLink RX8 98 yX8_readNet ∈ tr_T := tr_in 688 (by decide +kernel) rfl
theorem ml_X8_105 : Cond.methodLink RX8 105 yX8_waits ∈ tr_T := tr_in 713 (by decide +kernel) rfl
theorem ml_X8_128 : Cond.methodLink RX8 128 yX8_closeRing ∈ tr_T := tr_in 735 (by decide +kernel) rfl
theorem ml_X8_132 : Cond.methodLink RX8 132 yX8_has ∈ tr_T := tr_in 728 (by decide +kernel) rfl
theorem ml_X8_136 : Cond.methodLink RX8 136 yX8_isIn ∈ tr_T := tr_in 739 (by decide +kernel) rfl
theorem ml_X8_139 : Cond.methodLink RX8 139 yX8_ringsFrom ∈ tr_T := tr_in 731 (by decide +kernel) rfl
theorem ml_X8_143 : Cond.methodLink RX8 143 yX8_findRings ∈ tr_T := tr_in 724 (by decide +kernel) rfl
theorem ml_X8_146 : Cond.methodLink RX8 146 yX8_find ∈ tr_T := tr_in 720 (by decide +kernel) rfl
theorem ml_X8_150 : Cond.methodLink RX8 150 yX8_isPeriod ∈ tr_T := tr_in 749 (by decide +kernel) rfl
theorem ml_X8_154 : Cond.methodLink RX8 154 yX8_many ∈ tr_T := tr_in 742 (by decide +kernel) rfl
theorem ml_X8_158 : Cond.methodLink RX8 158 yX8_leastPeriod ∈ tr_T := tr_in 745 (by decide +kernel) rfl
theorem ml_X8_164 : Cond.methodLink RX8 164 yX8_noDeparture ∈ tr_T := tr_in 757 (by decide +kernel) rfl
theorem ml_X8_170 : Cond.methodLink RX8 170 yX8_note ∈ tr_T := tr_in 766 (by decide +kernel) rfl
theorem ml_X8_173 : Cond.methodLink RX8 173 yX8_divisor ∈ tr_T := tr_in 789 (by decide +kernel) rfl
theorem ml_X8_177 : Cond.methodLink RX8 177 yX8_fraction ∈ tr_T := tr_in 786 (by decide +kernel) rfl
theorem ml_X8_183 : Cond.methodLink RX8 183 yX8_layTimes ∈ tr_T := tr_in 801 (by decide +kernel) rfl
theorem ml_X8_186 : Cond.methodLink RX8 186 yX8_spareOf ∈ tr_T := tr_in 809 (by decide +kernel) rfl
theorem ml_X8_194 : Cond.methodLink RX8 194 yX8_beginLate ∈ tr_T := tr_in 819 (by decide +kernel) rfl
theorem ml_X8_198 : Cond.methodLink RX8 198 yX8_goRound ∈ tr_T := tr_in 823 (by decide +kernel) rfl
theorem ml_X8_201 : Cond.methodLink RX8 201 yX8_diesOf ∈ tr_T := tr_in 831 (by decide +kernel) rfl
theorem ml_X8_204 : Cond.methodLink RX8 204 yX8_begin ∈ tr_T := tr_in 839 (by decide +kernel) rfl
theorem ml_X8_207 : Cond.methodLink RX8 207 yX8_sixtiethsOf ∈ tr_T := tr_in 843 (by decide +kernel) rfl
theorem ml_X8_210 : Cond.methodLink RX8 210 yX8_sets ∈ tr_T := tr_in 860 (by decide +kernel) rfl
theorem ml_X8_214 : Cond.methodLink RX8 214 yX8_isCritical ∈ tr_T := tr_in 864 (by decide +kernel) rfl
theorem ml_X8_217 : Cond.methodLink RX8 217 yX8_isTime ∈ tr_T := tr_in 868 (by decide +kernel) rfl
theorem ml_X8_224 : Cond.methodLink RX8 224 yX8_longPower ∈ tr_T := tr_in 853 (by decide +kernel) rfl
theorem ml_X8_228 : Cond.methodLink RX8 228 yX8_does ∈ tr_T := tr_in 856 (by decide +kernel) rfl
theorem ml_X8_231 : Cond.methodLink RX8 231 yX8_orders ∈ tr_T := tr_in 876 (by decide +kernel) rfl
theorem ml_X8_240 : Cond.methodLink RX8 240 yX8_explains ∈ tr_T := tr_in 891 (by decide +kernel) rfl
theorem ml_X8_245 : Cond.methodLink RX8 245 yX8_drops ∈ tr_T := tr_in 900 (by decide +kernel) rfl
theorem ml_X8_248 : Cond.methodLink RX8 248 yX8_power ∈ tr_T := tr_in 904 (by decide +kernel) rfl
theorem ml_X8_258 : Cond.methodLink RX8 258 yX8_draw ∈ tr_T := tr_in 917 (by decide +kernel) rfl
theorem mk_X0_settle : Cond.code yX0_settle cX0_settle 7 none ∈ tr_T := tr_in 442 (by decide +kernel) rfl
theorem mz_X0_settle : tr_Mv RX0 yX0_settle cX0_settle 7 none 2 := ⟨tr_in 440 (by decide +kernel) rfl, tr_in 441 (by decide +kernel) rfl, tr_in 49 (by decide +kernel) rfl, mk_X0_settle, by decide +kernel⟩
theorem mk_X0_timeOf : Cond.code yX0_timeOf cX0_timeOf 2 (some .int) ∈ tr_T := tr_in 449 (by decide +kernel) rfl
theorem mz_X0_timeOf : tr_Mv RX0 yX0_timeOf cX0_timeOf 2 (some .int) 1 := ⟨tr_in 447 (by decide +kernel) rfl, tr_in 448 (by decide +kernel) rfl, tr_in 49 (by decide +kernel) rfl, mk_X0_timeOf, by decide +kernel⟩
theorem mk_X0_spareOf : Cond.code yX0_spareOf cX0_spareOf 4 (some .int) ∈ tr_T := tr_in 457 (by decide +kernel) rfl
theorem mz_X0_spareOf : tr_Mv RX0 yX0_spareOf cX0_spareOf 4 (some .int) 3 := ⟨tr_in 455 (by decide +kernel) rfl, tr_in 456 (by decide +kernel) rfl, tr_in 49 (by decide +kernel) rfl, mk_X0_spareOf, by decide +kernel⟩
theorem mk_X0_spread : Cond.code yX0_spread cX0_spread 6 none ∈ tr_T := tr_in 466 (by decide +kernel) rfl
theorem mz_X0_spread : tr_Mv RX0 yX0_spread cX0_spread 6 none 3 := ⟨tr_in 464 (by decide +kernel) rfl, tr_in 465 (by decide +kernel) rfl, tr_in 49 (by decide +kernel) rfl, mk_X0_spread, by decide +kernel⟩
theorem mk_X0_leastSpare : Cond.code yX0_leastSpare cX0_leastSpare 7 (some .int) ∈ tr_T := tr_in 471 (by decide +kernel) rfl
theorem mz_X0_leastSpare : tr_Mv RX0 yX0_leastSpare cX0_leastSpare 7 (some .int) 3 := ⟨tr_in 470 (by decide +kernel) rfl, tr_in 11 (by decide +kernel) rfl, tr_in 49 (by decide +kernel) rfl, mk_X0_leastSpare, by decide +kernel⟩
theorem mk_X0_lateness : Cond.code yX0_lateness cX0_lateness 4 (some .int) ∈ tr_T := tr_in 477 (by decide +kernel) rfl
theorem mz_X0_lateness : tr_Mv RX0 yX0_lateness cX0_lateness 4 (some .int) 3 := ⟨tr_in 475 (by decide +kernel) rfl, tr_in 476 (by decide +kernel) rfl, tr_in 49 (by decide +kernel) rfl, mk_X0_lateness, by decide +kernel⟩
theorem mk_X0_firstQuietRound : Cond.code yX0_firstQuietRound cX0_firstQuietRound 6 (some .int) ∈ tr_T := tr_in 489 (by decide +kernel) rfl
theorem mz_X0_firstQuietRound : tr_Mv RX0 yX0_firstQuietRound cX0_firstQuietRound 6 (some .int) 2 := ⟨tr_in 487 (by decide +kernel) rfl, tr_in 488 (by decide +kernel) rfl, tr_in 49 (by decide +kernel) rfl, mk_X0_firstQuietRound, by decide +kernel⟩
theorem mk_X1_forget : Cond.code yX1_forget cX1_forget 1 none ∈ tr_T := tr_in 293 (by decide +kernel) rfl
theorem mz_X1_forget : tr_Mv RX1 yX1_forget cX1_forget 1 none 0 := ⟨tr_in 291 (by decide +kernel) rfl, tr_in 292 (by decide +kernel) rfl, tr_in 46 (by decide +kernel) rfl, mk_X1_forget, by decide +kernel⟩
theorem mk_X1_add : Cond.code yX1_add cX1_add 4 none ∈ tr_T := tr_in 394 (by decide +kernel) rfl
theorem mz_X1_add : tr_Mv RX1 yX1_add cX1_add 4 none 3 := ⟨tr_in 392 (by decide +kernel) rfl, tr_in 393 (by decide +kernel) rfl, tr_in 46 (by decide +kernel) rfl, mk_X1_add, by decide +kernel⟩
theorem mk_X1_takeBack : Cond.code yX1_takeBack cX1_takeBack 2 none ∈ tr_T := tr_in 415 (by decide +kernel) rfl
theorem mz_X1_takeBack : tr_Mv RX1 yX1_takeBack cX1_takeBack 2 none 1 := ⟨tr_in 413 (by decide +kernel) rfl, tr_in 414 (by decide +kernel) rfl, tr_in 46 (by decide +kernel) rfl, mk_X1_takeBack, by decide +kernel⟩
theorem mk_X1_forgetFirst : Cond.code yX1_forgetFirst cX1_forgetFirst 2 none ∈ tr_T := tr_in 398 (by decide +kernel) rfl
theorem mz_X1_forgetFirst : tr_Mv RX1 yX1_forgetFirst cX1_forgetFirst 2 none 0 := ⟨tr_in 397 (by decide +kernel) rfl, tr_in 10 (by decide +kernel) rfl, tr_in 46 (by decide +kernel) rfl, mk_X1_forgetFirst, by decide +kernel⟩
theorem mk_X2_has : Cond.code yX2_has cX2_has 2 (some .boolean) ∈ tr_T := tr_in 264 (by decide +kernel) rfl
theorem mz_X2_has : tr_Mv RX2 yX2_has cX2_has 2 (some .boolean) 1 := ⟨tr_in 262 (by decide +kernel) rfl, tr_in 263 (by decide +kernel) rfl, tr_in 43 (by decide +kernel) rfl, mk_X2_has, by decide +kernel⟩
theorem mk_X2_of : Cond.code yX2_of cX2_of 3 (some .int) ∈ tr_T := tr_in 272 (by decide +kernel) rfl
theorem mz_X2_of : tr_Mv RX2 yX2_of cX2_of 3 (some .int) 2 := ⟨tr_in 270 (by decide +kernel) rfl, tr_in 271 (by decide +kernel) rfl, tr_in 43 (by decide +kernel) rfl, mk_X2_of, by decide +kernel⟩
theorem mk_X2_lay : Cond.code yX2_lay cX2_lay 4 (some .boolean) ∈ tr_T := tr_in 277 (by decide +kernel) rfl
theorem mz_X2_lay : tr_Mv RX2 yX2_lay cX2_lay 4 (some .boolean) 3 := ⟨tr_in 275 (by decide +kernel) rfl, tr_in 276 (by decide +kernel) rfl, tr_in 43 (by decide +kernel) rfl, mk_X2_lay, by decide +kernel⟩
theorem mk_X2_leadsToAll : Cond.code yX2_leadsToAll cX2_leadsToAll 3 (some .boolean) ∈ tr_T := tr_in 268 (by decide +kernel) rfl
theorem mz_X2_leadsToAll : tr_Mv RX2 yX2_leadsToAll cX2_leadsToAll 3 (some .boolean) 1 := ⟨tr_in 266 (by decide +kernel) rfl, tr_in 267 (by decide +kernel) rfl, tr_in 43 (by decide +kernel) rfl, mk_X2_leadsToAll, by decide +kernel⟩
theorem mk_X2_waits : Cond.code yX2_waits cX2_waits 3 (some .int) ∈ tr_T := tr_in 297 (by decide +kernel) rfl
theorem mz_X2_waits : tr_Mv RX2 yX2_waits cX2_waits 3 (some .int) 0 := ⟨tr_in 295 (by decide +kernel) rfl, tr_in 296 (by decide +kernel) rfl, tr_in 43 (by decide +kernel) rfl, mk_X2_waits, by decide +kernel⟩
theorem mk_X2_begin : Cond.code yX2_begin cX2_begin 2 none ∈ tr_T := tr_in 250 (by decide +kernel) rfl
theorem mz_X2_begin : tr_Mv RX2 yX2_begin cX2_begin 2 none 1 := ⟨tr_in 248 (by decide +kernel) rfl, tr_in 249 (by decide +kernel) rfl, tr_in 43 (by decide +kernel) rfl, mk_X2_begin, by decide +kernel⟩
theorem mk_X2_copyFrom : Cond.code yX2_copyFrom cX2_copyFrom 2 none ∈ tr_T := tr_in 286 (by decide +kernel) rfl
theorem mz_X2_copyFrom : tr_Mv RX2 yX2_copyFrom cX2_copyFrom 2 none 1 := ⟨tr_in 284 (by decide +kernel) rfl, tr_in 285 (by decide +kernel) rfl, tr_in 43 (by decide +kernel) rfl, mk_X2_copyFrom, by decide +kernel⟩
theorem mk_X3_read : Cond.code yX3_read cX3_read 5 (some .int) ∈ tr_T := tr_in 246 (by decide +kernel) rfl
theorem mz_X3_read : tr_Mv RX3 yX3_read cX3_read 5 (some .int) 3 := ⟨tr_in 244 (by decide +kernel) rfl, tr_in 245 (by decide +kernel) rfl, tr_in 45 (by decide +kernel) rfl, mk_X3_read, by decide +kernel⟩
theorem mk_X3_takes : Cond.code yX3_takes cX3_takes 5 (some .boolean) ∈ tr_T := tr_in 260 (by decide +kernel) rfl
theorem mz_X3_takes : tr_Mv RX3 yX3_takes cX3_takes 5 (some .boolean) 3 := ⟨tr_in 259 (by decide +kernel) rfl, tr_in 0 (by decide +kernel) rfl, tr_in 45 (by decide +kernel) rfl, mk_X3_takes, by decide +kernel⟩
theorem mk_X4_fill : Cond.code yX4_fill cX4_fill 4 none ∈ tr_T := tr_in 305 (by decide +kernel) rfl
theorem mz_X4_fill : tr_Mv RX4 yX4_fill cX4_fill 4 none 1 := ⟨tr_in 303 (by decide +kernel) rfl, tr_in 304 (by decide +kernel) rfl, tr_in 50 (by decide +kernel) rfl, mk_X4_fill, by decide +kernel⟩
theorem mk_X4_lowestOf : Cond.code yX4_lowestOf cX4_lowestOf 2 (some .int) ∈ tr_T := tr_in 313 (by decide +kernel) rfl
theorem mz_X4_lowestOf : tr_Ms yX4_lowestOf cX4_lowestOf 2 (some .int) 1 := ⟨tr_in 312 (by decide +kernel) rfl, tr_in 50 (by decide +kernel) rfl, mk_X4_lowestOf, by decide +kernel⟩
theorem mk_X4_goOn : Cond.code yX4_goOn cX4_goOn 11 none ∈ tr_T := tr_in 310 (by decide +kernel) rfl
theorem mz_X4_goOn : tr_Mv RX4 yX4_goOn cX4_goOn 11 none 3 := ⟨tr_in 309 (by decide +kernel) rfl, tr_in 1 (by decide +kernel) rfl, tr_in 50 (by decide +kernel) rfl, mk_X4_goOn, by decide +kernel⟩
theorem mk_X4_takeWithin : Cond.code yX4_takeWithin cX4_takeWithin 4 none ∈ tr_T := tr_in 327 (by decide +kernel) rfl
theorem mz_X4_takeWithin : tr_Mv RX4 yX4_takeWithin cX4_takeWithin 4 none 1 := ⟨tr_in 326 (by decide +kernel) rfl, tr_in 2 (by decide +kernel) rfl, tr_in 50 (by decide +kernel) rfl, mk_X4_takeWithin, by decide +kernel⟩
theorem mk_X4_added : Cond.code yX4_added cX4_added 7 (some .int) ∈ tr_T := tr_in 527 (by decide +kernel) rfl
theorem mz_X4_added : tr_Mv RX4 yX4_added cX4_added 7 (some .int) 2 := ⟨tr_in 525 (by decide +kernel) rfl, tr_in 526 (by decide +kernel) rfl, tr_in 50 (by decide +kernel) rfl, mk_X4_added, by decide +kernel⟩
theorem mk_X5_add : Cond.code yX5_add cX5_add 4 (some .boolean) ∈ tr_T := tr_in 536 (by decide +kernel) rfl
theorem mz_X5_add : tr_Mv RX5 yX5_add cX5_add 4 (some .boolean) 3 := ⟨tr_in 534 (by decide +kernel) rfl, tr_in 535 (by decide +kernel) rfl, tr_in 47 (by decide +kernel) rfl, mk_X5_add, by decide +kernel⟩
theorem mk_X5_fits : Cond.code yX5_fits cX5_fits 6 (some .boolean) ∈ tr_T := tr_in 548 (by decide +kernel) rfl
theorem mz_X5_fits : tr_Mv RX5 yX5_fits cX5_fits 6 (some .boolean) 3 := ⟨tr_in 546 (by decide +kernel) rfl, tr_in 547 (by decide +kernel) rfl, tr_in 47 (by decide +kernel) rfl, mk_X5_fits, by decide +kernel⟩
theorem mk_X6_isKept : Cond.code yX6_isKept cX6_isKept 3 (some .boolean) ∈ tr_T := tr_in 438 (by decide +kernel) rfl
theorem mz_X6_isKept : tr_Mv RX6 yX6_isKept cX6_isKept 3 (some .boolean) 2 := ⟨tr_in 436 (by decide +kernel) rfl, tr_in 437 (by decide +kernel) rfl, tr_in 48 (by decide +kernel) rfl, mk_X6_isKept, by decide +kernel⟩
theorem mk_X6_slowest : Cond.code yX6_slowest cX6_slowest 4 (some .int) ∈ tr_T := tr_in 339 (by decide +kernel) rfl
theorem mz_X6_slowest : tr_Mv RX6 yX6_slowest cX6_slowest 4 (some .int) 1 := ⟨tr_in 337 (by decide +kernel) rfl, tr_in 338 (by decide +kernel) rfl, tr_in 48 (by decide +kernel) rfl, mk_X6_slowest, by decide +kernel⟩
theorem mk_X6_longest : Cond.code yX6_longest cX6_longest 8 (some .int) ∈ tr_T := tr_in 343 (by decide +kernel) rfl
theorem mz_X6_longest : tr_Mv RX6 yX6_longest cX6_longest 8 (some .int) 3 := ⟨tr_in 342 (by decide +kernel) rfl, tr_in 4 (by decide +kernel) rfl, tr_in 48 (by decide +kernel) rfl, mk_X6_longest, by decide +kernel⟩
theorem mk_X6_leastMean : Cond.code yX6_leastMean cX6_leastMean 6 (some .int) ∈ tr_T := tr_in 349 (by decide +kernel) rfl
theorem mz_X6_leastMean : tr_Mv RX6 yX6_leastMean cX6_leastMean 6 (some .int) 2 := ⟨tr_in 348 (by decide +kernel) rfl, tr_in 5 (by decide +kernel) rfl, tr_in 48 (by decide +kernel) rfl, mk_X6_leastMean, by decide +kernel⟩
theorem mk_X6_compare : Cond.code yX6_compare cX6_compare 5 none ∈ tr_T := tr_in 335 (by decide +kernel) rfl
theorem mz_X6_compare : tr_Mv RX6 yX6_compare cX6_compare 5 none 1 := ⟨tr_in 333 (by decide +kernel) rfl, tr_in 334 (by decide +kernel) rfl, tr_in 48 (by decide +kernel) rfl, mk_X6_compare, by decide +kernel⟩
theorem mk_X6_gainOf : Cond.code yX6_gainOf cX6_gainOf 5 (some .int) ∈ tr_T := tr_in 356 (by decide +kernel) rfl
theorem mz_X6_gainOf : tr_Mv RX6 yX6_gainOf cX6_gainOf 5 (some .int) 3 := ⟨tr_in 355 (by decide +kernel) rfl, tr_in 6 (by decide +kernel) rfl, tr_in 48 (by decide +kernel) rfl, mk_X6_gainOf, by decide +kernel⟩
theorem mk_X6_join : Cond.code yX6_join cX6_join 7 none ∈ tr_T := tr_in 361 (by decide +kernel) rfl
theorem mz_X6_join : tr_Mv RX6 yX6_join cX6_join 7 none 3 := ⟨tr_in 360 (by decide +kernel) rfl, tr_in 7 (by decide +kernel) rfl, tr_in 48 (by decide +kernel) rfl, mk_X6_join, by decide +kernel⟩
theorem mk_X6_comesBack : Cond.code yX6_comesBack cX6_comesBack 3 (some .boolean) ∈ tr_T := tr_in 366 (by decide +kernel) rfl
theorem mz_X6_comesBack : tr_Mv RX6 yX6_comesBack cX6_comesBack 3 (some .boolean) 2 := ⟨tr_in 364 (by decide +kernel) rfl, tr_in 365 (by decide +kernel) rfl, tr_in 48 (by decide +kernel) rfl, mk_X6_comesBack, by decide +kernel⟩
theorem mk_X6_isCritical : Cond.code yX6_isCritical cX6_isCritical 4 (some .boolean) ∈ tr_T := tr_in 370 (by decide +kernel) rfl
theorem mz_X6_isCritical : tr_Mv RX6 yX6_isCritical cX6_isCritical 4 (some .boolean) 3 := ⟨tr_in 368 (by decide +kernel) rfl, tr_in 369 (by decide +kernel) rfl, tr_in 48 (by decide +kernel) rfl, mk_X6_isCritical, by decide +kernel⟩
theorem mk_X7_write : Cond.code yX7_write cX7_write 2 (some .int) ∈ tr_T := tr_in 234 (by decide +kernel) rfl
theorem mz_X7_write : tr_Mv RX7 yX7_write cX7_write 2 (some .int) 1 := ⟨tr_in 232 (by decide +kernel) rfl, tr_in 233 (by decide +kernel) rfl, tr_in 42 (by decide +kernel) rfl, mk_X7_write, by decide +kernel⟩
theorem mk_X7_wipe : Cond.code yX7_wipe cX7_wipe 2 (some .int) ∈ tr_T := tr_in 238 (by decide +kernel) rfl
theorem mz_X7_wipe : tr_Mv RX7 yX7_wipe cX7_wipe 2 (some .int) 0 := ⟨tr_in 236 (by decide +kernel) rfl, tr_in 237 (by decide +kernel) rfl, tr_in 42 (by decide +kernel) rfl, mk_X7_wipe, by decide +kernel⟩
theorem mk_X7_fault : Cond.code yX7_fault cX7_fault 1 (some .int) ∈ tr_T := tr_in 242 (by decide +kernel) rfl
theorem mz_X7_fault : tr_Mv RX7 yX7_fault cX7_fault 1 (some .int) 0 := ⟨tr_in 240 (by decide +kernel) rfl, tr_in 241 (by decide +kernel) rfl, tr_in 42 (by decide +kernel) rfl, mk_X7_fault, by decide +kernel⟩
theorem mk_X7_net : Cond.code yX7_net cX7_net 2 (some .int) ∈ tr_T := tr_in 282 (by decide +kernel) rfl
theorem mz_X7_net : tr_Mv RX7 yX7_net cX7_net 2 (some .int) 0 := ⟨tr_in 280 (by decide +kernel) rfl, tr_in 281 (by decide +kernel) rfl, tr_in 42 (by decide +kernel) rfl, mk_X7_net, by decide +kernel⟩
theorem mk_X7_about : Cond.code yX7_about cX7_about 2 (some .int) ∈ tr_T := tr_in 301 (by decide +kernel) rfl
theorem mz_X7_about : tr_Mv RX7 yX7_about cX7_about 2 (some .int) 1 := ⟨tr_in 299 (by decide +kernel) rfl, tr_in 300 (by decide +kernel) rfl, tr_in 42 (by decide +kernel) rfl, mk_X7_about, by decide +kernel⟩
theorem mk_X7_minutes : Cond.code yX7_minutes cX7_minutes 3 (some .int) ∈ tr_T := tr_in 381 (by decide +kernel) rfl
theorem mz_X7_minutes : tr_Mv RX7 yX7_minutes cX7_minutes 3 (some .int) 2 := ⟨tr_in 379 (by decide +kernel) rfl, tr_in 380 (by decide +kernel) rfl, tr_in 42 (by decide +kernel) rfl, mk_X7_minutes, by decide +kernel⟩
theorem mk_X7_put : Cond.code yX7_put cX7_put 4 (some .int) ∈ tr_T := tr_in 386 (by decide +kernel) rfl
theorem mz_X7_put : tr_Mv RX7 yX7_put cX7_put 4 (some .int) 3 := ⟨tr_in 384 (by decide +kernel) rfl, tr_in 385 (by decide +kernel) rfl, tr_in 42 (by decide +kernel) rfl, mk_X7_put, by decide +kernel⟩
theorem mk_X7_cut : Cond.code yX7_cut cX7_cut 3 (some .int) ∈ tr_T := tr_in 403 (by decide +kernel) rfl
theorem mz_X7_cut : tr_Mv RX7 yX7_cut cX7_cut 3 (some .int) 2 := ⟨tr_in 401 (by decide +kernel) rfl, tr_in 402 (by decide +kernel) rfl, tr_in 42 (by decide +kernel) rfl, mk_X7_cut, by decide +kernel⟩
theorem mk_X7_time : Cond.code yX7_time cX7_time 4 (some .int) ∈ tr_T := tr_in 407 (by decide +kernel) rfl
theorem mz_X7_time : tr_Mv RX7 yX7_time cX7_time 4 (some .int) 3 := ⟨tr_in 405 (by decide +kernel) rfl, tr_in 406 (by decide +kernel) rfl, tr_in 42 (by decide +kernel) rfl, mk_X7_time, by decide +kernel⟩
theorem mk_X7_undo : Cond.code yX7_undo cX7_undo 1 (some .int) ∈ tr_T := tr_in 411 (by decide +kernel) rfl
theorem mz_X7_undo : tr_Mv RX7 yX7_undo cX7_undo 1 (some .int) 0 := ⟨tr_in 409 (by decide +kernel) rfl, tr_in 410 (by decide +kernel) rfl, tr_in 42 (by decide +kernel) rfl, mk_X7_undo, by decide +kernel⟩
theorem mk_X7_pace : Cond.code yX7_pace cX7_pace 3 (some .int) ∈ tr_T := tr_in 420 (by decide +kernel) rfl
theorem mz_X7_pace : tr_Mv RX7 yX7_pace cX7_pace 3 (some .int) 1 := ⟨tr_in 418 (by decide +kernel) rfl, tr_in 419 (by decide +kernel) rfl, tr_in 42 (by decide +kernel) rfl, mk_X7_pace, by decide +kernel⟩
theorem mk_X7_critical : Cond.code yX7_critical cX7_critical 3 (some .int) ∈ tr_T := tr_in 430 (by decide +kernel) rfl
theorem mz_X7_critical : tr_Mv RX7 yX7_critical cX7_critical 3 (some .int) 2 := ⟨tr_in 428 (by decide +kernel) rfl, tr_in 429 (by decide +kernel) rfl, tr_in 42 (by decide +kernel) rfl, mk_X7_critical, by decide +kernel⟩
theorem mk_X7_departs : Cond.code yX7_departs cX7_departs 3 (some .int) ∈ tr_T := tr_in 434 (by decide +kernel) rfl
theorem mz_X7_departs : tr_Mv RX7 yX7_departs cX7_departs 3 (some .int) 2 := ⟨tr_in 432 (by decide +kernel) rfl, tr_in 433 (by decide +kernel) rfl, tr_in 42 (by decide +kernel) rfl, mk_X7_departs, by decide +kernel⟩
theorem mk_X7_spare : Cond.code yX7_spare cX7_spare 4 (some .int) ∈ tr_T := tr_in 453 (by decide +kernel) rfl
theorem mz_X7_spare : tr_Mv RX7 yX7_spare cX7_spare 4 (some .int) 3 := ⟨tr_in 451 (by decide +kernel) rfl, tr_in 452 (by decide +kernel) rfl, tr_in 42 (by decide +kernel) rfl, mk_X7_spare, by decide +kernel⟩
theorem mk_X7_late : Cond.code yX7_late cX7_late 6 (some .int) ∈ tr_T := tr_in 462 (by decide +kernel) rfl
theorem mz_X7_late : tr_Mv RX7 yX7_late cX7_late 6 (some .int) 5 := ⟨tr_in 460 (by decide +kernel) rfl, tr_in 461 (by decide +kernel) rfl, tr_in 42 (by decide +kernel) rfl, mk_X7_late, by decide +kernel⟩
theorem mk_X7_dies : Cond.code yX7_dies cX7_dies 4 (some .int) ∈ tr_T := tr_in 481 (by decide +kernel) rfl
theorem mz_X7_dies : tr_Mv RX7 yX7_dies cX7_dies 4 (some .int) 3 := ⟨tr_in 479 (by decide +kernel) rfl, tr_in 480 (by decide +kernel) rfl, tr_in 42 (by decide +kernel) rfl, mk_X7_dies, by decide +kernel⟩
theorem mk_X7_best : Cond.code yX7_best cX7_best 8 (some .int) ∈ tr_T := tr_in 494 (by decide +kernel) rfl
theorem mz_X7_best : tr_Mv RX7 yX7_best cX7_best 8 (some .int) 1 := ⟨tr_in 492 (by decide +kernel) rfl, tr_in 493 (by decide +kernel) rfl, tr_in 42 (by decide +kernel) rfl, mk_X7_best, by decide +kernel⟩
theorem mk_X7_judge : Cond.code yX7_judge cX7_judge 5 (some .int) ∈ tr_T := tr_in 499 (by decide +kernel) rfl
theorem mz_X7_judge : tr_Mv RX7 yX7_judge cX7_judge 5 (some .int) 2 := ⟨tr_in 497 (by decide +kernel) rfl, tr_in 498 (by decide +kernel) rfl, tr_in 42 (by decide +kernel) rfl, mk_X7_judge, by decide +kernel⟩
theorem mk_X7_share : Cond.code yX7_share cX7_share 4 (some .int) ∈ tr_T := tr_in 521 (by decide +kernel) rfl
theorem mz_X7_share : tr_Mv RX7 yX7_share cX7_share 4 (some .int) 2 := ⟨tr_in 519 (by decide +kernel) rfl, tr_in 520 (by decide +kernel) rfl, tr_in 42 (by decide +kernel) rfl, mk_X7_share, by decide +kernel⟩
theorem mk_X7_see : Cond.code yX7_see cX7_see 4 (some .int) ∈ tr_T := tr_in 532 (by decide +kernel) rfl
theorem mz_X7_see : tr_Mv RX7 yX7_see cX7_see 4 (some .int) 3 := ⟨tr_in 530 (by decide +kernel) rfl, tr_in 531 (by decide +kernel) rfl, tr_in 42 (by decide +kernel) rfl, mk_X7_see, by decide +kernel⟩
theorem mk_X7_unsee : Cond.code yX7_unsee cX7_unsee 2 (some .int) ∈ tr_T := tr_in 540 (by decide +kernel) rfl
theorem mz_X7_unsee : tr_Mv RX7 yX7_unsee cX7_unsee 2 (some .int) 0 := ⟨tr_in 538 (by decide +kernel) rfl, tr_in 539 (by decide +kernel) rfl, tr_in 42 (by decide +kernel) rfl, mk_X7_unsee, by decide +kernel⟩
theorem mk_X7_began : Cond.code yX7_began cX7_began 6 (some .int) ∈ tr_T := tr_in 544 (by decide +kernel) rfl
theorem mz_X7_began : tr_Mv RX7 yX7_began cX7_began 6 (some .int) 1 := ⟨tr_in 542 (by decide +kernel) rfl, tr_in 543 (by decide +kernel) rfl, tr_in 42 (by decide +kernel) rfl, mk_X7_began, by decide +kernel⟩
theorem mk_X7_dropped : Cond.code yX7_dropped cX7_dropped 8 (some .int) ∈ tr_T := tr_in 553 (by decide +kernel) rfl
theorem mz_X7_dropped : tr_Mv RX7 yX7_dropped cX7_dropped 8 (some .int) 4 := ⟨tr_in 551 (by decide +kernel) rfl, tr_in 552 (by decide +kernel) rfl, tr_in 42 (by decide +kernel) rfl, mk_X7_dropped, by decide +kernel⟩
theorem mk_X7_seed : Cond.code yX7_seed cX7_seed 5 (some .long) ∈ tr_T := tr_in 557 (by decide +kernel) rfl
theorem mz_X7_seed : tr_Mv RX7 yX7_seed cX7_seed 5 (some .long) 1 := ⟨tr_in 555 (by decide +kernel) rfl, tr_in 556 (by decide +kernel) rfl, tr_in 42 (by decide +kernel) rfl, mk_X7_seed, by decide +kernel⟩
theorem mk_X7_drawn : Cond.code yX7_drawn cX7_drawn 6 (some .int) ∈ tr_T := tr_in 561 (by decide +kernel) rfl
theorem mz_X7_drawn : tr_Mv RX7 yX7_drawn cX7_drawn 6 (some .int) 1 := ⟨tr_in 559 (by decide +kernel) rfl, tr_in 560 (by decide +kernel) rfl, tr_in 42 (by decide +kernel) rfl, mk_X7_drawn, by decide +kernel⟩
theorem mk_X7_keep : Cond.code yX7_keep cX7_keep 2 (some .int) ∈ tr_T := tr_in 567 (by decide +kernel) rfl
theorem mz_X7_keep : tr_Mv RX7 yX7_keep cX7_keep 2 (some .int) 1 := ⟨tr_in 565 (by decide +kernel) rfl, tr_in 566 (by decide +kernel) rfl, tr_in 42 (by decide +kernel) rfl, mk_X7_keep, by decide +kernel⟩
theorem mk_X7_again : Cond.code yX7_again cX7_again 2 (some .int) ∈ tr_T := tr_in 571 (by decide +kernel) rfl
theorem mz_X7_again : tr_Mv RX7 yX7_again cX7_again 2 (some .int) 1 := ⟨tr_in 569 (by decide +kernel) rfl, tr_in 570 (by decide +kernel) rfl, tr_in 42 (by decide +kernel) rfl, mk_X7_again, by decide +kernel⟩
theorem mk_X7_change : Cond.code yX7_change cX7_change 5 (some .int) ∈ tr_T := tr_in 390 (by decide +kernel) rfl
theorem mz_X7_change : tr_Mv RX7 yX7_change cX7_change 5 (some .int) 3 := ⟨tr_in 389 (by decide +kernel) rfl, tr_in 9 (by decide +kernel) rfl, tr_in 42 (by decide +kernel) rfl, mk_X7_change, by decide +kernel⟩
theorem mk_X7_aboutEachWait : Cond.code yX7_aboutEachWait cX7_aboutEachWait 7 (some .int) ∈ tr_T := tr_in 331 (by decide +kernel) rfl
theorem mz_X7_aboutEachWait : tr_Mv RX7 yX7_aboutEachWait cX7_aboutEachWait 7 (some .int) 1 := ⟨tr_in 330 (by decide +kernel) rfl, tr_in 3 (by decide +kernel) rfl, tr_in 42 (by decide +kernel) rfl, mk_X7_aboutEachWait, by decide +kernel⟩
theorem mk_X7_leastPeriod : Cond.code yX7_leastPeriod cX7_leastPeriod 2 (some .int) ∈ tr_T := tr_in 375 (by decide +kernel) rfl
theorem mz_X7_leastPeriod : tr_Mv RX7 yX7_leastPeriod cX7_leastPeriod 2 (some .int) 0 := ⟨tr_in 374 (by decide +kernel) rfl, tr_in 8 (by decide +kernel) rfl, tr_in 42 (by decide +kernel) rfl, mk_X7_leastPeriod, by decide +kernel⟩
theorem mk_X7_lastsUntil : Cond.code yX7_lastsUntil cX7_lastsUntil 5 (some .int) ∈ tr_T := tr_in 485 (by decide +kernel) rfl
theorem mz_X7_lastsUntil : tr_Mv RX7 yX7_lastsUntil cX7_lastsUntil 5 (some .int) 4 := ⟨tr_in 484 (by decide +kernel) rfl, tr_in 12 (by decide +kernel) rfl, tr_in 42 (by decide +kernel) rfl, mk_X7_lastsUntil, by decide +kernel⟩
theorem mk_X7_figuresOf : Cond.code yX7_figuresOf cX7_figuresOf 6 (some .int) ∈ tr_T := tr_in 504 (by decide +kernel) rfl
theorem mz_X7_figuresOf : tr_Ms yX7_figuresOf cX7_figuresOf 6 (some .int) 2 := ⟨tr_in 503 (by decide +kernel) rfl, tr_in 42 (by decide +kernel) rfl, mk_X7_figuresOf, by decide +kernel⟩
theorem mk_X7_holds : Cond.code yX7_holds cX7_holds 7 (some .boolean) ∈ tr_T := tr_in 509 (by decide +kernel) rfl
theorem mz_X7_holds : tr_Mv RX7 yX7_holds cX7_holds 7 (some .boolean) 1 := ⟨tr_in 508 (by decide +kernel) rfl, tr_in 13 (by decide +kernel) rfl, tr_in 42 (by decide +kernel) rfl, mk_X7_holds, by decide +kernel⟩
theorem mk_X7_departsAt : Cond.code yX7_departsAt cX7_departsAt 3 (some .boolean) ∈ tr_T := tr_in 513 (by decide +kernel) rfl
theorem mz_X7_departsAt : tr_Mv RX7 yX7_departsAt cX7_departsAt 3 (some .boolean) 2 := ⟨tr_in 512 (by decide +kernel) rfl, tr_in 14 (by decide +kernel) rfl, tr_in 42 (by decide +kernel) rfl, mk_X7_departsAt, by decide +kernel⟩
theorem mk_X7_isOver : Cond.code yX7_isOver cX7_isOver 3 (some .boolean) ∈ tr_T := tr_in 517 (by decide +kernel) rfl
theorem mz_X7_isOver : tr_Mv RX7 yX7_isOver cX7_isOver 3 (some .boolean) 2 := ⟨tr_in 516 (by decide +kernel) rfl, tr_in 15 (by decide +kernel) rfl, tr_in 42 (by decide +kernel) rfl, mk_X7_isOver, by decide +kernel⟩
theorem mk_X7_told : Cond.code yX7_told cX7_told 4 (some .int) ∈ tr_T := tr_in 423 (by decide +kernel) rfl
theorem mz_X7_told : tr_Ms yX7_told cX7_told 4 (some .int) 3 := ⟨tr_in 422 (by decide +kernel) rfl, tr_in 42 (by decide +kernel) rfl, mk_X7_told, by decide +kernel⟩
theorem mk_X7_commonDivisor : Cond.code yX7_commonDivisor cX7_commonDivisor 6 (some .int) ∈ tr_T := tr_in 426 (by decide +kernel) rfl
theorem mz_X7_commonDivisor : tr_Ms yX7_commonDivisor cX7_commonDivisor 6 (some .int) 2 := ⟨tr_in 425 (by decide +kernel) rfl, tr_in 42 (by decide +kernel) rfl, mk_X7_commonDivisor, by decide +kernel⟩
theorem mk_X8_in : Cond.code yX8_in cX8_in 6 (some .boolean) ∈ tr_T := tr_in 679 (by decide +kernel) rfl
theorem mz_X8_in : tr_Ms yX8_in cX8_in 6 (some .boolean) 3 := ⟨tr_in 678 (by decide +kernel) rfl, tr_in 51 (by decide +kernel) rfl, mk_X8_in, by decide +kernel⟩
theorem mk_X8_has : Cond.code yX8_has cX8_has 2 (some .boolean) ∈ tr_T := tr_in 730 (by decide +kernel) rfl
theorem mz_X8_has : tr_Ms yX8_has cX8_has 2 (some .boolean) 2 := ⟨tr_in 729 (by decide +kernel) rfl, tr_in 51 (by decide +kernel) rfl, mk_X8_has, by decide +kernel⟩
theorem mk_X8_many : Cond.code yX8_many cX8_many 5 (some .int) ∈ tr_T := tr_in 744 (by decide +kernel) rfl
theorem mz_X8_many : tr_Ms yX8_many cX8_many 5 (some .int) 1 := ⟨tr_in 743 (by decide +kernel) rfl, tr_in 51 (by decide +kernel) rfl, mk_X8_many, by decide +kernel⟩
theorem mk_X8_power : Cond.code yX8_power cX8_power 4 (some .int) ∈ tr_T := tr_in 906 (by decide +kernel) rfl
theorem mz_X8_power : tr_Ms yX8_power cX8_power 4 (some .int) 2 := ⟨tr_in 905 (by decide +kernel) rfl, tr_in 51 (by decide +kernel) rfl, mk_X8_power, by decide +kernel⟩
theorem mk_X8_noDeparture : Cond.code yX8_noDeparture cX8_noDeparture 2 (some .boolean) ∈ tr_T := tr_in 760 (by decide +kernel) rfl
theorem mz_X8_noDeparture : tr_Mv RX8 yX8_noDeparture cX8_noDeparture 2 (some .boolean) 1 := ⟨tr_in 759 (by decide +kernel) rfl, tr_in 25 (by decide +kernel) rfl, tr_in 51 (by decide +kernel) rfl, mk_X8_noDeparture, by decide +kernel⟩
theorem mk_X8_minutesOf : Cond.code yX8_minutesOf cX8_minutesOf 3 (some .int) ∈ tr_T := tr_in 708 (by decide +kernel) rfl
theorem mz_X8_minutesOf : tr_Ms yX8_minutesOf cX8_minutesOf 3 (some .int) 3 := ⟨tr_in 707 (by decide +kernel) rfl, tr_in 51 (by decide +kernel) rfl, mk_X8_minutesOf, by decide +kernel⟩
theorem mk_X8_isThere : Cond.code yX8_isThere cX8_isThere 3 (some .boolean) ∈ tr_T := tr_in 705 (by decide +kernel) rfl
theorem mz_X8_isThere : tr_Ms yX8_isThere cX8_isThere 3 (some .boolean) 3 := ⟨tr_in 704 (by decide +kernel) rfl, tr_in 51 (by decide +kernel) rfl, mk_X8_isThere, by decide +kernel⟩
theorem mk_X8_write : Cond.code yX8_write cX8_write 2 (some .int) ∈ tr_T := tr_in 675 (by decide +kernel) rfl
theorem mz_X8_write : tr_Mv RX8 yX8_write cX8_write 2 (some .int) 1 := ⟨tr_in 673 (by decide +kernel) rfl, tr_in 674 (by decide +kernel) rfl, tr_in 51 (by decide +kernel) rfl, mk_X8_write, by decide +kernel⟩
theorem mk_X8_wipe : Cond.code yX8_wipe cX8_wipe 2 (some .int) ∈ tr_T := tr_in 683 (by decide +kernel) rfl
theorem mz_X8_wipe : tr_Mv RX8 yX8_wipe cX8_wipe 2 (some .int) 0 := ⟨tr_in 681 (by decide +kernel) rfl, tr_in 682 (by decide +kernel) rfl, tr_in 51 (by decide +kernel) rfl, mk_X8_wipe, by decide +kernel⟩
theorem mk_X8_figure : Cond.code yX8_figure cX8_figure 2 (some .int) ∈ tr_T := tr_in 695 (by decide +kernel) rfl
theorem mz_X8_figure : tr_Mv RX8 yX8_figure cX8_figure 2 (some .int) 1 := ⟨tr_in 694 (by decide +kernel) rfl, tr_in 17 (by decide +kernel) rfl, tr_in 51 (by decide +kernel) rfl, mk_X8_figure, by decide +kernel⟩
theorem mk_X8_waitsFrom : Cond.code yX8_waitsFrom cX8_waitsFrom 4 (some .int) ∈ tr_T := tr_in 702 (by decide +kernel) rfl
theorem mz_X8_waitsFrom : tr_Ms yX8_waitsFrom cX8_waitsFrom 4 (some .int) 2 := ⟨tr_in 701 (by decide +kernel) rfl, tr_in 51 (by decide +kernel) rfl, mk_X8_waitsFrom, by decide +kernel⟩
theorem mk_X8_readWait : Cond.code yX8_readWait cX8_readWait 5 (some .boolean) ∈ tr_T := tr_in 699 (by decide +kernel) rfl
theorem mz_X8_readWait : tr_Mv RX8 yX8_readWait cX8_readWait 5 (some .boolean) 0 := ⟨tr_in 698 (by decide +kernel) rfl, tr_in 18 (by decide +kernel) rfl, tr_in 51 (by decide +kernel) rfl, mk_X8_readWait, by decide +kernel⟩
theorem mk_X8_readNet : Cond.code yX8_readNet cX8_readNet 2 (some .int) ∈ tr_T := tr_in 691 (by decide +kernel) rfl
theorem mz_X8_readNet : tr_Mv RX8 yX8_readNet cX8_readNet 2 (some .int) 0 := ⟨tr_in 690 (by decide +kernel) rfl, tr_in 16 (by decide +kernel) rfl, tr_in 51 (by decide +kernel) rfl, mk_X8_readNet, by decide +kernel⟩
theorem mk_X8_fault : Cond.code yX8_fault cX8_fault 1 (some .int) ∈ tr_T := tr_in 687 (by decide +kernel) rfl
theorem mz_X8_fault : tr_Mv RX8 yX8_fault cX8_fault 1 (some .int) 0 := ⟨tr_in 685 (by decide +kernel) rfl, tr_in 686 (by decide +kernel) rfl, tr_in 51 (by decide +kernel) rfl, mk_X8_fault, by decide +kernel⟩
theorem mk_X8_waits : Cond.code yX8_waits cX8_waits 3 (some .int) ∈ tr_T := tr_in 715 (by decide +kernel) rfl
theorem mz_X8_waits : tr_Ms yX8_waits cX8_waits 3 (some .int) 1 := ⟨tr_in 714 (by decide +kernel) rfl, tr_in 51 (by decide +kernel) rfl, mk_X8_waits, by decide +kernel⟩
theorem mk_X8_net : Cond.code yX8_net cX8_net 2 (some .int) ∈ tr_T := tr_in 712 (by decide +kernel) rfl
theorem mz_X8_net : tr_Mv RX8 yX8_net cX8_net 2 (some .int) 0 := ⟨tr_in 710 (by decide +kernel) rfl, tr_in 711 (by decide +kernel) rfl, tr_in 51 (by decide +kernel) rfl, mk_X8_net, by decide +kernel⟩
theorem mk_X8_closeRing : Cond.code yX8_closeRing cX8_closeRing 9 none ∈ tr_T := tr_in 738 (by decide +kernel) rfl
theorem mz_X8_closeRing : tr_Mv RX8 yX8_closeRing cX8_closeRing 9 none 2 := ⟨tr_in 737 (by decide +kernel) rfl, tr_in 22 (by decide +kernel) rfl, tr_in 51 (by decide +kernel) rfl, mk_X8_closeRing, by decide +kernel⟩
theorem mk_X8_isIn : Cond.code yX8_isIn cX8_isIn 5 (some .boolean) ∈ tr_T := tr_in 741 (by decide +kernel) rfl
theorem mz_X8_isIn : tr_Ms yX8_isIn cX8_isIn 5 (some .boolean) 3 := ⟨tr_in 740 (by decide +kernel) rfl, tr_in 51 (by decide +kernel) rfl, mk_X8_isIn, by decide +kernel⟩
theorem mk_X8_ringsFrom : Cond.code yX8_ringsFrom cX8_ringsFrom 7 none ∈ tr_T := tr_in 734 (by decide +kernel) rfl
theorem mz_X8_ringsFrom : tr_Mv RX8 yX8_ringsFrom cX8_ringsFrom 7 none 3 := ⟨tr_in 733 (by decide +kernel) rfl, tr_in 21 (by decide +kernel) rfl, tr_in 51 (by decide +kernel) rfl, mk_X8_ringsFrom, by decide +kernel⟩
theorem mk_X8_findRings : Cond.code yX8_findRings cX8_findRings 4 none ∈ tr_T := tr_in 727 (by decide +kernel) rfl
theorem mz_X8_findRings : tr_Mv RX8 yX8_findRings cX8_findRings 4 none 2 := ⟨tr_in 726 (by decide +kernel) rfl, tr_in 20 (by decide +kernel) rfl, tr_in 51 (by decide +kernel) rfl, mk_X8_findRings, by decide +kernel⟩
theorem mk_X8_find : Cond.code yX8_find cX8_find 2 none ∈ tr_T := tr_in 723 (by decide +kernel) rfl
theorem mz_X8_find : tr_Mv RX8 yX8_find cX8_find 2 none 1 := ⟨tr_in 722 (by decide +kernel) rfl, tr_in 19 (by decide +kernel) rfl, tr_in 51 (by decide +kernel) rfl, mk_X8_find, by decide +kernel⟩
theorem mk_X8_isPeriod : Cond.code yX8_isPeriod cX8_isPeriod 3 (some .boolean) ∈ tr_T := tr_in 752 (by decide +kernel) rfl
theorem mz_X8_isPeriod : tr_Mv RX8 yX8_isPeriod cX8_isPeriod 3 (some .boolean) 2 := ⟨tr_in 751 (by decide +kernel) rfl, tr_in 24 (by decide +kernel) rfl, tr_in 51 (by decide +kernel) rfl, mk_X8_isPeriod, by decide +kernel⟩
theorem mk_X8_leastPeriod : Cond.code yX8_leastPeriod cX8_leastPeriod 2 (some .int) ∈ tr_T := tr_in 748 (by decide +kernel) rfl
theorem mz_X8_leastPeriod : tr_Mv RX8 yX8_leastPeriod cX8_leastPeriod 2 (some .int) 0 := ⟨tr_in 747 (by decide +kernel) rfl, tr_in 23 (by decide +kernel) rfl, tr_in 51 (by decide +kernel) rfl, mk_X8_leastPeriod, by decide +kernel⟩
theorem mk_X8_about : Cond.code yX8_about cX8_about 2 (some .int) ∈ tr_T := tr_in 719 (by decide +kernel) rfl
theorem mz_X8_about : tr_Mv RX8 yX8_about cX8_about 2 (some .int) 1 := ⟨tr_in 717 (by decide +kernel) rfl, tr_in 718 (by decide +kernel) rfl, tr_in 51 (by decide +kernel) rfl, mk_X8_about, by decide +kernel⟩
theorem mk_X8_minutes : Cond.code yX8_minutes cX8_minutes 3 (some .int) ∈ tr_T := tr_in 756 (by decide +kernel) rfl
theorem mz_X8_minutes : tr_Mv RX8 yX8_minutes cX8_minutes 3 (some .int) 2 := ⟨tr_in 754 (by decide +kernel) rfl, tr_in 755 (by decide +kernel) rfl, tr_in 51 (by decide +kernel) rfl, mk_X8_minutes, by decide +kernel⟩
theorem mk_X8_note : Cond.code yX8_note cX8_note 2 none ∈ tr_T := tr_in 769 (by decide +kernel) rfl
theorem mz_X8_note : tr_Mv RX8 yX8_note cX8_note 2 none 0 := ⟨tr_in 768 (by decide +kernel) rfl, tr_in 26 (by decide +kernel) rfl, tr_in 51 (by decide +kernel) rfl, mk_X8_note, by decide +kernel⟩
theorem mk_X8_put : Cond.code yX8_put cX8_put 4 (some .int) ∈ tr_T := tr_in 764 (by decide +kernel) rfl
theorem mz_X8_put : tr_Mv RX8 yX8_put cX8_put 4 (some .int) 3 := ⟨tr_in 762 (by decide +kernel) rfl, tr_in 763 (by decide +kernel) rfl, tr_in 51 (by decide +kernel) rfl, mk_X8_put, by decide +kernel⟩
theorem mk_X8_cut : Cond.code yX8_cut cX8_cut 4 (some .int) ∈ tr_T := tr_in 773 (by decide +kernel) rfl
theorem mz_X8_cut : tr_Mv RX8 yX8_cut cX8_cut 4 (some .int) 2 := ⟨tr_in 771 (by decide +kernel) rfl, tr_in 772 (by decide +kernel) rfl, tr_in 51 (by decide +kernel) rfl, mk_X8_cut, by decide +kernel⟩
theorem mk_X8_time : Cond.code yX8_time cX8_time 5 (some .int) ∈ tr_T := tr_in 777 (by decide +kernel) rfl
theorem mz_X8_time : tr_Mv RX8 yX8_time cX8_time 5 (some .int) 3 := ⟨tr_in 775 (by decide +kernel) rfl, tr_in 776 (by decide +kernel) rfl, tr_in 51 (by decide +kernel) rfl, mk_X8_time, by decide +kernel⟩
theorem mk_X8_undo : Cond.code yX8_undo cX8_undo 2 (some .int) ∈ tr_T := tr_in 781 (by decide +kernel) rfl
theorem mz_X8_undo : tr_Mv RX8 yX8_undo cX8_undo 2 (some .int) 0 := ⟨tr_in 779 (by decide +kernel) rfl, tr_in 780 (by decide +kernel) rfl, tr_in 51 (by decide +kernel) rfl, mk_X8_undo, by decide +kernel⟩
theorem mk_X8_divisor : Cond.code yX8_divisor cX8_divisor 5 (some .int) ∈ tr_T := tr_in 791 (by decide +kernel) rfl
theorem mz_X8_divisor : tr_Ms yX8_divisor cX8_divisor 5 (some .int) 2 := ⟨tr_in 790 (by decide +kernel) rfl, tr_in 51 (by decide +kernel) rfl, mk_X8_divisor, by decide +kernel⟩
theorem mk_X8_fraction : Cond.code yX8_fraction cX8_fraction 4 (some .int) ∈ tr_T := tr_in 788 (by decide +kernel) rfl
theorem mz_X8_fraction : tr_Ms yX8_fraction cX8_fraction 4 (some .int) 3 := ⟨tr_in 787 (by decide +kernel) rfl, tr_in 51 (by decide +kernel) rfl, mk_X8_fraction, by decide +kernel⟩
theorem mk_X8_pace : Cond.code yX8_pace cX8_pace 2 (some .int) ∈ tr_T := tr_in 785 (by decide +kernel) rfl
theorem mz_X8_pace : tr_Mv RX8 yX8_pace cX8_pace 2 (some .int) 1 := ⟨tr_in 783 (by decide +kernel) rfl, tr_in 784 (by decide +kernel) rfl, tr_in 51 (by decide +kernel) rfl, mk_X8_pace, by decide +kernel⟩
theorem mk_X8_critical : Cond.code yX8_critical cX8_critical 3 (some .int) ∈ tr_T := tr_in 795 (by decide +kernel) rfl
theorem mz_X8_critical : tr_Mv RX8 yX8_critical cX8_critical 3 (some .int) 2 := ⟨tr_in 793 (by decide +kernel) rfl, tr_in 794 (by decide +kernel) rfl, tr_in 51 (by decide +kernel) rfl, mk_X8_critical, by decide +kernel⟩
theorem mk_X8_layTimes : Cond.code yX8_layTimes cX8_layTimes 7 none ∈ tr_T := tr_in 804 (by decide +kernel) rfl
theorem mz_X8_layTimes : tr_Mv RX8 yX8_layTimes cX8_layTimes 7 none 2 := ⟨tr_in 803 (by decide +kernel) rfl, tr_in 27 (by decide +kernel) rfl, tr_in 51 (by decide +kernel) rfl, mk_X8_layTimes, by decide +kernel⟩
theorem mk_X8_spareOf : Cond.code yX8_spareOf cX8_spareOf 5 (some .int) ∈ tr_T := tr_in 812 (by decide +kernel) rfl
theorem mz_X8_spareOf : tr_Mv RX8 yX8_spareOf cX8_spareOf 5 (some .int) 4 := ⟨tr_in 811 (by decide +kernel) rfl, tr_in 28 (by decide +kernel) rfl, tr_in 51 (by decide +kernel) rfl, mk_X8_spareOf, by decide +kernel⟩
theorem mk_X8_departs : Cond.code yX8_departs cX8_departs 3 (some .int) ∈ tr_T := tr_in 799 (by decide +kernel) rfl
theorem mz_X8_departs : tr_Mv RX8 yX8_departs cX8_departs 3 (some .int) 2 := ⟨tr_in 797 (by decide +kernel) rfl, tr_in 798 (by decide +kernel) rfl, tr_in 51 (by decide +kernel) rfl, mk_X8_departs, by decide +kernel⟩
theorem mk_X8_spare : Cond.code yX8_spare cX8_spare 4 (some .int) ∈ tr_T := tr_in 808 (by decide +kernel) rfl
theorem mz_X8_spare : tr_Mv RX8 yX8_spare cX8_spare 4 (some .int) 3 := ⟨tr_in 806 (by decide +kernel) rfl, tr_in 807 (by decide +kernel) rfl, tr_in 51 (by decide +kernel) rfl, mk_X8_spare, by decide +kernel⟩
theorem mk_X8_beginLate : Cond.code yX8_beginLate cX8_beginLate 4 none ∈ tr_T := tr_in 822 (by decide +kernel) rfl
theorem mz_X8_beginLate : tr_Mv RX8 yX8_beginLate cX8_beginLate 4 none 2 := ⟨tr_in 821 (by decide +kernel) rfl, tr_in 29 (by decide +kernel) rfl, tr_in 51 (by decide +kernel) rfl, mk_X8_beginLate, by decide +kernel⟩
theorem mk_X8_goRound : Cond.code yX8_goRound cX8_goRound 7 (some .int) ∈ tr_T := tr_in 826 (by decide +kernel) rfl
theorem mz_X8_goRound : tr_Mv RX8 yX8_goRound cX8_goRound 7 (some .int) 2 := ⟨tr_in 825 (by decide +kernel) rfl, tr_in 30 (by decide +kernel) rfl, tr_in 51 (by decide +kernel) rfl, mk_X8_goRound, by decide +kernel⟩
theorem mk_X8_late : Cond.code yX8_late cX8_late 7 (some .int) ∈ tr_T := tr_in 816 (by decide +kernel) rfl
theorem mz_X8_late : tr_Mv RX8 yX8_late cX8_late 7 (some .int) 5 := ⟨tr_in 814 (by decide +kernel) rfl, tr_in 815 (by decide +kernel) rfl, tr_in 51 (by decide +kernel) rfl, mk_X8_late, by decide +kernel⟩
theorem mk_X8_diesOf : Cond.code yX8_diesOf cX8_diesOf 6 (some .int) ∈ tr_T := tr_in 834 (by decide +kernel) rfl
theorem mz_X8_diesOf : tr_Mv RX8 yX8_diesOf cX8_diesOf 6 (some .int) 4 := ⟨tr_in 833 (by decide +kernel) rfl, tr_in 31 (by decide +kernel) rfl, tr_in 51 (by decide +kernel) rfl, mk_X8_diesOf, by decide +kernel⟩
theorem mk_X8_dies : Cond.code yX8_dies cX8_dies 4 (some .int) ∈ tr_T := tr_in 830 (by decide +kernel) rfl
theorem mz_X8_dies : tr_Mv RX8 yX8_dies cX8_dies 4 (some .int) 3 := ⟨tr_in 828 (by decide +kernel) rfl, tr_in 829 (by decide +kernel) rfl, tr_in 51 (by decide +kernel) rfl, mk_X8_dies, by decide +kernel⟩
theorem mk_X8_begin : Cond.code yX8_begin cX8_begin 2 none ∈ tr_T := tr_in 842 (by decide +kernel) rfl
theorem mz_X8_begin : tr_Mv RX8 yX8_begin cX8_begin 2 none 0 := ⟨tr_in 841 (by decide +kernel) rfl, tr_in 32 (by decide +kernel) rfl, tr_in 51 (by decide +kernel) rfl, mk_X8_begin, by decide +kernel⟩
theorem mk_X8_sixtiethsOf : Cond.code yX8_sixtiethsOf cX8_sixtiethsOf 3 (some .int) ∈ tr_T := tr_in 846 (by decide +kernel) rfl
theorem mz_X8_sixtiethsOf : tr_Mv RX8 yX8_sixtiethsOf cX8_sixtiethsOf 3 (some .int) 2 := ⟨tr_in 845 (by decide +kernel) rfl, tr_in 33 (by decide +kernel) rfl, tr_in 51 (by decide +kernel) rfl, mk_X8_sixtiethsOf, by decide +kernel⟩
theorem mk_X8_best : Cond.code yX8_best cX8_best 7 (some .int) ∈ tr_T := tr_in 838 (by decide +kernel) rfl
theorem mz_X8_best : tr_Mv RX8 yX8_best cX8_best 7 (some .int) 1 := ⟨tr_in 836 (by decide +kernel) rfl, tr_in 837 (by decide +kernel) rfl, tr_in 51 (by decide +kernel) rfl, mk_X8_best, by decide +kernel⟩
theorem mk_X8_longPower : Cond.code yX8_longPower cX8_longPower 6 (some .long) ∈ tr_T := tr_in 855 (by decide +kernel) rfl
theorem mz_X8_longPower : tr_Ms yX8_longPower cX8_longPower 6 (some .long) 2 := ⟨tr_in 854 (by decide +kernel) rfl, tr_in 51 (by decide +kernel) rfl, mk_X8_longPower, by decide +kernel⟩
theorem mk_X8_sets : Cond.code yX8_sets cX8_sets 6 (some .boolean) ∈ tr_T := tr_in 863 (by decide +kernel) rfl
theorem mz_X8_sets : tr_Mv RX8 yX8_sets cX8_sets 6 (some .boolean) 4 := ⟨tr_in 862 (by decide +kernel) rfl, tr_in 35 (by decide +kernel) rfl, tr_in 51 (by decide +kernel) rfl, mk_X8_sets, by decide +kernel⟩
theorem mk_X8_isCritical : Cond.code yX8_isCritical cX8_isCritical 3 (some .boolean) ∈ tr_T := tr_in 867 (by decide +kernel) rfl
theorem mz_X8_isCritical : tr_Mv RX8 yX8_isCritical cX8_isCritical 3 (some .boolean) 2 := ⟨tr_in 866 (by decide +kernel) rfl, tr_in 36 (by decide +kernel) rfl, tr_in 51 (by decide +kernel) rfl, mk_X8_isCritical, by decide +kernel⟩
theorem mk_X8_isTime : Cond.code yX8_isTime cX8_isTime 3 (some .boolean) ∈ tr_T := tr_in 871 (by decide +kernel) rfl
theorem mz_X8_isTime : tr_Mv RX8 yX8_isTime cX8_isTime 3 (some .boolean) 2 := ⟨tr_in 870 (by decide +kernel) rfl, tr_in 37 (by decide +kernel) rfl, tr_in 51 (by decide +kernel) rfl, mk_X8_isTime, by decide +kernel⟩
theorem mk_X8_does : Cond.code yX8_does cX8_does 6 (some .boolean) ∈ tr_T := tr_in 859 (by decide +kernel) rfl
theorem mz_X8_does : tr_Mv RX8 yX8_does cX8_does 6 (some .boolean) 1 := ⟨tr_in 858 (by decide +kernel) rfl, tr_in 34 (by decide +kernel) rfl, tr_in 51 (by decide +kernel) rfl, mk_X8_does, by decide +kernel⟩
theorem mk_X8_judge : Cond.code yX8_judge cX8_judge 5 (some .int) ∈ tr_T := tr_in 850 (by decide +kernel) rfl
theorem mz_X8_judge : tr_Mv RX8 yX8_judge cX8_judge 5 (some .int) 2 := ⟨tr_in 848 (by decide +kernel) rfl, tr_in 849 (by decide +kernel) rfl, tr_in 51 (by decide +kernel) rfl, mk_X8_judge, by decide +kernel⟩
theorem mk_X8_orders : Cond.code yX8_orders cX8_orders 4 (some .int) ∈ tr_T := tr_in 878 (by decide +kernel) rfl
theorem mz_X8_orders : tr_Ms yX8_orders cX8_orders 4 (some .int) 2 := ⟨tr_in 877 (by decide +kernel) rfl, tr_in 51 (by decide +kernel) rfl, mk_X8_orders, by decide +kernel⟩
theorem mk_X8_share : Cond.code yX8_share cX8_share 8 (some .int) ∈ tr_T := tr_in 875 (by decide +kernel) rfl
theorem mz_X8_share : tr_Mv RX8 yX8_share cX8_share 8 (some .int) 2 := ⟨tr_in 873 (by decide +kernel) rfl, tr_in 874 (by decide +kernel) rfl, tr_in 51 (by decide +kernel) rfl, mk_X8_share, by decide +kernel⟩
theorem mk_X8_see : Cond.code yX8_see cX8_see 4 (some .int) ∈ tr_T := tr_in 882 (by decide +kernel) rfl
theorem mz_X8_see : tr_Mv RX8 yX8_see cX8_see 4 (some .int) 3 := ⟨tr_in 880 (by decide +kernel) rfl, tr_in 881 (by decide +kernel) rfl, tr_in 51 (by decide +kernel) rfl, mk_X8_see, by decide +kernel⟩
theorem mk_X8_unsee : Cond.code yX8_unsee cX8_unsee 2 (some .int) ∈ tr_T := tr_in 886 (by decide +kernel) rfl
theorem mz_X8_unsee : tr_Mv RX8 yX8_unsee cX8_unsee 2 (some .int) 0 := ⟨tr_in 884 (by decide +kernel) rfl, tr_in 885 (by decide +kernel) rfl, tr_in 51 (by decide +kernel) rfl, mk_X8_unsee, by decide +kernel⟩
theorem mk_X8_explains : Cond.code yX8_explains cX8_explains 6 (some .boolean) ∈ tr_T := tr_in 894 (by decide +kernel) rfl
theorem mz_X8_explains : tr_Mv RX8 yX8_explains cX8_explains 6 (some .boolean) 2 := ⟨tr_in 893 (by decide +kernel) rfl, tr_in 38 (by decide +kernel) rfl, tr_in 51 (by decide +kernel) rfl, mk_X8_explains, by decide +kernel⟩
theorem mk_X8_began : Cond.code yX8_began cX8_began 5 (some .int) ∈ tr_T := tr_in 890 (by decide +kernel) rfl
theorem mz_X8_began : tr_Mv RX8 yX8_began cX8_began 5 (some .int) 1 := ⟨tr_in 888 (by decide +kernel) rfl, tr_in 889 (by decide +kernel) rfl, tr_in 51 (by decide +kernel) rfl, mk_X8_began, by decide +kernel⟩
theorem mk_X8_drops : Cond.code yX8_drops cX8_drops 5 (some .int) ∈ tr_T := tr_in 903 (by decide +kernel) rfl
theorem mz_X8_drops : tr_Mv RX8 yX8_drops cX8_drops 5 (some .int) 2 := ⟨tr_in 902 (by decide +kernel) rfl, tr_in 39 (by decide +kernel) rfl, tr_in 51 (by decide +kernel) rfl, mk_X8_drops, by decide +kernel⟩
theorem mk_X8_dropped : Cond.code yX8_dropped cX8_dropped 9 (some .int) ∈ tr_T := tr_in 898 (by decide +kernel) rfl
theorem mz_X8_dropped : tr_Mv RX8 yX8_dropped cX8_dropped 9 (some .int) 4 := ⟨tr_in 896 (by decide +kernel) rfl, tr_in 897 (by decide +kernel) rfl, tr_in 51 (by decide +kernel) rfl, mk_X8_dropped, by decide +kernel⟩
theorem mk_X8_seed : Cond.code yX8_seed cX8_seed 5 (some .long) ∈ tr_T := tr_in 910 (by decide +kernel) rfl
theorem mz_X8_seed : tr_Mv RX8 yX8_seed cX8_seed 5 (some .long) 1 := ⟨tr_in 908 (by decide +kernel) rfl, tr_in 909 (by decide +kernel) rfl, tr_in 51 (by decide +kernel) rfl, mk_X8_seed, by decide +kernel⟩
theorem mk_X8_draw : Cond.code yX8_draw cX8_draw 4 none ∈ tr_T := tr_in 920 (by decide +kernel) rfl
theorem mz_X8_draw : tr_Mv RX8 yX8_draw cX8_draw 4 none 3 := ⟨tr_in 919 (by decide +kernel) rfl, tr_in 40 (by decide +kernel) rfl, tr_in 51 (by decide +kernel) rfl, mk_X8_draw, by decide +kernel⟩
theorem mk_X8_drawn : Cond.code yX8_drawn cX8_drawn 5 (some .int) ∈ tr_T := tr_in 914 (by decide +kernel) rfl
theorem mz_X8_drawn : tr_Mv RX8 yX8_drawn cX8_drawn 5 (some .int) 1 := ⟨tr_in 912 (by decide +kernel) rfl, tr_in 913 (by decide +kernel) rfl, tr_in 51 (by decide +kernel) rfl, mk_X8_drawn, by decide +kernel⟩
theorem mk_X8_keep : Cond.code yX8_keep cX8_keep 3 (some .int) ∈ tr_T := tr_in 924 (by decide +kernel) rfl
theorem mz_X8_keep : tr_Mv RX8 yX8_keep cX8_keep 3 (some .int) 1 := ⟨tr_in 922 (by decide +kernel) rfl, tr_in 923 (by decide +kernel) rfl, tr_in 51 (by decide +kernel) rfl, mk_X8_keep, by decide +kernel⟩
theorem mk_X8_again : Cond.code yX8_again cX8_again 3 (some .int) ∈ tr_T := tr_in 928 (by decide +kernel) rfl
theorem mz_X8_again : tr_Mv RX8 yX8_again cX8_again 3 (some .int) 1 := ⟨tr_in 926 (by decide +kernel) rfl, tr_in 927 (by decide +kernel) rfl, tr_in 51 (by decide +kernel) rfl, mk_X8_again, by decide +kernel⟩
theorem mk_J6_bitCount_0f7a4 : Cond.code yJ6_bitCount_0f7a4 cJ6_bitCount_0f7a4 1 (some .int) ∈ tr_T := tr_in 319 (by decide +kernel) rfl
theorem mz_J6_bitCount_0f7a4 : tr_Ms yJ6_bitCount_0f7a4 cJ6_bitCount_0f7a4 1 (some .int) 1 := ⟨tr_in 318 (by decide +kernel) rfl, tr_in 54 (by decide +kernel) rfl, mk_J6_bitCount_0f7a4, by decide +kernel⟩
theorem mk_J7_fill_53178 : Cond.code yJ7_fill_53178 cJ7_fill_53178 4 none ∈ tr_T := tr_in 71 (by decide +kernel) rfl
theorem mz_J7_fill_53178 : tr_Ms yJ7_fill_53178 cJ7_fill_53178 4 none 2 := ⟨tr_in 70 (by decide +kernel) rfl, tr_in 44 (by decide +kernel) rfl, mk_J7_fill_53178, by decide +kernel⟩
theorem mc_J6_265 : Cond.constant RJ6 265 (1431655765) ∈ tr_T := tr_in 320 (by decide +kernel) rfl
theorem mc_J6_266 : Cond.constant RJ6 266 (858993459) ∈ tr_T := tr_in 321 (by decide +kernel) rfl
theorem mc_J6_267 : Cond.constant RJ6 267 (252645135) ∈ tr_T := tr_in 322 (by decide +kernel) rfl
theorem mc_X0_46 : Cond.constant RX0 46 (1000000) ∈ tr_T := tr_in 467 (by decide +kernel) rfl
theorem mc_X6_44 : Cond.constant RX6 44 (1000000) ∈ tr_T := tr_in 350 (by decide +kernel) rfl
theorem mc_X6_61 : Cond.constant RX6 61 (-1000000) ∈ tr_T := tr_in 357 (by decide +kernel) rfl
theorem mc_X7_168 : Cond.constant RX7 168 (1000000) ∈ tr_T := tr_in 495 (by decide +kernel) rfl
theorem mc_X7_201 : Cond.constantLong RX7 201 (6364136223846793005) ∈ tr_T := tr_in 562 (by decide +kernel) rfl
theorem mc_X7_203 : Cond.constantLong RX7 203 (1442695040888963407) ∈ tr_T := tr_in 563 (by decide +kernel) rfl
theorem mc_X7_220 : Cond.constantLong RX7 220 (10000) ∈ tr_T := tr_in 505 (by decide +kernel) rfl
theorem mc_X8_71 : Cond.constantLong RX8 71 (255) ∈ tr_T := tr_in 676 (by decide +kernel) rfl
theorem mc_X8_168 : Cond.constantLong RX8 168 (9) ∈ tr_T := tr_in 765 (by decide +kernel) rfl
theorem mc_X8_181 : Cond.constantLong RX8 181 (20) ∈ tr_T := tr_in 800 (by decide +kernel) rfl
theorem mc_X8_190 : Cond.constantLong RX8 190 (30) ∈ tr_T := tr_in 817 (by decide +kernel) rfl
theorem mc_X8_192 : Cond.constantLong RX8 192 (40) ∈ tr_T := tr_in 818 (by decide +kernel) rfl
theorem mc_X8_220 : Cond.constantLong RX8 220 (4) ∈ tr_T := tr_in 851 (by decide +kernel) rfl
theorem mc_X8_222 : Cond.constantLong RX8 222 (10000) ∈ tr_T := tr_in 852 (by decide +kernel) rfl
theorem mc_X8_243 : Cond.constantLong RX8 243 (10) ∈ tr_T := tr_in 899 (by decide +kernel) rfl
theorem mc_X8_254 : Cond.constantLong RX8 254 (6364136223846793005) ∈ tr_T := tr_in 915 (by decide +kernel) rfl
theorem mc_X8_256 : Cond.constantLong RX8 256 (1442695040888963407) ∈ tr_T := tr_in 916 (by decide +kernel) rfl
theorem mm_max : (Cond.static Lib.Math.max.name ∈ tr_T ∧ Cond.initialized "java/lang/Math" ∈ tr_T) ∧ Cond.code Lib.Math.max.name Lib.Math.max.code 2 (some .int) ∈ tr_T := ⟨⟨tr_in 255 (by decide +kernel) rfl, tr_in 52 (by decide +kernel) rfl⟩, tr_in 256 (by decide +kernel) rfl⟩
theorem mm_min : (Cond.static Lib.Math.min.name ∈ tr_T ∧ Cond.initialized "java/lang/Math" ∈ tr_T) ∧ Cond.code Lib.Math.min.name Lib.Math.min.code 2 (some .int) ∈ tr_T := ⟨⟨tr_in 252 (by decide +kernel) rfl, tr_in 52 (by decide +kernel) rfl⟩, tr_in 253 (by decide +kernel) rfl⟩
theorem mm_copy : (Cond.native arraycopyName ∈ tr_T ∧ Cond.static arraycopyName ∈ tr_T) ∧ Cond.initialized "java/lang/System" ∈ tr_T := ⟨⟨tr_in 289 (by decide +kernel) rfl, tr_in 288 (by decide +kernel) rfl⟩, tr_in 53 (by decide +kernel) rfl⟩
section TRF
variable {p : Program} {l : Launch} {e : Env} {R : Room} {s : State} {m : MethodId} {args : Array Value} {below : List Frame} {meth : Method} {c : Code} {H : Heap} {locs : List Loc} {cells slots : Nat} {Q : State → Prop}
variable {cc : ByteArray} {nL pc idx : Nat} {own : String} {Y : tr_Y} {w : tr_E} {h : tr_H} {ls : Array Slot} {rest : List Value} {lv : List (Nat × Value)}
theorem tr_mx {x y : Int32} (C : tr_Cx p s m args c cc nL own Y w) (hl : lv_has ls nL lv) (hlk : Cond.methodLink own idx Lib.Math.max.name ∈ tr_T) (hR : 1 ≤ R.frames ∧ (rest.map fun v => v.category).sum + 13 ≤ R.locals) (hf : cells ≤ R.cells ∧ slots ≤ R.slots) (hdg : decode cc pc = .ok (.invokestatic idx, 3))
    (kk : W p l e R s m args below meth c H locs cells slots Q (F0 m (pc + 3) ls (.int (tr_max x y) :: rest))) : W p l e R s m args below meth c H locs cells slots Q (F0 m pc ls (.int y :: .int x :: rest)) := by
  obtain ⟨hx, hb, hml, hown, hts, hG⟩ := C
  exact va_mmax hx hb (hml.trans hl.1.symm) hown (hts _ hlk) (hts _ mm_max.1.1) (hts _ mm_max.1.2) (hts _ mm_max.2) hR.1 hR.2 hf.1 hf.2 hdg kk
theorem tr_mn {x y : Int32} (C : tr_Cx p s m args c cc nL own Y w) (hl : lv_has ls nL lv) (hlk : Cond.methodLink own idx Lib.Math.min.name ∈ tr_T) (hR : 1 ≤ R.frames ∧ (rest.map fun v => v.category).sum + 13 ≤ R.locals) (hf : cells ≤ R.cells ∧ slots ≤ R.slots) (hdg : decode cc pc = .ok (.invokestatic idx, 3))
    (kk : W p l e R s m args below meth c H locs cells slots Q (F0 m (pc + 3) ls (.int (tr_min x y) :: rest))) : W p l e R s m args below meth c H locs cells slots Q (F0 m pc ls (.int y :: .int x :: rest)) := by
  obtain ⟨hx, hb, hml, hown, hts, hG⟩ := C
  exact va_mmin hx hb (hml.trans hl.1.symm) hown (hts _ hlk) (hts _ mm_min.1.1) (hts _ mm_min.1.2) (hts _ mm_min.2) hR.1 hR.2 hf.1 hf.2 hdg kk
theorem tr_acp {i j : Nat} (C : tr_Cx p s m args c cc nL own Y w) (hP : va_P w.1 vwCl (tr_cs Y w h) H) (hS : va_S (tr_R Y w) s.heap H locs) (hl : lv_has ls nL lv) (ha1 : tr_Ar Y w i 36) (ha2 : tr_Ar Y w j 36) (hlk : Cond.methodLink own idx arraycopyName ∈ tr_T) (hR : 1 ≤ R.frames ∧ (rest.map fun v => v.category).sum + (nativeFrameWords "java/lang/System" "arraycopy" 5 + 11) ≤ R.locals) (hdg : decode cc pc = .ok (.invokestatic idx, 3))
    (kk : ∀ (H1 : Heap) (locs1 : List Loc), va_P w.1 vwCl (tr_cs Y w (tr_cp h i j)) H1 → va_S (tr_R Y w) s.heap H1 locs1 → W p l e R s m args below meth c H1 locs1 cells slots Q (F0 m (pc + 3) ls rest)) : W p l e R s m args below meth c H locs cells slots Q (F0 m pc ls (.int 36 :: .int 0 :: .ref (tr_ad w j) :: .int 0 :: .ref (tr_ad w i) :: rest)) := by
  obtain ⟨hx, hb, hml, hown, hts, hG⟩ := C
  refine va_copyi (ty := .int) hx hb (hml.trans hl.1.symm) hown (hts _ hlk) (hts _ mm_copy.1.1) (hts _ mm_copy.1.2) (hts _ mm_copy.2) hG.1 hP (hG.2.1.D h) hS i j 0 0 (by rw [tr_cs_at ha1.1, ha1.2]) (by rw [tr_cs_at ha2.1, ha2.2]) rfl rfl rfl (by decide) (by decide) (by decide) (by decide) (by decide) (fun _ _ => rfl) hR.1 hR.2 hdg (fun H1 locs1 hP1 hD1 hS1 => ?_)
  have hP2 := hP1
  rw [tr_cs_seta ha2.1 (ha2.2 _ _)] at hP2
  exact kk H1 locs1 hP2 hS1
theorem tr_nal (C : tr_Cx p s m args c cc nL own tr_X w) (hP : va_P w.1 vwCl (tr_cs tr_X w h) H) {i : Int32} (hin : vp_in i 2) (hdg : decode cc pc = .ok (.aaload, 1))
    (kk : W p l e R s m args below meth c H locs cells slots Q (F0 m (pc + 1) ls (.ref (tr_ad w (6 + 2 * i.toNatClampNeg)) :: rest))) : W p l e R s m args below meth c H locs cells slots Q (F0 m pc ls (.int i :: .ref (tr_ad w 10) :: rest)) := by
  obtain ⟨hx, hb, hml, hown, hts, hG⟩ := C
  have h1 : i.toNatClampNeg < 2 := Nat.not_le.mp fun q => hin (Or.inr q)
  have h2 : va_rf ((va_up (va_up (fun _ => none) 0 (some (tr_ad w 6))) 1 (some (tr_ad w 8))) i.toNatClampNeg) = .ref (tr_ad w (6 + 2 * i.toNatClampNeg)) := by
    rcases (show i.toNatClampNeg = 0 ∨ i.toNatClampNeg = 1 by omega) with e1 | e1 <;> rw [e1] <;> rfl
  refine va_aldq (f := va_up (va_up (fun _ => none) 0 (some (tr_ad w 6))) 1 (some (tr_ad w 8))) hx hb hG.1 hP 10 2 (tr_cs_at (by decide)) rfl hin hdg ?_
  rw [h2]
  exact kk
theorem tr_s0 (C : tr_Cx p s m args c cc nL own Y w) (hS : va_S (tr_R Y w) s.heap H locs) {i : Int32} (hin : vp_in i 7) (hdg : decode cc pc = .ok (.iaload, 1))
    (kk : W p l e R s m args below meth c H locs cells slots Q (F0 m (pc + 1) ls (.int (tr_f0 i.toNatClampNeg) :: rest))) : W p l e R s m args below meth c H locs cells slots Q (F0 m pc ls (.int i :: .ref (w.2.2.2 0) :: rest)) := by
  obtain ⟨hx, hb, hml, hown, hts, hG⟩ := C
  exact va_ti hx hb hG.2.2.2.2.1 hS hin rfl hdg kk
theorem tr_s1 (C : tr_Cx p s m args c cc nL own Y w) (hS : va_S (tr_R Y w) s.heap H locs) {i : Int32} (hin : vp_in i 7) (hdg : decode cc pc = .ok (.iaload, 1))
    (kk : W p l e R s m args below meth c H locs cells slots Q (F0 m (pc + 1) ls (.int (tr_f1 i.toNatClampNeg) :: rest))) : W p l e R s m args below meth c H locs cells slots Q (F0 m pc ls (.int i :: .ref (w.2.2.2 1) :: rest)) := by
  obtain ⟨hx, hb, hml, hown, hts, hG⟩ := C
  exact va_ti hx hb hG.2.2.2.2.2.2.1 hS hin rfl hdg kk
theorem tr_s2 (C : tr_Cx p s m args c cc nL own Y w) (hS : va_S (tr_R Y w) s.heap H locs) {i : Int32} (hin : vp_in i 5) (hdg : decode cc pc = .ok (.laload, 1))
    (kk : W p l e R s m args below meth c H locs cells slots Q (F0 m (pc + 1) ls (.long (tr_f2 i.toNatClampNeg) :: rest))) : W p l e R s m args below meth c H locs cells slots Q (F0 m pc ls (.int i :: .ref (w.2.2.2 2) :: rest)) := by
  obtain ⟨hx, hb, hml, hown, hts, hG⟩ := C
  exact va_tl hx hb hG.2.2.2.2.2.2.2.2 hS hin rfl hdg kk
theorem gs_X4_52 (C : tr_Cx p s m args c cc nL RX4 Y w) (hS : va_S (tr_R Y w) s.heap H locs) (hdg : decode cc pc = .ok (.getstatic 52, 3))
    (kk : W p l e R s m args below meth c H locs cells slots Q (F0 m (pc + 3) ls (.ref (w.2.2.2 0) :: rest))) : W p l e R s m args below meth c H locs cells slots Q (F0 m pc ls rest) := by
  obtain ⟨hx, hb, hml, hown, hts, hG⟩ := C
  exact va_getsN (ref := "TurnRounds") (host := "TurnRounds") hx hb hG.2.2.2.1 hS hown (va_Nw.use rfl (hG.2.2.1 ("TurnRounds$RingSets", 52, "TurnRounds", "SIXTIETHS", "[I", "TurnRounds") (by decide +kernel))) (fun _ h9 => h9) hdg kk
theorem gs_X4_65 (C : tr_Cx p s m args c cc nL RX4 Y w) (hS : va_S (tr_R Y w) s.heap H locs) (hdg : decode cc pc = .ok (.getstatic 65, 3))
    (kk : W p l e R s m args below meth c H locs cells slots Q (F0 m (pc + 3) ls (.ref (w.2.2.2 1) :: rest))) : W p l e R s m args below meth c H locs cells slots Q (F0 m pc ls rest) := by
  obtain ⟨hx, hb, hml, hown, hts, hG⟩ := C
  exact va_getsN (ref := "TurnRounds") (host := "TurnRounds") hx hb hG.2.2.2.2.2.1 hS hown (va_Nw.use rfl (hG.2.2.1 ("TurnRounds$RingSets", 65, "TurnRounds", "FACTORIALS", "[I", "TurnRounds") (by decide +kernel))) (fun _ h9 => h9) hdg kk
theorem gs_X6_45 (C : tr_Cx p s m args c cc nL RX6 Y w) (hS : va_S (tr_R Y w) s.heap H locs) (hdg : decode cc pc = .ok (.getstatic 45, 3))
    (kk : W p l e R s m args below meth c H locs cells slots Q (F0 m (pc + 3) ls (.ref (w.2.2.2 0) :: rest))) : W p l e R s m args below meth c H locs cells slots Q (F0 m pc ls rest) := by
  obtain ⟨hx, hb, hml, hown, hts, hG⟩ := C
  exact va_getsN (ref := "TurnRounds") (host := "TurnRounds") hx hb hG.2.2.2.1 hS hown (va_Nw.use rfl (hG.2.2.1 ("TurnRounds$Walks", 45, "TurnRounds", "SIXTIETHS", "[I", "TurnRounds") (by decide +kernel))) (fun _ h9 => h9) hdg kk
theorem gs_X7_173 (C : tr_Cx p s m args c cc nL RX7 Y w) (hS : va_S (tr_R Y w) s.heap H locs) (hdg : decode cc pc = .ok (.getstatic 173, 3))
    (kk : W p l e R s m args below meth c H locs cells slots Q (F0 m (pc + 3) ls (.ref (w.2.2.2 2) :: rest))) : W p l e R s m args below meth c H locs cells slots Q (F0 m pc ls rest) := by
  obtain ⟨hx, hb, hml, hown, hts, hG⟩ := C
  exact va_gets (ref := "TurnRounds") hx hb hG.2.2.2.2.2.2.2.1 hS hown (hts _ (tr_in (x := Cond.fieldLink RX7 173 "TurnRounds" "ROW_ENDS" "[J") 500 (by decide +kernel) rfl)) (fun _ h9 => h9) hdg kk
theorem gs_X7_184 (C : tr_Cx p s m args c cc nL RX7 Y w) (hS : va_S (tr_R Y w) s.heap H locs) (hdg : decode cc pc = .ok (.getstatic 184, 3))
    (kk : W p l e R s m args below meth c H locs cells slots Q (F0 m (pc + 3) ls (.ref (w.2.2.2 1) :: rest))) : W p l e R s m args below meth c H locs cells slots Q (F0 m pc ls rest) := by
  obtain ⟨hx, hb, hml, hown, hts, hG⟩ := C
  exact va_gets (ref := "TurnRounds") hx hb hG.2.2.2.2.2.1 hS hown (hts _ (tr_in (x := Cond.fieldLink RX7 184 "TurnRounds" "FACTORIALS" "[I") 522 (by decide +kernel) rfl)) (fun _ h9 => h9) hdg kk
theorem mf_X0_9 : Cond.fieldLink RX0 9 RX0 (TX0 0).2.1 (TX0 0).2.2.1 ∈ tr_T := tr_in 161 (by decide +kernel) rfl
theorem gf_X0_9 (C : tr_Cx p s m args c cc nL RX0 tr_X w) (hP : va_P w.1 vwCl (tr_cs tr_X w h) H) (hdg : decode cc pc = .ok (.getfield 9, 3))
    (kk : W p l e R s m args below meth c H locs cells slots Q (F0 m (pc + 3) ls (.ref (tr_ad w 25) :: rest))) : W p l e R s m args below meth c H locs cells slots Q (F0 m pc ls (.ref (tr_ad w 24) :: rest)) :=
  tr_gf (i := 24) (k := 0) C hP (by decide) rfl rfl hinX0 (by decide) mf_X0_9 rfl rfl hdg kk
theorem mf_X0_15 : Cond.fieldLink RX0 15 RX0 (TX0 1).2.1 (TX0 1).2.2.1 ∈ tr_T := tr_in 162 (by decide +kernel) rfl
theorem gf_X0_15 (C : tr_Cx p s m args c cc nL RX0 tr_X w) (hP : va_P w.1 vwCl (tr_cs tr_X w h) H) (hdg : decode cc pc = .ok (.getfield 15, 3))
    (kk : W p l e R s m args below meth c H locs cells slots Q (F0 m (pc + 3) ls (.ref (tr_ad w 26) :: rest))) : W p l e R s m args below meth c H locs cells slots Q (F0 m pc ls (.ref (tr_ad w 24) :: rest)) :=
  tr_gf (i := 24) (k := 1) C hP (by decide) rfl rfl hinX0 (by decide) mf_X0_15 rfl rfl hdg kk
theorem mf_X0_18 : Cond.fieldLink RX0 18 RX0 (TX0 2).2.1 (TX0 2).2.2.1 ∈ tr_T := tr_in 163 (by decide +kernel) rfl
theorem gf_X0_18 (C : tr_Cx p s m args c cc nL RX0 tr_X w) (hP : va_P w.1 vwCl (tr_cs tr_X w h) H) (hdg : decode cc pc = .ok (.getfield 18, 3))
    (kk : W p l e R s m args below meth c H locs cells slots Q (F0 m (pc + 3) ls (.int (h.1 24 2) :: rest))) : W p l e R s m args below meth c H locs cells slots Q (F0 m pc ls (.ref (tr_ad w 24) :: rest)) :=
  tr_gf (i := 24) (k := 2) C hP (by decide) rfl rfl hinX0 (by decide) mf_X0_18 rfl rfl hdg kk
theorem pf_X0_18 {v : Int32} (C : tr_Cx p s m args c cc nL RX0 tr_X w) (hP : va_P w.1 vwCl (tr_cs tr_X w h) H) (hS : va_S (tr_R tr_X w) s.heap H locs) (hdg : decode cc pc = .ok (.putfield 18, 3))
    (kk : ∀ (H1 : Heap) (locs1 : List Loc), va_P w.1 vwCl (tr_cs tr_X w (tr_si h 24 2 v)) H1 → va_S (tr_R tr_X w) s.heap H1 locs1 → W p l e R s m args below meth c H1 locs1 cells slots Q (F0 m (pc + 3) ls rest)) : W p l e R s m args below meth c H locs cells slots Q (F0 m pc ls (.int v :: .ref (tr_ad w 24) :: rest)) :=
  tr_pfi (i := 24) (k := 2) C hP hS tyX0 tyX0_ok nmX0 (by decide) rfl rfl hinX0 (by decide) mf_X0_18 rfl rfl (by decide +kernel) (Nat.le_of_ble_eq_true rfl) rfl hdg kk
theorem mf_X0_28 : (RX0, 28, RX2, (TX2 1).2.1, (TX2 1).2.2.1, "TurnRounds") ∈ tr_nl := by decide +kernel
theorem gf_X0_28 {i : Nat} (hn : tr_net i) (C : tr_Cx p s m args c cc nL RX0 tr_X w) (hP : va_P w.1 vwCl (tr_cs tr_X w h) H) (hdg : decode cc pc = .ok (.getfield 28, 3))
    (kk : W p l e R s m args below meth c H locs cells slots Q (F0 m (pc + 3) ls (.int (h.1 i 1) :: rest))) : W p l e R s m args below meth c H locs cells slots Q (F0 m pc ls (.ref (tr_ad w i) :: rest)) :=
  tr_gfN (i := i) (k := 1) C hP (tr_net_lt hn) (tr_net_cx hn _ _ _ _) rfl hinX2 (by decide) mf_X0_28 rfl rfl hdg kk
theorem pf_X0_28 {i : Nat} (hn : tr_net i) {v : Int32} (C : tr_Cx p s m args c cc nL RX0 tr_X w) (hP : va_P w.1 vwCl (tr_cs tr_X w h) H) (hS : va_S (tr_R tr_X w) s.heap H locs) (hdg : decode cc pc = .ok (.putfield 28, 3))
    (kk : ∀ (H1 : Heap) (locs1 : List Loc), va_P w.1 vwCl (tr_cs tr_X w (tr_si h i 1 v)) H1 → va_S (tr_R tr_X w) s.heap H1 locs1 → W p l e R s m args below meth c H1 locs1 cells slots Q (F0 m (pc + 3) ls rest)) : W p l e R s m args below meth c H locs cells slots Q (F0 m pc ls (.int v :: .ref (tr_ad w i) :: rest)) :=
  tr_pfiN (i := i) (k := 1) C hP hS tyX2 tyX2_ok nmX2 (tr_net_lt hn) (tr_net_cx hn _ _ _ _) rfl hinX2 (by decide) mf_X0_28 rfl rfl (by decide +kernel) (Nat.le_of_ble_eq_true rfl) (tr_net_cx hn _ _ _ _) hdg kk
theorem mf_X1_9 : Cond.fieldLink RX1 9 RX1 (TX1 0).2.1 (TX1 0).2.2.1 ∈ tr_T := tr_in 105 (by decide +kernel) rfl
theorem gf_X1_9 (C : tr_Cx p s m args c cc nL RX1 tr_X w) (hP : va_P w.1 vwCl (tr_cs tr_X w h) H) (hdg : decode cc pc = .ok (.getfield 9, 3))
    (kk : W p l e R s m args below meth c H locs cells slots Q (F0 m (pc + 3) ls (.ref (tr_ad w 14) :: rest))) : W p l e R s m args below meth c H locs cells slots Q (F0 m pc ls (.ref (tr_ad w 13) :: rest)) :=
  tr_gf (i := 13) (k := 0) C hP (by decide) rfl rfl hinX1 (by decide) mf_X1_9 rfl rfl hdg kk
theorem mf_X1_15 : Cond.fieldLink RX1 15 RX1 (TX1 1).2.1 (TX1 1).2.2.1 ∈ tr_T := tr_in 106 (by decide +kernel) rfl
theorem gf_X1_15 (C : tr_Cx p s m args c cc nL RX1 tr_X w) (hP : va_P w.1 vwCl (tr_cs tr_X w h) H) (hdg : decode cc pc = .ok (.getfield 15, 3))
    (kk : W p l e R s m args below meth c H locs cells slots Q (F0 m (pc + 3) ls (.ref (tr_ad w 15) :: rest))) : W p l e R s m args below meth c H locs cells slots Q (F0 m pc ls (.ref (tr_ad w 13) :: rest)) :=
  tr_gf (i := 13) (k := 1) C hP (by decide) rfl rfl hinX1 (by decide) mf_X1_15 rfl rfl hdg kk
theorem mf_X1_18 : Cond.fieldLink RX1 18 RX1 (TX1 2).2.1 (TX1 2).2.2.1 ∈ tr_T := tr_in 107 (by decide +kernel) rfl
theorem gf_X1_18 (C : tr_Cx p s m args c cc nL RX1 tr_X w) (hP : va_P w.1 vwCl (tr_cs tr_X w h) H) (hdg : decode cc pc = .ok (.getfield 18, 3))
    (kk : W p l e R s m args below meth c H locs cells slots Q (F0 m (pc + 3) ls (.ref (tr_ad w 16) :: rest))) : W p l e R s m args below meth c H locs cells slots Q (F0 m pc ls (.ref (tr_ad w 13) :: rest)) :=
  tr_gf (i := 13) (k := 2) C hP (by decide) rfl rfl hinX1 (by decide) mf_X1_18 rfl rfl hdg kk
theorem mf_X1_21 : Cond.fieldLink RX1 21 RX1 (TX1 3).2.1 (TX1 3).2.2.1 ∈ tr_T := tr_in 108 (by decide +kernel) rfl
theorem gf_X1_21 (C : tr_Cx p s m args c cc nL RX1 tr_X w) (hP : va_P w.1 vwCl (tr_cs tr_X w h) H) (hdg : decode cc pc = .ok (.getfield 21, 3))
    (kk : W p l e R s m args below meth c H locs cells slots Q (F0 m (pc + 3) ls (.int (h.1 13 3) :: rest))) : W p l e R s m args below meth c H locs cells slots Q (F0 m pc ls (.ref (tr_ad w 13) :: rest)) :=
  tr_gf (i := 13) (k := 3) C hP (by decide) rfl rfl hinX1 (by decide) mf_X1_21 rfl rfl hdg kk
theorem pf_X1_21 {v : Int32} (C : tr_Cx p s m args c cc nL RX1 tr_X w) (hP : va_P w.1 vwCl (tr_cs tr_X w h) H) (hS : va_S (tr_R tr_X w) s.heap H locs) (hdg : decode cc pc = .ok (.putfield 21, 3))
    (kk : ∀ (H1 : Heap) (locs1 : List Loc), va_P w.1 vwCl (tr_cs tr_X w (tr_si h 13 3 v)) H1 → va_S (tr_R tr_X w) s.heap H1 locs1 → W p l e R s m args below meth c H1 locs1 cells slots Q (F0 m (pc + 3) ls rest)) : W p l e R s m args below meth c H locs cells slots Q (F0 m pc ls (.int v :: .ref (tr_ad w 13) :: rest)) :=
  tr_pfi (i := 13) (k := 3) C hP hS tyX1 tyX1_ok nmX1 (by decide) rfl rfl hinX1 (by decide) mf_X1_21 rfl rfl (by decide +kernel) (Nat.le_of_ble_eq_true rfl) rfl hdg kk
theorem mf_X2_9 : Cond.fieldLink RX2 9 RX2 (TX2 0).2.1 (TX2 0).2.2.1 ∈ tr_T := tr_in 72 (by decide +kernel) rfl
theorem gf_X2_9 {i : Nat} (hn : tr_net i) (C : tr_Cx p s m args c cc nL RX2 tr_X w) (hP : va_P w.1 vwCl (tr_cs tr_X w h) H) (hdg : decode cc pc = .ok (.getfield 9, 3))
    (kk : W p l e R s m args below meth c H locs cells slots Q (F0 m (pc + 3) ls (.ref (tr_ad w (i + 1)) :: rest))) : W p l e R s m args below meth c H locs cells slots Q (F0 m pc ls (.ref (tr_ad w i) :: rest)) :=
  tr_gf (i := i) (k := 0) C hP (tr_net_lt hn) (tr_net_cx hn _ _ _ _) rfl hinX2 (by decide) mf_X2_9 rfl rfl hdg kk
theorem mf_X2_15 : Cond.fieldLink RX2 15 RX2 (TX2 1).2.1 (TX2 1).2.2.1 ∈ tr_T := tr_in 73 (by decide +kernel) rfl
theorem gf_X2_15 {i : Nat} (hn : tr_net i) (C : tr_Cx p s m args c cc nL RX2 tr_X w) (hP : va_P w.1 vwCl (tr_cs tr_X w h) H) (hdg : decode cc pc = .ok (.getfield 15, 3))
    (kk : W p l e R s m args below meth c H locs cells slots Q (F0 m (pc + 3) ls (.int (h.1 i 1) :: rest))) : W p l e R s m args below meth c H locs cells slots Q (F0 m pc ls (.ref (tr_ad w i) :: rest)) :=
  tr_gf (i := i) (k := 1) C hP (tr_net_lt hn) (tr_net_cx hn _ _ _ _) rfl hinX2 (by decide) mf_X2_15 rfl rfl hdg kk
theorem pf_X2_15 {i : Nat} (hn : tr_net i) {v : Int32} (C : tr_Cx p s m args c cc nL RX2 tr_X w) (hP : va_P w.1 vwCl (tr_cs tr_X w h) H) (hS : va_S (tr_R tr_X w) s.heap H locs) (hdg : decode cc pc = .ok (.putfield 15, 3))
    (kk : ∀ (H1 : Heap) (locs1 : List Loc), va_P w.1 vwCl (tr_cs tr_X w (tr_si h i 1 v)) H1 → va_S (tr_R tr_X w) s.heap H1 locs1 → W p l e R s m args below meth c H1 locs1 cells slots Q (F0 m (pc + 3) ls rest)) : W p l e R s m args below meth c H locs cells slots Q (F0 m pc ls (.int v :: .ref (tr_ad w i) :: rest)) :=
  tr_pfi (i := i) (k := 1) C hP hS tyX2 tyX2_ok nmX2 (tr_net_lt hn) (tr_net_cx hn _ _ _ _) rfl hinX2 (by decide) mf_X2_15 rfl rfl (by decide +kernel) (Nat.le_of_ble_eq_true rfl) (tr_net_cx hn _ _ _ _) hdg kk
theorem mf_X3_21 : Cond.fieldLink RX3 21 RX3 (TX3 0).2.1 (TX3 0).2.2.1 ∈ tr_T := tr_in 91 (by decide +kernel) rfl
theorem gf_X3_21 (C : tr_Cx p s m args c cc nL RX3 tr_X w) (hP : va_P w.1 vwCl (tr_cs tr_X w h) H) (hdg : decode cc pc = .ok (.getfield 21, 3))
    (kk : W p l e R s m args below meth c H locs cells slots Q (F0 m (pc + 3) ls (.int (h.1 12 0) :: rest))) : W p l e R s m args below meth c H locs cells slots Q (F0 m pc ls (.ref (tr_ad w 12) :: rest)) :=
  tr_gf (i := 12) (k := 0) C hP (by decide) rfl rfl hinX3 (by decide) mf_X3_21 rfl rfl hdg kk
theorem pf_X3_21 {v : Int32} (C : tr_Cx p s m args c cc nL RX3 tr_X w) (hP : va_P w.1 vwCl (tr_cs tr_X w h) H) (hS : va_S (tr_R tr_X w) s.heap H locs) (hdg : decode cc pc = .ok (.putfield 21, 3))
    (kk : ∀ (H1 : Heap) (locs1 : List Loc), va_P w.1 vwCl (tr_cs tr_X w (tr_si h 12 0 v)) H1 → va_S (tr_R tr_X w) s.heap H1 locs1 → W p l e R s m args below meth c H1 locs1 cells slots Q (F0 m (pc + 3) ls rest)) : W p l e R s m args below meth c H locs cells slots Q (F0 m pc ls (.int v :: .ref (tr_ad w 12) :: rest)) :=
  tr_pfi (i := 12) (k := 0) C hP hS tyX3 tyX3_ok nmX3 (by decide) rfl rfl hinX3 (by decide) mf_X3_21 rfl rfl (by decide +kernel) (Nat.le_of_ble_eq_true rfl) rfl hdg kk
theorem mf_X3_32 : Cond.fieldLink RX3 32 RX3 (TX3 1).2.1 (TX3 1).2.2.1 ∈ tr_T := tr_in 92 (by decide +kernel) rfl
theorem gf_X3_32 (C : tr_Cx p s m args c cc nL RX3 tr_X w) (hP : va_P w.1 vwCl (tr_cs tr_X w h) H) (hdg : decode cc pc = .ok (.getfield 32, 3))
    (kk : W p l e R s m args below meth c H locs cells slots Q (F0 m (pc + 3) ls (.int (h.1 12 1) :: rest))) : W p l e R s m args below meth c H locs cells slots Q (F0 m pc ls (.ref (tr_ad w 12) :: rest)) :=
  tr_gf (i := 12) (k := 1) C hP (by decide) rfl rfl hinX3 (by decide) mf_X3_32 rfl rfl hdg kk
theorem pf_X3_32 {v : Int32} (C : tr_Cx p s m args c cc nL RX3 tr_X w) (hP : va_P w.1 vwCl (tr_cs tr_X w h) H) (hS : va_S (tr_R tr_X w) s.heap H locs) (hdg : decode cc pc = .ok (.putfield 32, 3))
    (kk : ∀ (H1 : Heap) (locs1 : List Loc), va_P w.1 vwCl (tr_cs tr_X w (tr_si h 12 1 v)) H1 → va_S (tr_R tr_X w) s.heap H1 locs1 → W p l e R s m args below meth c H1 locs1 cells slots Q (F0 m (pc + 3) ls rest)) : W p l e R s m args below meth c H locs cells slots Q (F0 m pc ls (.int v :: .ref (tr_ad w 12) :: rest)) :=
  tr_pfi (i := 12) (k := 1) C hP hS tyX3 tyX3_ok nmX3 (by decide) rfl rfl hinX3 (by decide) mf_X3_32 rfl rfl (by decide +kernel) (Nat.le_of_ble_eq_true rfl) rfl hdg kk
theorem mf_X4_9 : Cond.fieldLink RX4 9 RX4 (TX4 0).2.1 (TX4 0).2.2.1 ∈ tr_T := tr_in 177 (by decide +kernel) rfl
theorem gf_X4_9 (C : tr_Cx p s m args c cc nL RX4 tr_X w) (hP : va_P w.1 vwCl (tr_cs tr_X w h) H) (hdg : decode cc pc = .ok (.getfield 9, 3))
    (kk : W p l e R s m args below meth c H locs cells slots Q (F0 m (pc + 3) ls (.ref (tr_ad w 28) :: rest))) : W p l e R s m args below meth c H locs cells slots Q (F0 m pc ls (.ref (tr_ad w 27) :: rest)) :=
  tr_gf (i := 27) (k := 0) C hP (by decide) rfl rfl hinX4 (by decide) mf_X4_9 rfl rfl hdg kk
theorem mf_X4_15 : Cond.fieldLink RX4 15 RX4 (TX4 1).2.1 (TX4 1).2.2.1 ∈ tr_T := tr_in 178 (by decide +kernel) rfl
theorem gf_X4_15 (C : tr_Cx p s m args c cc nL RX4 tr_X w) (hP : va_P w.1 vwCl (tr_cs tr_X w h) H) (hdg : decode cc pc = .ok (.getfield 15, 3))
    (kk : W p l e R s m args below meth c H locs cells slots Q (F0 m (pc + 3) ls (.ref (tr_ad w 29) :: rest))) : W p l e R s m args below meth c H locs cells slots Q (F0 m pc ls (.ref (tr_ad w 27) :: rest)) :=
  tr_gf (i := 27) (k := 1) C hP (by decide) rfl rfl hinX4 (by decide) mf_X4_15 rfl rfl hdg kk
theorem mf_X4_18 : Cond.fieldLink RX4 18 RX4 (TX4 2).2.1 (TX4 2).2.2.1 ∈ tr_T := tr_in 179 (by decide +kernel) rfl
theorem gf_X4_18 (C : tr_Cx p s m args c cc nL RX4 tr_X w) (hP : va_P w.1 vwCl (tr_cs tr_X w h) H) (hdg : decode cc pc = .ok (.getfield 18, 3))
    (kk : W p l e R s m args below meth c H locs cells slots Q (F0 m (pc + 3) ls (.ref (tr_ad w 30) :: rest))) : W p l e R s m args below meth c H locs cells slots Q (F0 m pc ls (.ref (tr_ad w 27) :: rest)) :=
  tr_gf (i := 27) (k := 2) C hP (by decide) rfl rfl hinX4 (by decide) mf_X4_18 rfl rfl hdg kk
theorem mf_X4_27 : Cond.fieldLink RX4 27 RX4 (TX4 3).2.1 (TX4 3).2.2.1 ∈ tr_T := tr_in 180 (by decide +kernel) rfl
theorem gf_X4_27 (C : tr_Cx p s m args c cc nL RX4 tr_X w) (hP : va_P w.1 vwCl (tr_cs tr_X w h) H) (hdg : decode cc pc = .ok (.getfield 27, 3))
    (kk : W p l e R s m args below meth c H locs cells slots Q (F0 m (pc + 3) ls (.int (h.1 27 3) :: rest))) : W p l e R s m args below meth c H locs cells slots Q (F0 m pc ls (.ref (tr_ad w 27) :: rest)) :=
  tr_gf (i := 27) (k := 3) C hP (by decide) rfl rfl hinX4 (by decide) mf_X4_27 rfl rfl hdg kk
theorem pf_X4_27 {v : Int32} (C : tr_Cx p s m args c cc nL RX4 tr_X w) (hP : va_P w.1 vwCl (tr_cs tr_X w h) H) (hS : va_S (tr_R tr_X w) s.heap H locs) (hdg : decode cc pc = .ok (.putfield 27, 3))
    (kk : ∀ (H1 : Heap) (locs1 : List Loc), va_P w.1 vwCl (tr_cs tr_X w (tr_si h 27 3 v)) H1 → va_S (tr_R tr_X w) s.heap H1 locs1 → W p l e R s m args below meth c H1 locs1 cells slots Q (F0 m (pc + 3) ls rest)) : W p l e R s m args below meth c H locs cells slots Q (F0 m pc ls (.int v :: .ref (tr_ad w 27) :: rest)) :=
  tr_pfi (i := 27) (k := 3) C hP hS tyX4 tyX4_ok nmX4 (by decide) rfl rfl hinX4 (by decide) mf_X4_27 rfl rfl (by decide +kernel) (Nat.le_of_ble_eq_true rfl) rfl hdg kk
theorem mf_X4_31 : (RX4, 31, RX2, (TX2 1).2.1, (TX2 1).2.2.1, "TurnRounds") ∈ tr_nl := by decide +kernel
theorem gf_X4_31 {i : Nat} (hn : tr_net i) (C : tr_Cx p s m args c cc nL RX4 tr_X w) (hP : va_P w.1 vwCl (tr_cs tr_X w h) H) (hdg : decode cc pc = .ok (.getfield 31, 3))
    (kk : W p l e R s m args below meth c H locs cells slots Q (F0 m (pc + 3) ls (.int (h.1 i 1) :: rest))) : W p l e R s m args below meth c H locs cells slots Q (F0 m pc ls (.ref (tr_ad w i) :: rest)) :=
  tr_gfN (i := i) (k := 1) C hP (tr_net_lt hn) (tr_net_cx hn _ _ _ _) rfl hinX2 (by decide) mf_X4_31 rfl rfl hdg kk
theorem pf_X4_31 {i : Nat} (hn : tr_net i) {v : Int32} (C : tr_Cx p s m args c cc nL RX4 tr_X w) (hP : va_P w.1 vwCl (tr_cs tr_X w h) H) (hS : va_S (tr_R tr_X w) s.heap H locs) (hdg : decode cc pc = .ok (.putfield 31, 3))
    (kk : ∀ (H1 : Heap) (locs1 : List Loc), va_P w.1 vwCl (tr_cs tr_X w (tr_si h i 1 v)) H1 → va_S (tr_R tr_X w) s.heap H1 locs1 → W p l e R s m args below meth c H1 locs1 cells slots Q (F0 m (pc + 3) ls rest)) : W p l e R s m args below meth c H locs cells slots Q (F0 m pc ls (.int v :: .ref (tr_ad w i) :: rest)) :=
  tr_pfiN (i := i) (k := 1) C hP hS tyX2 tyX2_ok nmX2 (tr_net_lt hn) (tr_net_cx hn _ _ _ _) rfl hinX2 (by decide) mf_X4_31 rfl rfl (by decide +kernel) (Nat.le_of_ble_eq_true rfl) (tr_net_cx hn _ _ _ _) hdg kk
theorem mf_X5_9 : Cond.fieldLink RX5 9 RX5 (TX5 0).2.1 (TX5 0).2.2.1 ∈ tr_T := tr_in 125 (by decide +kernel) rfl
theorem gf_X5_9 (C : tr_Cx p s m args c cc nL RX5 tr_X w) (hP : va_P w.1 vwCl (tr_cs tr_X w h) H) (hdg : decode cc pc = .ok (.getfield 9, 3))
    (kk : W p l e R s m args below meth c H locs cells slots Q (F0 m (pc + 3) ls (.ref (tr_ad w 18) :: rest))) : W p l e R s m args below meth c H locs cells slots Q (F0 m pc ls (.ref (tr_ad w 17) :: rest)) :=
  tr_gf (i := 17) (k := 0) C hP (by decide) rfl rfl hinX5 (by decide) mf_X5_9 rfl rfl hdg kk
theorem mf_X5_15 : Cond.fieldLink RX5 15 RX5 (TX5 1).2.1 (TX5 1).2.2.1 ∈ tr_T := tr_in 126 (by decide +kernel) rfl
theorem gf_X5_15 (C : tr_Cx p s m args c cc nL RX5 tr_X w) (hP : va_P w.1 vwCl (tr_cs tr_X w h) H) (hdg : decode cc pc = .ok (.getfield 15, 3))
    (kk : W p l e R s m args below meth c H locs cells slots Q (F0 m (pc + 3) ls (.ref (tr_ad w 19) :: rest))) : W p l e R s m args below meth c H locs cells slots Q (F0 m pc ls (.ref (tr_ad w 17) :: rest)) :=
  tr_gf (i := 17) (k := 1) C hP (by decide) rfl rfl hinX5 (by decide) mf_X5_15 rfl rfl hdg kk
theorem mf_X5_18 : Cond.fieldLink RX5 18 RX5 (TX5 2).2.1 (TX5 2).2.2.1 ∈ tr_T := tr_in 127 (by decide +kernel) rfl
theorem gf_X5_18 (C : tr_Cx p s m args c cc nL RX5 tr_X w) (hP : va_P w.1 vwCl (tr_cs tr_X w h) H) (hdg : decode cc pc = .ok (.getfield 18, 3))
    (kk : W p l e R s m args below meth c H locs cells slots Q (F0 m (pc + 3) ls (.ref (tr_ad w 20) :: rest))) : W p l e R s m args below meth c H locs cells slots Q (F0 m pc ls (.ref (tr_ad w 17) :: rest)) :=
  tr_gf (i := 17) (k := 2) C hP (by decide) rfl rfl hinX5 (by decide) mf_X5_18 rfl rfl hdg kk
theorem mf_X5_21 : Cond.fieldLink RX5 21 RX5 (TX5 3).2.1 (TX5 3).2.2.1 ∈ tr_T := tr_in 128 (by decide +kernel) rfl
theorem gf_X5_21 (C : tr_Cx p s m args c cc nL RX5 tr_X w) (hP : va_P w.1 vwCl (tr_cs tr_X w h) H) (hdg : decode cc pc = .ok (.getfield 21, 3))
    (kk : W p l e R s m args below meth c H locs cells slots Q (F0 m (pc + 3) ls (.int (h.1 17 3) :: rest))) : W p l e R s m args below meth c H locs cells slots Q (F0 m pc ls (.ref (tr_ad w 17) :: rest)) :=
  tr_gf (i := 17) (k := 3) C hP (by decide) rfl rfl hinX5 (by decide) mf_X5_21 rfl rfl hdg kk
theorem pf_X5_21 {v : Int32} (C : tr_Cx p s m args c cc nL RX5 tr_X w) (hP : va_P w.1 vwCl (tr_cs tr_X w h) H) (hS : va_S (tr_R tr_X w) s.heap H locs) (hdg : decode cc pc = .ok (.putfield 21, 3))
    (kk : ∀ (H1 : Heap) (locs1 : List Loc), va_P w.1 vwCl (tr_cs tr_X w (tr_si h 17 3 v)) H1 → va_S (tr_R tr_X w) s.heap H1 locs1 → W p l e R s m args below meth c H1 locs1 cells slots Q (F0 m (pc + 3) ls rest)) : W p l e R s m args below meth c H locs cells slots Q (F0 m pc ls (.int v :: .ref (tr_ad w 17) :: rest)) :=
  tr_pfi (i := 17) (k := 3) C hP hS tyX5 tyX5_ok nmX5 (by decide) rfl rfl hinX5 (by decide) mf_X5_21 rfl rfl (by decide +kernel) (Nat.le_of_ble_eq_true rfl) rfl hdg kk
theorem mf_X6_9 : Cond.fieldLink RX6 9 RX6 (TX6 0).2.1 (TX6 0).2.2.1 ∈ tr_T := tr_in 145 (by decide +kernel) rfl
theorem gf_X6_9 (C : tr_Cx p s m args c cc nL RX6 tr_X w) (hP : va_P w.1 vwCl (tr_cs tr_X w h) H) (hdg : decode cc pc = .ok (.getfield 9, 3))
    (kk : W p l e R s m args below meth c H locs cells slots Q (F0 m (pc + 3) ls (.ref (tr_ad w 22) :: rest))) : W p l e R s m args below meth c H locs cells slots Q (F0 m pc ls (.ref (tr_ad w 21) :: rest)) :=
  tr_gf (i := 21) (k := 0) C hP (by decide) rfl rfl hinX6 (by decide) mf_X6_9 rfl rfl hdg kk
theorem mf_X6_15 : Cond.fieldLink RX6 15 RX6 (TX6 1).2.1 (TX6 1).2.2.1 ∈ tr_T := tr_in 146 (by decide +kernel) rfl
theorem gf_X6_15 (C : tr_Cx p s m args c cc nL RX6 tr_X w) (hP : va_P w.1 vwCl (tr_cs tr_X w h) H) (hdg : decode cc pc = .ok (.getfield 15, 3))
    (kk : W p l e R s m args below meth c H locs cells slots Q (F0 m (pc + 3) ls (.ref (tr_ad w 23) :: rest))) : W p l e R s m args below meth c H locs cells slots Q (F0 m pc ls (.ref (tr_ad w 21) :: rest)) :=
  tr_gf (i := 21) (k := 1) C hP (by decide) rfl rfl hinX6 (by decide) mf_X6_15 rfl rfl hdg kk
theorem mf_X6_22 : (RX6, 22, RX2, (TX2 1).2.1, (TX2 1).2.2.1, "TurnRounds") ∈ tr_nl := by decide +kernel
theorem gf_X6_22 {i : Nat} (hn : tr_net i) (C : tr_Cx p s m args c cc nL RX6 tr_X w) (hP : va_P w.1 vwCl (tr_cs tr_X w h) H) (hdg : decode cc pc = .ok (.getfield 22, 3))
    (kk : W p l e R s m args below meth c H locs cells slots Q (F0 m (pc + 3) ls (.int (h.1 i 1) :: rest))) : W p l e R s m args below meth c H locs cells slots Q (F0 m pc ls (.ref (tr_ad w i) :: rest)) :=
  tr_gfN (i := i) (k := 1) C hP (tr_net_lt hn) (tr_net_cx hn _ _ _ _) rfl hinX2 (by decide) mf_X6_22 rfl rfl hdg kk
theorem pf_X6_22 {i : Nat} (hn : tr_net i) {v : Int32} (C : tr_Cx p s m args c cc nL RX6 tr_X w) (hP : va_P w.1 vwCl (tr_cs tr_X w h) H) (hS : va_S (tr_R tr_X w) s.heap H locs) (hdg : decode cc pc = .ok (.putfield 22, 3))
    (kk : ∀ (H1 : Heap) (locs1 : List Loc), va_P w.1 vwCl (tr_cs tr_X w (tr_si h i 1 v)) H1 → va_S (tr_R tr_X w) s.heap H1 locs1 → W p l e R s m args below meth c H1 locs1 cells slots Q (F0 m (pc + 3) ls rest)) : W p l e R s m args below meth c H locs cells slots Q (F0 m pc ls (.int v :: .ref (tr_ad w i) :: rest)) :=
  tr_pfiN (i := i) (k := 1) C hP hS tyX2 tyX2_ok nmX2 (tr_net_lt hn) (tr_net_cx hn _ _ _ _) rfl hinX2 (by decide) mf_X6_22 rfl rfl (by decide +kernel) (Nat.le_of_ble_eq_true rfl) (tr_net_cx hn _ _ _ _) hdg kk
theorem mf_X6_51 : Cond.fieldLink RX6 51 RX6 (TX6 2).2.1 (TX6 2).2.2.1 ∈ tr_T := tr_in 147 (by decide +kernel) rfl
theorem gf_X6_51 (C : tr_Cx p s m args c cc nL RX6 tr_X w) (hP : va_P w.1 vwCl (tr_cs tr_X w h) H) (hdg : decode cc pc = .ok (.getfield 51, 3))
    (kk : W p l e R s m args below meth c H locs cells slots Q (F0 m (pc + 3) ls (.int (h.1 21 2) :: rest))) : W p l e R s m args below meth c H locs cells slots Q (F0 m pc ls (.ref (tr_ad w 21) :: rest)) :=
  tr_gf (i := 21) (k := 2) C hP (by decide) rfl rfl hinX6 (by decide) mf_X6_51 rfl rfl hdg kk
theorem pf_X6_51 {v : Int32} (C : tr_Cx p s m args c cc nL RX6 tr_X w) (hP : va_P w.1 vwCl (tr_cs tr_X w h) H) (hS : va_S (tr_R tr_X w) s.heap H locs) (hdg : decode cc pc = .ok (.putfield 51, 3))
    (kk : ∀ (H1 : Heap) (locs1 : List Loc), va_P w.1 vwCl (tr_cs tr_X w (tr_si h 21 2 v)) H1 → va_S (tr_R tr_X w) s.heap H1 locs1 → W p l e R s m args below meth c H1 locs1 cells slots Q (F0 m (pc + 3) ls rest)) : W p l e R s m args below meth c H locs cells slots Q (F0 m pc ls (.int v :: .ref (tr_ad w 21) :: rest)) :=
  tr_pfi (i := 21) (k := 2) C hP hS tyX6 tyX6_ok nmX6 (by decide) rfl rfl hinX6 (by decide) mf_X6_51 rfl rfl (by decide +kernel) (Nat.le_of_ble_eq_true rfl) rfl hdg kk
theorem mf_X7_9 : Cond.fieldLink RX7 9 RX7 (TX7 0).2.1 (TX7 0).2.2.1 ∈ tr_T := tr_in 191 (by decide +kernel) rfl
theorem gf_X7_9 (C : tr_Cx p s m args c cc nL RX7 tr_X w) (hP : va_P w.1 vwCl (tr_cs tr_X w h) H) (hdg : decode cc pc = .ok (.getfield 9, 3))
    (kk : W p l e R s m args below meth c H locs cells slots Q (F0 m (pc + 3) ls (.ref (tr_ad w 1) :: rest))) : W p l e R s m args below meth c H locs cells slots Q (F0 m pc ls (.ref (tr_ad w 0) :: rest)) :=
  tr_gf (i := 0) (k := 0) C hP (by decide) rfl rfl hinX7 (by decide) mf_X7_9 rfl rfl hdg kk
theorem mf_X7_16 : Cond.fieldLink RX7 16 RX7 (TX7 1).2.1 (TX7 1).2.2.1 ∈ tr_T := tr_in 192 (by decide +kernel) rfl
theorem gf_X7_16 (C : tr_Cx p s m args c cc nL RX7 tr_X w) (hP : va_P w.1 vwCl (tr_cs tr_X w h) H) (hdg : decode cc pc = .ok (.getfield 16, 3))
    (kk : W p l e R s m args below meth c H locs cells slots Q (F0 m (pc + 3) ls (.ref (tr_ad w 2) :: rest))) : W p l e R s m args below meth c H locs cells slots Q (F0 m pc ls (.ref (tr_ad w 0) :: rest)) :=
  tr_gf (i := 0) (k := 1) C hP (by decide) rfl rfl hinX7 (by decide) mf_X7_16 rfl rfl hdg kk
theorem mf_X7_20 : Cond.fieldLink RX7 20 RX7 (TX7 2).2.1 (TX7 2).2.2.1 ∈ tr_T := tr_in 193 (by decide +kernel) rfl
theorem gf_X7_20 (C : tr_Cx p s m args c cc nL RX7 tr_X w) (hP : va_P w.1 vwCl (tr_cs tr_X w h) H) (hdg : decode cc pc = .ok (.getfield 20, 3))
    (kk : W p l e R s m args below meth c H locs cells slots Q (F0 m (pc + 3) ls (.ref (tr_ad w 4) :: rest))) : W p l e R s m args below meth c H locs cells slots Q (F0 m pc ls (.ref (tr_ad w 0) :: rest)) :=
  tr_gf (i := 0) (k := 2) C hP (by decide) rfl rfl hinX7 (by decide) mf_X7_20 rfl rfl hdg kk
theorem mf_X7_23 : Cond.fieldLink RX7 23 RX7 (TX7 3).2.1 (TX7 3).2.2.1 ∈ tr_T := tr_in 194 (by decide +kernel) rfl
theorem gf_X7_23 (C : tr_Cx p s m args c cc nL RX7 tr_X w) (hP : va_P w.1 vwCl (tr_cs tr_X w h) H) (hdg : decode cc pc = .ok (.getfield 23, 3))
    (kk : W p l e R s m args below meth c H locs cells slots Q (F0 m (pc + 3) ls (.ref (tr_ad w 10) :: rest))) : W p l e R s m args below meth c H locs cells slots Q (F0 m pc ls (.ref (tr_ad w 0) :: rest)) :=
  tr_gf (i := 0) (k := 3) C hP (by decide) rfl rfl hinX7 (by decide) mf_X7_23 rfl rfl hdg kk
theorem mf_X7_27 : Cond.fieldLink RX7 27 RX7 (TX7 4).2.1 (TX7 4).2.2.1 ∈ tr_T := tr_in 195 (by decide +kernel) rfl
theorem gf_X7_27 (C : tr_Cx p s m args c cc nL RX7 tr_X w) (hP : va_P w.1 vwCl (tr_cs tr_X w h) H) (hdg : decode cc pc = .ok (.getfield 27, 3))
    (kk : W p l e R s m args below meth c H locs cells slots Q (F0 m (pc + 3) ls (.ref (tr_ad w 11) :: rest))) : W p l e R s m args below meth c H locs cells slots Q (F0 m pc ls (.ref (tr_ad w 0) :: rest)) :=
  tr_gf (i := 0) (k := 4) C hP (by decide) rfl rfl hinX7 (by decide) mf_X7_27 rfl rfl hdg kk
theorem mf_X7_34 : Cond.fieldLink RX7 34 RX7 (TX7 5).2.1 (TX7 5).2.2.1 ∈ tr_T := tr_in 196 (by decide +kernel) rfl
theorem gf_X7_34 (C : tr_Cx p s m args c cc nL RX7 tr_X w) (hP : va_P w.1 vwCl (tr_cs tr_X w h) H) (hdg : decode cc pc = .ok (.getfield 34, 3))
    (kk : W p l e R s m args below meth c H locs cells slots Q (F0 m (pc + 3) ls (.ref (tr_ad w 12) :: rest))) : W p l e R s m args below meth c H locs cells slots Q (F0 m pc ls (.ref (tr_ad w 0) :: rest)) :=
  tr_gf (i := 0) (k := 5) C hP (by decide) rfl rfl hinX7 (by decide) mf_X7_34 rfl rfl hdg kk
theorem mf_X7_41 : Cond.fieldLink RX7 41 RX7 (TX7 6).2.1 (TX7 6).2.2.1 ∈ tr_T := tr_in 197 (by decide +kernel) rfl
theorem gf_X7_41 (C : tr_Cx p s m args c cc nL RX7 tr_X w) (hP : va_P w.1 vwCl (tr_cs tr_X w h) H) (hdg : decode cc pc = .ok (.getfield 41, 3))
    (kk : W p l e R s m args below meth c H locs cells slots Q (F0 m (pc + 3) ls (.ref (tr_ad w 13) :: rest))) : W p l e R s m args below meth c H locs cells slots Q (F0 m pc ls (.ref (tr_ad w 0) :: rest)) :=
  tr_gf (i := 0) (k := 6) C hP (by decide) rfl rfl hinX7 (by decide) mf_X7_41 rfl rfl hdg kk
theorem mf_X7_48 : Cond.fieldLink RX7 48 RX7 (TX7 7).2.1 (TX7 7).2.2.1 ∈ tr_T := tr_in 198 (by decide +kernel) rfl
theorem gf_X7_48 (C : tr_Cx p s m args c cc nL RX7 tr_X w) (hP : va_P w.1 vwCl (tr_cs tr_X w h) H) (hdg : decode cc pc = .ok (.getfield 48, 3))
    (kk : W p l e R s m args below meth c H locs cells slots Q (F0 m (pc + 3) ls (.ref (tr_ad w 17) :: rest))) : W p l e R s m args below meth c H locs cells slots Q (F0 m pc ls (.ref (tr_ad w 0) :: rest)) :=
  tr_gf (i := 0) (k := 7) C hP (by decide) rfl rfl hinX7 (by decide) mf_X7_48 rfl rfl hdg kk
theorem mf_X7_55 : Cond.fieldLink RX7 55 RX7 (TX7 8).2.1 (TX7 8).2.2.1 ∈ tr_T := tr_in 199 (by decide +kernel) rfl
theorem gf_X7_55 (C : tr_Cx p s m args c cc nL RX7 tr_X w) (hP : va_P w.1 vwCl (tr_cs tr_X w h) H) (hdg : decode cc pc = .ok (.getfield 55, 3))
    (kk : W p l e R s m args below meth c H locs cells slots Q (F0 m (pc + 3) ls (.ref (tr_ad w 21) :: rest))) : W p l e R s m args below meth c H locs cells slots Q (F0 m pc ls (.ref (tr_ad w 0) :: rest)) :=
  tr_gf (i := 0) (k := 8) C hP (by decide) rfl rfl hinX7 (by decide) mf_X7_55 rfl rfl hdg kk
theorem mf_X7_62 : Cond.fieldLink RX7 62 RX7 (TX7 9).2.1 (TX7 9).2.2.1 ∈ tr_T := tr_in 200 (by decide +kernel) rfl
theorem gf_X7_62 (C : tr_Cx p s m args c cc nL RX7 tr_X w) (hP : va_P w.1 vwCl (tr_cs tr_X w h) H) (hdg : decode cc pc = .ok (.getfield 62, 3))
    (kk : W p l e R s m args below meth c H locs cells slots Q (F0 m (pc + 3) ls (.ref (tr_ad w 24) :: rest))) : W p l e R s m args below meth c H locs cells slots Q (F0 m pc ls (.ref (tr_ad w 0) :: rest)) :=
  tr_gf (i := 0) (k := 9) C hP (by decide) rfl rfl hinX7 (by decide) mf_X7_62 rfl rfl hdg kk
theorem mf_X7_69 : Cond.fieldLink RX7 69 RX7 (TX7 10).2.1 (TX7 10).2.2.1 ∈ tr_T := tr_in 201 (by decide +kernel) rfl
theorem gf_X7_69 (C : tr_Cx p s m args c cc nL RX7 tr_X w) (hP : va_P w.1 vwCl (tr_cs tr_X w h) H) (hdg : decode cc pc = .ok (.getfield 69, 3))
    (kk : W p l e R s m args below meth c H locs cells slots Q (F0 m (pc + 3) ls (.ref (tr_ad w 27) :: rest))) : W p l e R s m args below meth c H locs cells slots Q (F0 m pc ls (.ref (tr_ad w 0) :: rest)) :=
  tr_gf (i := 0) (k := 10) C hP (by decide) rfl rfl hinX7 (by decide) mf_X7_69 rfl rfl hdg kk
theorem mf_X7_73 : Cond.fieldLink RX7 73 RX7 (TX7 11).2.1 (TX7 11).2.2.1 ∈ tr_T := tr_in 202 (by decide +kernel) rfl
theorem gf_X7_73 (C : tr_Cx p s m args c cc nL RX7 tr_X w) (hP : va_P w.1 vwCl (tr_cs tr_X w h) H) (hdg : decode cc pc = .ok (.getfield 73, 3))
    (kk : W p l e R s m args below meth c H locs cells slots Q (F0 m (pc + 3) ls (.int (h.1 0 11) :: rest))) : W p l e R s m args below meth c H locs cells slots Q (F0 m pc ls (.ref (tr_ad w 0) :: rest)) :=
  tr_gf (i := 0) (k := 11) C hP (by decide) rfl rfl hinX7 (by decide) mf_X7_73 rfl rfl hdg kk
theorem pf_X7_73 {v : Int32} (C : tr_Cx p s m args c cc nL RX7 tr_X w) (hP : va_P w.1 vwCl (tr_cs tr_X w h) H) (hS : va_S (tr_R tr_X w) s.heap H locs) (hdg : decode cc pc = .ok (.putfield 73, 3))
    (kk : ∀ (H1 : Heap) (locs1 : List Loc), va_P w.1 vwCl (tr_cs tr_X w (tr_si h 0 11 v)) H1 → va_S (tr_R tr_X w) s.heap H1 locs1 → W p l e R s m args below meth c H1 locs1 cells slots Q (F0 m (pc + 3) ls rest)) : W p l e R s m args below meth c H locs cells slots Q (F0 m pc ls (.int v :: .ref (tr_ad w 0) :: rest)) :=
  tr_pfi (i := 0) (k := 11) C hP hS tyX7 tyX7_ok nmX7 (by decide) rfl rfl hinX7 (by decide) mf_X7_73 rfl rfl (by decide +kernel) (Nat.le_of_ble_eq_true rfl) rfl hdg kk
theorem mf_X7_92 : (RX7, 92, RX2, (TX2 1).2.1, (TX2 1).2.2.1, "TurnRounds") ∈ tr_nl := by decide +kernel
theorem gf_X7_92 {i : Nat} (hn : tr_net i) (C : tr_Cx p s m args c cc nL RX7 tr_X w) (hP : va_P w.1 vwCl (tr_cs tr_X w h) H) (hdg : decode cc pc = .ok (.getfield 92, 3))
    (kk : W p l e R s m args below meth c H locs cells slots Q (F0 m (pc + 3) ls (.int (h.1 i 1) :: rest))) : W p l e R s m args below meth c H locs cells slots Q (F0 m pc ls (.ref (tr_ad w i) :: rest)) :=
  tr_gfN (i := i) (k := 1) C hP (tr_net_lt hn) (tr_net_cx hn _ _ _ _) rfl hinX2 (by decide) mf_X7_92 rfl rfl hdg kk
theorem pf_X7_92 {i : Nat} (hn : tr_net i) {v : Int32} (C : tr_Cx p s m args c cc nL RX7 tr_X w) (hP : va_P w.1 vwCl (tr_cs tr_X w h) H) (hS : va_S (tr_R tr_X w) s.heap H locs) (hdg : decode cc pc = .ok (.putfield 92, 3))
    (kk : ∀ (H1 : Heap) (locs1 : List Loc), va_P w.1 vwCl (tr_cs tr_X w (tr_si h i 1 v)) H1 → va_S (tr_R tr_X w) s.heap H1 locs1 → W p l e R s m args below meth c H1 locs1 cells slots Q (F0 m (pc + 3) ls rest)) : W p l e R s m args below meth c H locs cells slots Q (F0 m pc ls (.int v :: .ref (tr_ad w i) :: rest)) :=
  tr_pfiN (i := i) (k := 1) C hP hS tyX2 tyX2_ok nmX2 (tr_net_lt hn) (tr_net_cx hn _ _ _ _) rfl hinX2 (by decide) mf_X7_92 rfl rfl (by decide +kernel) (Nat.le_of_ble_eq_true rfl) (tr_net_cx hn _ _ _ _) hdg kk
theorem mf_X7_98 : (RX7, 98, RX4, (TX4 3).2.1, (TX4 3).2.2.1, "TurnRounds") ∈ tr_nl := by decide +kernel
theorem gf_X7_98 (C : tr_Cx p s m args c cc nL RX7 tr_X w) (hP : va_P w.1 vwCl (tr_cs tr_X w h) H) (hdg : decode cc pc = .ok (.getfield 98, 3))
    (kk : W p l e R s m args below meth c H locs cells slots Q (F0 m (pc + 3) ls (.int (h.1 27 3) :: rest))) : W p l e R s m args below meth c H locs cells slots Q (F0 m pc ls (.ref (tr_ad w 27) :: rest)) :=
  tr_gfN (i := 27) (k := 3) C hP (by decide) rfl rfl hinX4 (by decide) mf_X7_98 rfl rfl hdg kk
theorem pf_X7_98 {v : Int32} (C : tr_Cx p s m args c cc nL RX7 tr_X w) (hP : va_P w.1 vwCl (tr_cs tr_X w h) H) (hS : va_S (tr_R tr_X w) s.heap H locs) (hdg : decode cc pc = .ok (.putfield 98, 3))
    (kk : ∀ (H1 : Heap) (locs1 : List Loc), va_P w.1 vwCl (tr_cs tr_X w (tr_si h 27 3 v)) H1 → va_S (tr_R tr_X w) s.heap H1 locs1 → W p l e R s m args below meth c H1 locs1 cells slots Q (F0 m (pc + 3) ls rest)) : W p l e R s m args below meth c H locs cells slots Q (F0 m pc ls (.int v :: .ref (tr_ad w 27) :: rest)) :=
  tr_pfiN (i := 27) (k := 3) C hP hS tyX4 tyX4_ok nmX4 (by decide) rfl rfl hinX4 (by decide) mf_X7_98 rfl rfl (by decide +kernel) (Nat.le_of_ble_eq_true rfl) rfl hdg kk
theorem mf_X7_108 : (RX7, 108, RX1, (TX1 3).2.1, (TX1 3).2.2.1, "TurnRounds") ∈ tr_nl := by decide +kernel
theorem gf_X7_108 (C : tr_Cx p s m args c cc nL RX7 tr_X w) (hP : va_P w.1 vwCl (tr_cs tr_X w h) H) (hdg : decode cc pc = .ok (.getfield 108, 3))
    (kk : W p l e R s m args below meth c H locs cells slots Q (F0 m (pc + 3) ls (.int (h.1 13 3) :: rest))) : W p l e R s m args below meth c H locs cells slots Q (F0 m pc ls (.ref (tr_ad w 13) :: rest)) :=
  tr_gfN (i := 13) (k := 3) C hP (by decide) rfl rfl hinX1 (by decide) mf_X7_108 rfl rfl hdg kk
theorem pf_X7_108 {v : Int32} (C : tr_Cx p s m args c cc nL RX7 tr_X w) (hP : va_P w.1 vwCl (tr_cs tr_X w h) H) (hS : va_S (tr_R tr_X w) s.heap H locs) (hdg : decode cc pc = .ok (.putfield 108, 3))
    (kk : ∀ (H1 : Heap) (locs1 : List Loc), va_P w.1 vwCl (tr_cs tr_X w (tr_si h 13 3 v)) H1 → va_S (tr_R tr_X w) s.heap H1 locs1 → W p l e R s m args below meth c H1 locs1 cells slots Q (F0 m (pc + 3) ls rest)) : W p l e R s m args below meth c H locs cells slots Q (F0 m pc ls (.int v :: .ref (tr_ad w 13) :: rest)) :=
  tr_pfiN (i := 13) (k := 3) C hP hS tyX1 tyX1_ok nmX1 (by decide) rfl rfl hinX1 (by decide) mf_X7_108 rfl rfl (by decide +kernel) (Nat.le_of_ble_eq_true rfl) rfl hdg kk
theorem mf_X7_111 : (RX7, 111, RX5, (TX5 3).2.1, (TX5 3).2.2.1, "TurnRounds") ∈ tr_nl := by decide +kernel
theorem gf_X7_111 (C : tr_Cx p s m args c cc nL RX7 tr_X w) (hP : va_P w.1 vwCl (tr_cs tr_X w h) H) (hdg : decode cc pc = .ok (.getfield 111, 3))
    (kk : W p l e R s m args below meth c H locs cells slots Q (F0 m (pc + 3) ls (.int (h.1 17 3) :: rest))) : W p l e R s m args below meth c H locs cells slots Q (F0 m pc ls (.ref (tr_ad w 17) :: rest)) :=
  tr_gfN (i := 17) (k := 3) C hP (by decide) rfl rfl hinX5 (by decide) mf_X7_111 rfl rfl hdg kk
theorem pf_X7_111 {v : Int32} (C : tr_Cx p s m args c cc nL RX7 tr_X w) (hP : va_P w.1 vwCl (tr_cs tr_X w h) H) (hS : va_S (tr_R tr_X w) s.heap H locs) (hdg : decode cc pc = .ok (.putfield 111, 3))
    (kk : ∀ (H1 : Heap) (locs1 : List Loc), va_P w.1 vwCl (tr_cs tr_X w (tr_si h 17 3 v)) H1 → va_S (tr_R tr_X w) s.heap H1 locs1 → W p l e R s m args below meth c H1 locs1 cells slots Q (F0 m (pc + 3) ls rest)) : W p l e R s m args below meth c H locs cells slots Q (F0 m pc ls (.int v :: .ref (tr_ad w 17) :: rest)) :=
  tr_pfiN (i := 17) (k := 3) C hP hS tyX5 tyX5_ok nmX5 (by decide) rfl rfl hinX5 (by decide) mf_X7_111 rfl rfl (by decide +kernel) (Nat.le_of_ble_eq_true rfl) rfl hdg kk
theorem mf_X7_197 : Cond.fieldLink RX7 197 RX7 (TX7 12).2.1 (TX7 12).2.2.1 ∈ tr_T := tr_in 203 (by decide +kernel) rfl
theorem gf_X7_197 (C : tr_Cx p s m args c cc nL RX7 tr_X w) (hP : va_P w.1 vwCl (tr_cs tr_X w h) H) (hdg : decode cc pc = .ok (.getfield 197, 3))
    (kk : W p l e R s m args below meth c H locs cells slots Q (F0 m (pc + 3) ls (.long (h.2 0 12) :: rest))) : W p l e R s m args below meth c H locs cells slots Q (F0 m pc ls (.ref (tr_ad w 0) :: rest)) :=
  tr_gf (i := 0) (k := 12) C hP (by decide) rfl rfl hinX7 (by decide) mf_X7_197 rfl rfl hdg kk
theorem pf_X7_197 {v : Int64} (C : tr_Cx p s m args c cc nL RX7 tr_X w) (hP : va_P w.1 vwCl (tr_cs tr_X w h) H) (hS : va_S (tr_R tr_X w) s.heap H locs) (hdg : decode cc pc = .ok (.putfield 197, 3))
    (kk : ∀ (H1 : Heap) (locs1 : List Loc), va_P w.1 vwCl (tr_cs tr_X w (tr_sl h 0 12 v)) H1 → va_S (tr_R tr_X w) s.heap H1 locs1 → W p l e R s m args below meth c H1 locs1 cells slots Q (F0 m (pc + 3) ls rest)) : W p l e R s m args below meth c H locs cells slots Q (F0 m pc ls (.long v :: .ref (tr_ad w 0) :: rest)) :=
  tr_pfl (i := 0) (k := 12) C hP hS tyX7 tyX7_ok nmX7 (by decide) rfl rfl hinX7 (by decide) mf_X7_197 rfl rfl (by decide +kernel) (Nat.le_of_ble_eq_true rfl) rfl hdg kk
theorem mf_X8_7 : Cond.fieldLink RX8 7 RX8 (TX8 1).2.1 (TX8 1).2.2.1 ∈ tr_T := tr_in 579 (by decide +kernel) rfl
theorem gf_X8_7 (C : tr_Cx p s m args c cc nL RX8 tr_M w) (hP : va_P w.1 vwCl (tr_cs tr_M w h) H) (hdg : decode cc pc = .ok (.getfield 7, 3))
    (kk : W p l e R s m args below meth c H locs cells slots Q (F0 m (pc + 3) ls (.ref (tr_ad w 1) :: rest))) : W p l e R s m args below meth c H locs cells slots Q (F0 m pc ls (.ref (tr_ad w 0) :: rest)) :=
  tr_gf (i := 0) (k := 1) C hP (by decide) rfl rfl hinX8 (by decide) mf_X8_7 rfl rfl hdg kk
theorem mf_X8_13 : Cond.fieldLink RX8 13 RX8 (TX8 5).2.1 (TX8 5).2.2.1 ∈ tr_T := tr_in 583 (by decide +kernel) rfl
theorem gf_X8_13 (C : tr_Cx p s m args c cc nL RX8 tr_M w) (hP : va_P w.1 vwCl (tr_cs tr_M w h) H) (hdg : decode cc pc = .ok (.getfield 13, 3))
    (kk : W p l e R s m args below meth c H locs cells slots Q (F0 m (pc + 3) ls (.ref (tr_ad w 2) :: rest))) : W p l e R s m args below meth c H locs cells slots Q (F0 m pc ls (.ref (tr_ad w 0) :: rest)) :=
  tr_gf (i := 0) (k := 5) C hP (by decide) rfl rfl hinX8 (by decide) mf_X8_13 rfl rfl hdg kk
theorem mf_X8_16 : Cond.fieldLink RX8 16 RX8 (TX8 6).2.1 (TX8 6).2.2.1 ∈ tr_T := tr_in 584 (by decide +kernel) rfl
theorem gf_X8_16 (C : tr_Cx p s m args c cc nL RX8 tr_M w) (hP : va_P w.1 vwCl (tr_cs tr_M w h) H) (hdg : decode cc pc = .ok (.getfield 16, 3))
    (kk : W p l e R s m args below meth c H locs cells slots Q (F0 m (pc + 3) ls (.ref (tr_ad w 3) :: rest))) : W p l e R s m args below meth c H locs cells slots Q (F0 m pc ls (.ref (tr_ad w 0) :: rest)) :=
  tr_gf (i := 0) (k := 6) C hP (by decide) rfl rfl hinX8 (by decide) mf_X8_16 rfl rfl hdg kk
theorem mf_X8_19 : Cond.fieldLink RX8 19 RX8 (TX8 7).2.1 (TX8 7).2.2.1 ∈ tr_T := tr_in 585 (by decide +kernel) rfl
theorem gf_X8_19 (C : tr_Cx p s m args c cc nL RX8 tr_M w) (hP : va_P w.1 vwCl (tr_cs tr_M w h) H) (hdg : decode cc pc = .ok (.getfield 19, 3))
    (kk : W p l e R s m args below meth c H locs cells slots Q (F0 m (pc + 3) ls (.ref (tr_ad w 4) :: rest))) : W p l e R s m args below meth c H locs cells slots Q (F0 m pc ls (.ref (tr_ad w 0) :: rest)) :=
  tr_gf (i := 0) (k := 7) C hP (by decide) rfl rfl hinX8 (by decide) mf_X8_19 rfl rfl hdg kk
theorem mf_X8_22 : Cond.fieldLink RX8 22 RX8 (TX8 8).2.1 (TX8 8).2.2.1 ∈ tr_T := tr_in 586 (by decide +kernel) rfl
theorem gf_X8_22 (C : tr_Cx p s m args c cc nL RX8 tr_M w) (hP : va_P w.1 vwCl (tr_cs tr_M w h) H) (hdg : decode cc pc = .ok (.getfield 22, 3))
    (kk : W p l e R s m args below meth c H locs cells slots Q (F0 m (pc + 3) ls (.ref (tr_ad w 5) :: rest))) : W p l e R s m args below meth c H locs cells slots Q (F0 m pc ls (.ref (tr_ad w 0) :: rest)) :=
  tr_gf (i := 0) (k := 8) C hP (by decide) rfl rfl hinX8 (by decide) mf_X8_22 rfl rfl hdg kk
theorem mf_X8_25 : Cond.fieldLink RX8 25 RX8 (TX8 10).2.1 (TX8 10).2.2.1 ∈ tr_T := tr_in 588 (by decide +kernel) rfl
theorem gf_X8_25 (C : tr_Cx p s m args c cc nL RX8 tr_M w) (hP : va_P w.1 vwCl (tr_cs tr_M w h) H) (hdg : decode cc pc = .ok (.getfield 25, 3))
    (kk : W p l e R s m args below meth c H locs cells slots Q (F0 m (pc + 3) ls (.ref (tr_ad w 6) :: rest))) : W p l e R s m args below meth c H locs cells slots Q (F0 m pc ls (.ref (tr_ad w 0) :: rest)) :=
  tr_gf (i := 0) (k := 10) C hP (by decide) rfl rfl hinX8 (by decide) mf_X8_25 rfl rfl hdg kk
theorem mf_X8_28 : Cond.fieldLink RX8 28 RX8 (TX8 11).2.1 (TX8 11).2.2.1 ∈ tr_T := tr_in 589 (by decide +kernel) rfl
theorem gf_X8_28 (C : tr_Cx p s m args c cc nL RX8 tr_M w) (hP : va_P w.1 vwCl (tr_cs tr_M w h) H) (hdg : decode cc pc = .ok (.getfield 28, 3))
    (kk : W p l e R s m args below meth c H locs cells slots Q (F0 m (pc + 3) ls (.ref (tr_ad w 7) :: rest))) : W p l e R s m args below meth c H locs cells slots Q (F0 m pc ls (.ref (tr_ad w 0) :: rest)) :=
  tr_gf (i := 0) (k := 11) C hP (by decide) rfl rfl hinX8 (by decide) mf_X8_28 rfl rfl hdg kk
theorem mf_X8_32 : Cond.fieldLink RX8 32 RX8 (TX8 13).2.1 (TX8 13).2.2.1 ∈ tr_T := tr_in 591 (by decide +kernel) rfl
theorem gf_X8_32 (C : tr_Cx p s m args c cc nL RX8 tr_M w) (hP : va_P w.1 vwCl (tr_cs tr_M w h) H) (hdg : decode cc pc = .ok (.getfield 32, 3))
    (kk : W p l e R s m args below meth c H locs cells slots Q (F0 m (pc + 3) ls (.ref (tr_ad w 8) :: rest))) : W p l e R s m args below meth c H locs cells slots Q (F0 m pc ls (.ref (tr_ad w 0) :: rest)) :=
  tr_gf (i := 0) (k := 13) C hP (by decide) rfl rfl hinX8 (by decide) mf_X8_32 rfl rfl hdg kk
theorem mf_X8_35 : Cond.fieldLink RX8 35 RX8 (TX8 14).2.1 (TX8 14).2.2.1 ∈ tr_T := tr_in 592 (by decide +kernel) rfl
theorem gf_X8_35 (C : tr_Cx p s m args c cc nL RX8 tr_M w) (hP : va_P w.1 vwCl (tr_cs tr_M w h) H) (hdg : decode cc pc = .ok (.getfield 35, 3))
    (kk : W p l e R s m args below meth c H locs cells slots Q (F0 m (pc + 3) ls (.ref (tr_ad w 9) :: rest))) : W p l e R s m args below meth c H locs cells slots Q (F0 m pc ls (.ref (tr_ad w 0) :: rest)) :=
  tr_gf (i := 0) (k := 14) C hP (by decide) rfl rfl hinX8 (by decide) mf_X8_35 rfl rfl hdg kk
theorem mf_X8_38 : Cond.fieldLink RX8 38 RX8 (TX8 15).2.1 (TX8 15).2.2.1 ∈ tr_T := tr_in 593 (by decide +kernel) rfl
theorem gf_X8_38 (C : tr_Cx p s m args c cc nL RX8 tr_M w) (hP : va_P w.1 vwCl (tr_cs tr_M w h) H) (hdg : decode cc pc = .ok (.getfield 38, 3))
    (kk : W p l e R s m args below meth c H locs cells slots Q (F0 m (pc + 3) ls (.ref (tr_ad w 10) :: rest))) : W p l e R s m args below meth c H locs cells slots Q (F0 m pc ls (.ref (tr_ad w 0) :: rest)) :=
  tr_gf (i := 0) (k := 15) C hP (by decide) rfl rfl hinX8 (by decide) mf_X8_38 rfl rfl hdg kk
theorem mf_X8_41 : Cond.fieldLink RX8 41 RX8 (TX8 23).2.1 (TX8 23).2.2.1 ∈ tr_T := tr_in 601 (by decide +kernel) rfl
theorem gf_X8_41 (C : tr_Cx p s m args c cc nL RX8 tr_M w) (hP : va_P w.1 vwCl (tr_cs tr_M w h) H) (hdg : decode cc pc = .ok (.getfield 41, 3))
    (kk : W p l e R s m args below meth c H locs cells slots Q (F0 m (pc + 3) ls (.ref (tr_ad w 11) :: rest))) : W p l e R s m args below meth c H locs cells slots Q (F0 m pc ls (.ref (tr_ad w 0) :: rest)) :=
  tr_gf (i := 0) (k := 23) C hP (by decide) rfl rfl hinX8 (by decide) mf_X8_41 rfl rfl hdg kk
theorem mf_X8_44 : Cond.fieldLink RX8 44 RX8 (TX8 24).2.1 (TX8 24).2.2.1 ∈ tr_T := tr_in 602 (by decide +kernel) rfl
theorem gf_X8_44 (C : tr_Cx p s m args c cc nL RX8 tr_M w) (hP : va_P w.1 vwCl (tr_cs tr_M w h) H) (hdg : decode cc pc = .ok (.getfield 44, 3))
    (kk : W p l e R s m args below meth c H locs cells slots Q (F0 m (pc + 3) ls (.ref (tr_ad w 12) :: rest))) : W p l e R s m args below meth c H locs cells slots Q (F0 m pc ls (.ref (tr_ad w 0) :: rest)) :=
  tr_gf (i := 0) (k := 24) C hP (by decide) rfl rfl hinX8 (by decide) mf_X8_44 rfl rfl hdg kk
theorem mf_X8_47 : Cond.fieldLink RX8 47 RX8 (TX8 25).2.1 (TX8 25).2.2.1 ∈ tr_T := tr_in 603 (by decide +kernel) rfl
theorem gf_X8_47 (C : tr_Cx p s m args c cc nL RX8 tr_M w) (hP : va_P w.1 vwCl (tr_cs tr_M w h) H) (hdg : decode cc pc = .ok (.getfield 47, 3))
    (kk : W p l e R s m args below meth c H locs cells slots Q (F0 m (pc + 3) ls (.ref (tr_ad w 13) :: rest))) : W p l e R s m args below meth c H locs cells slots Q (F0 m pc ls (.ref (tr_ad w 0) :: rest)) :=
  tr_gf (i := 0) (k := 25) C hP (by decide) rfl rfl hinX8 (by decide) mf_X8_47 rfl rfl hdg kk
theorem mf_X8_50 : Cond.fieldLink RX8 50 RX8 (TX8 26).2.1 (TX8 26).2.2.1 ∈ tr_T := tr_in 604 (by decide +kernel) rfl
theorem gf_X8_50 (C : tr_Cx p s m args c cc nL RX8 tr_M w) (hP : va_P w.1 vwCl (tr_cs tr_M w h) H) (hdg : decode cc pc = .ok (.getfield 50, 3))
    (kk : W p l e R s m args below meth c H locs cells slots Q (F0 m (pc + 3) ls (.ref (tr_ad w 14) :: rest))) : W p l e R s m args below meth c H locs cells slots Q (F0 m pc ls (.ref (tr_ad w 0) :: rest)) :=
  tr_gf (i := 0) (k := 26) C hP (by decide) rfl rfl hinX8 (by decide) mf_X8_50 rfl rfl hdg kk
theorem mf_X8_53 : Cond.fieldLink RX8 53 RX8 (TX8 27).2.1 (TX8 27).2.2.1 ∈ tr_T := tr_in 605 (by decide +kernel) rfl
theorem gf_X8_53 (C : tr_Cx p s m args c cc nL RX8 tr_M w) (hP : va_P w.1 vwCl (tr_cs tr_M w h) H) (hdg : decode cc pc = .ok (.getfield 53, 3))
    (kk : W p l e R s m args below meth c H locs cells slots Q (F0 m (pc + 3) ls (.ref (tr_ad w 15) :: rest))) : W p l e R s m args below meth c H locs cells slots Q (F0 m pc ls (.ref (tr_ad w 0) :: rest)) :=
  tr_gf (i := 0) (k := 27) C hP (by decide) rfl rfl hinX8 (by decide) mf_X8_53 rfl rfl hdg kk
theorem mf_X8_56 : Cond.fieldLink RX8 56 RX8 (TX8 30).2.1 (TX8 30).2.2.1 ∈ tr_T := tr_in 608 (by decide +kernel) rfl
theorem gf_X8_56 (C : tr_Cx p s m args c cc nL RX8 tr_M w) (hP : va_P w.1 vwCl (tr_cs tr_M w h) H) (hdg : decode cc pc = .ok (.getfield 56, 3))
    (kk : W p l e R s m args below meth c H locs cells slots Q (F0 m (pc + 3) ls (.ref (tr_ad w 16) :: rest))) : W p l e R s m args below meth c H locs cells slots Q (F0 m pc ls (.ref (tr_ad w 0) :: rest)) :=
  tr_gf (i := 0) (k := 30) C hP (by decide) rfl rfl hinX8 (by decide) mf_X8_56 rfl rfl hdg kk
theorem mf_X8_59 : Cond.fieldLink RX8 59 RX8 (TX8 0).2.1 (TX8 0).2.2.1 ∈ tr_T := tr_in 578 (by decide +kernel) rfl
theorem gf_X8_59 (C : tr_Cx p s m args c cc nL RX8 tr_M w) (hP : va_P w.1 vwCl (tr_cs tr_M w h) H) (hdg : decode cc pc = .ok (.getfield 59, 3))
    (kk : W p l e R s m args below meth c H locs cells slots Q (F0 m (pc + 3) ls (.int (h.1 0 0) :: rest))) : W p l e R s m args below meth c H locs cells slots Q (F0 m pc ls (.ref (tr_ad w 0) :: rest)) :=
  tr_gf (i := 0) (k := 0) C hP (by decide) rfl rfl hinX8 (by decide) mf_X8_59 rfl rfl hdg kk
theorem pf_X8_59 {v : Int32} (C : tr_Cx p s m args c cc nL RX8 tr_M w) (hP : va_P w.1 vwCl (tr_cs tr_M w h) H) (hS : va_S (tr_R tr_M w) s.heap H locs) (hdg : decode cc pc = .ok (.putfield 59, 3))
    (kk : ∀ (H1 : Heap) (locs1 : List Loc), va_P w.1 vwCl (tr_cs tr_M w (tr_si h 0 0 v)) H1 → va_S (tr_R tr_M w) s.heap H1 locs1 → W p l e R s m args below meth c H1 locs1 cells slots Q (F0 m (pc + 3) ls rest)) : W p l e R s m args below meth c H locs cells slots Q (F0 m pc ls (.int v :: .ref (tr_ad w 0) :: rest)) :=
  tr_pfi (i := 0) (k := 0) C hP hS tyX8 tyX8_ok nmX8 (by decide) rfl rfl hinX8 (by decide) mf_X8_59 rfl rfl (by decide +kernel) (Nat.le_of_ble_eq_true rfl) rfl hdg kk
theorem mf_X8_73 : Cond.fieldLink RX8 73 RX8 (TX8 2).2.1 (TX8 2).2.2.1 ∈ tr_T := tr_in 580 (by decide +kernel) rfl
theorem gf_X8_73 (C : tr_Cx p s m args c cc nL RX8 tr_M w) (hP : va_P w.1 vwCl (tr_cs tr_M w h) H) (hdg : decode cc pc = .ok (.getfield 73, 3))
    (kk : W p l e R s m args below meth c H locs cells slots Q (F0 m (pc + 3) ls (.int (h.1 0 2) :: rest))) : W p l e R s m args below meth c H locs cells slots Q (F0 m pc ls (.ref (tr_ad w 0) :: rest)) :=
  tr_gf (i := 0) (k := 2) C hP (by decide) rfl rfl hinX8 (by decide) mf_X8_73 rfl rfl hdg kk
theorem pf_X8_73 {v : Int32} (C : tr_Cx p s m args c cc nL RX8 tr_M w) (hP : va_P w.1 vwCl (tr_cs tr_M w h) H) (hS : va_S (tr_R tr_M w) s.heap H locs) (hdg : decode cc pc = .ok (.putfield 73, 3))
    (kk : ∀ (H1 : Heap) (locs1 : List Loc), va_P w.1 vwCl (tr_cs tr_M w (tr_si h 0 2 v)) H1 → va_S (tr_R tr_M w) s.heap H1 locs1 → W p l e R s m args below meth c H1 locs1 cells slots Q (F0 m (pc + 3) ls rest)) : W p l e R s m args below meth c H locs cells slots Q (F0 m pc ls (.int v :: .ref (tr_ad w 0) :: rest)) :=
  tr_pfi (i := 0) (k := 2) C hP hS tyX8 tyX8_ok nmX8 (by decide) rfl rfl hinX8 (by decide) mf_X8_73 rfl rfl (by decide +kernel) (Nat.le_of_ble_eq_true rfl) rfl hdg kk
theorem mf_X8_76 : Cond.fieldLink RX8 76 RX8 (TX8 3).2.1 (TX8 3).2.2.1 ∈ tr_T := tr_in 581 (by decide +kernel) rfl
theorem gf_X8_76 (C : tr_Cx p s m args c cc nL RX8 tr_M w) (hP : va_P w.1 vwCl (tr_cs tr_M w h) H) (hdg : decode cc pc = .ok (.getfield 76, 3))
    (kk : W p l e R s m args below meth c H locs cells slots Q (F0 m (pc + 3) ls (.int (h.1 0 3) :: rest))) : W p l e R s m args below meth c H locs cells slots Q (F0 m pc ls (.ref (tr_ad w 0) :: rest)) :=
  tr_gf (i := 0) (k := 3) C hP (by decide) rfl rfl hinX8 (by decide) mf_X8_76 rfl rfl hdg kk
theorem pf_X8_76 {v : Int32} (C : tr_Cx p s m args c cc nL RX8 tr_M w) (hP : va_P w.1 vwCl (tr_cs tr_M w h) H) (hS : va_S (tr_R tr_M w) s.heap H locs) (hdg : decode cc pc = .ok (.putfield 76, 3))
    (kk : ∀ (H1 : Heap) (locs1 : List Loc), va_P w.1 vwCl (tr_cs tr_M w (tr_si h 0 3 v)) H1 → va_S (tr_R tr_M w) s.heap H1 locs1 → W p l e R s m args below meth c H1 locs1 cells slots Q (F0 m (pc + 3) ls rest)) : W p l e R s m args below meth c H locs cells slots Q (F0 m pc ls (.int v :: .ref (tr_ad w 0) :: rest)) :=
  tr_pfi (i := 0) (k := 3) C hP hS tyX8 tyX8_ok nmX8 (by decide) rfl rfl hinX8 (by decide) mf_X8_76 rfl rfl (by decide +kernel) (Nat.le_of_ble_eq_true rfl) rfl hdg kk
theorem mf_X8_87 : Cond.fieldLink RX8 87 RX8 (TX8 4).2.1 (TX8 4).2.2.1 ∈ tr_T := tr_in 582 (by decide +kernel) rfl
theorem gf_X8_87 (C : tr_Cx p s m args c cc nL RX8 tr_M w) (hP : va_P w.1 vwCl (tr_cs tr_M w h) H) (hdg : decode cc pc = .ok (.getfield 87, 3))
    (kk : W p l e R s m args below meth c H locs cells slots Q (F0 m (pc + 3) ls (.int (h.1 0 4) :: rest))) : W p l e R s m args below meth c H locs cells slots Q (F0 m pc ls (.ref (tr_ad w 0) :: rest)) :=
  tr_gf (i := 0) (k := 4) C hP (by decide) rfl rfl hinX8 (by decide) mf_X8_87 rfl rfl hdg kk
theorem pf_X8_87 {v : Int32} (C : tr_Cx p s m args c cc nL RX8 tr_M w) (hP : va_P w.1 vwCl (tr_cs tr_M w h) H) (hS : va_S (tr_R tr_M w) s.heap H locs) (hdg : decode cc pc = .ok (.putfield 87, 3))
    (kk : ∀ (H1 : Heap) (locs1 : List Loc), va_P w.1 vwCl (tr_cs tr_M w (tr_si h 0 4 v)) H1 → va_S (tr_R tr_M w) s.heap H1 locs1 → W p l e R s m args below meth c H1 locs1 cells slots Q (F0 m (pc + 3) ls rest)) : W p l e R s m args below meth c H locs cells slots Q (F0 m pc ls (.int v :: .ref (tr_ad w 0) :: rest)) :=
  tr_pfi (i := 0) (k := 4) C hP hS tyX8 tyX8_ok nmX8 (by decide) rfl rfl hinX8 (by decide) mf_X8_87 rfl rfl (by decide +kernel) (Nat.le_of_ble_eq_true rfl) rfl hdg kk
theorem mf_X8_102 : Cond.fieldLink RX8 102 RX8 (TX8 9).2.1 (TX8 9).2.2.1 ∈ tr_T := tr_in 587 (by decide +kernel) rfl
theorem gf_X8_102 (C : tr_Cx p s m args c cc nL RX8 tr_M w) (hP : va_P w.1 vwCl (tr_cs tr_M w h) H) (hdg : decode cc pc = .ok (.getfield 102, 3))
    (kk : W p l e R s m args below meth c H locs cells slots Q (F0 m (pc + 3) ls (.int (h.1 0 9) :: rest))) : W p l e R s m args below meth c H locs cells slots Q (F0 m pc ls (.ref (tr_ad w 0) :: rest)) :=
  tr_gf (i := 0) (k := 9) C hP (by decide) rfl rfl hinX8 (by decide) mf_X8_102 rfl rfl hdg kk
theorem pf_X8_102 {v : Int32} (C : tr_Cx p s m args c cc nL RX8 tr_M w) (hP : va_P w.1 vwCl (tr_cs tr_M w h) H) (hS : va_S (tr_R tr_M w) s.heap H locs) (hdg : decode cc pc = .ok (.putfield 102, 3))
    (kk : ∀ (H1 : Heap) (locs1 : List Loc), va_P w.1 vwCl (tr_cs tr_M w (tr_si h 0 9 v)) H1 → va_S (tr_R tr_M w) s.heap H1 locs1 → W p l e R s m args below meth c H1 locs1 cells slots Q (F0 m (pc + 3) ls rest)) : W p l e R s m args below meth c H locs cells slots Q (F0 m pc ls (.int v :: .ref (tr_ad w 0) :: rest)) :=
  tr_pfi (i := 0) (k := 9) C hP hS tyX8 tyX8_ok nmX8 (by decide) rfl rfl hinX8 (by decide) mf_X8_102 rfl rfl (by decide +kernel) (Nat.le_of_ble_eq_true rfl) rfl hdg kk
theorem mf_X8_109 : Cond.fieldLink RX8 109 RX8 (TX8 17).2.1 (TX8 17).2.2.1 ∈ tr_T := tr_in 595 (by decide +kernel) rfl
theorem gf_X8_109 (C : tr_Cx p s m args c cc nL RX8 tr_M w) (hP : va_P w.1 vwCl (tr_cs tr_M w h) H) (hdg : decode cc pc = .ok (.getfield 109, 3))
    (kk : W p l e R s m args below meth c H locs cells slots Q (F0 m (pc + 3) ls (.int (h.1 0 17) :: rest))) : W p l e R s m args below meth c H locs cells slots Q (F0 m pc ls (.ref (tr_ad w 0) :: rest)) :=
  tr_gf (i := 0) (k := 17) C hP (by decide) rfl rfl hinX8 (by decide) mf_X8_109 rfl rfl hdg kk
theorem pf_X8_109 {v : Int32} (C : tr_Cx p s m args c cc nL RX8 tr_M w) (hP : va_P w.1 vwCl (tr_cs tr_M w h) H) (hS : va_S (tr_R tr_M w) s.heap H locs) (hdg : decode cc pc = .ok (.putfield 109, 3))
    (kk : ∀ (H1 : Heap) (locs1 : List Loc), va_P w.1 vwCl (tr_cs tr_M w (tr_si h 0 17 v)) H1 → va_S (tr_R tr_M w) s.heap H1 locs1 → W p l e R s m args below meth c H1 locs1 cells slots Q (F0 m (pc + 3) ls rest)) : W p l e R s m args below meth c H locs cells slots Q (F0 m pc ls (.int v :: .ref (tr_ad w 0) :: rest)) :=
  tr_pfi (i := 0) (k := 17) C hP hS tyX8 tyX8_ok nmX8 (by decide) rfl rfl hinX8 (by decide) mf_X8_109 rfl rfl (by decide +kernel) (Nat.le_of_ble_eq_true rfl) rfl hdg kk
theorem mf_X8_112 : Cond.fieldLink RX8 112 RX8 (TX8 22).2.1 (TX8 22).2.2.1 ∈ tr_T := tr_in 600 (by decide +kernel) rfl
theorem gf_X8_112 (C : tr_Cx p s m args c cc nL RX8 tr_M w) (hP : va_P w.1 vwCl (tr_cs tr_M w h) H) (hdg : decode cc pc = .ok (.getfield 112, 3))
    (kk : W p l e R s m args below meth c H locs cells slots Q (F0 m (pc + 3) ls (.long (h.2 0 22) :: rest))) : W p l e R s m args below meth c H locs cells slots Q (F0 m pc ls (.ref (tr_ad w 0) :: rest)) :=
  tr_gf (i := 0) (k := 22) C hP (by decide) rfl rfl hinX8 (by decide) mf_X8_112 rfl rfl hdg kk
theorem pf_X8_112 {v : Int64} (C : tr_Cx p s m args c cc nL RX8 tr_M w) (hP : va_P w.1 vwCl (tr_cs tr_M w h) H) (hS : va_S (tr_R tr_M w) s.heap H locs) (hdg : decode cc pc = .ok (.putfield 112, 3))
    (kk : ∀ (H1 : Heap) (locs1 : List Loc), va_P w.1 vwCl (tr_cs tr_M w (tr_sl h 0 22 v)) H1 → va_S (tr_R tr_M w) s.heap H1 locs1 → W p l e R s m args below meth c H1 locs1 cells slots Q (F0 m (pc + 3) ls rest)) : W p l e R s m args below meth c H locs cells slots Q (F0 m pc ls (.long v :: .ref (tr_ad w 0) :: rest)) :=
  tr_pfl (i := 0) (k := 22) C hP hS tyX8 tyX8_ok nmX8 (by decide) rfl rfl hinX8 (by decide) mf_X8_112 rfl rfl (by decide +kernel) (Nat.le_of_ble_eq_true rfl) rfl hdg kk
theorem mf_X8_116 : Cond.fieldLink RX8 116 RX8 (TX8 19).2.1 (TX8 19).2.2.1 ∈ tr_T := tr_in 597 (by decide +kernel) rfl
theorem gf_X8_116 (C : tr_Cx p s m args c cc nL RX8 tr_M w) (hP : va_P w.1 vwCl (tr_cs tr_M w h) H) (hdg : decode cc pc = .ok (.getfield 116, 3))
    (kk : W p l e R s m args below meth c H locs cells slots Q (F0 m (pc + 3) ls (.int (h.1 0 19) :: rest))) : W p l e R s m args below meth c H locs cells slots Q (F0 m pc ls (.ref (tr_ad w 0) :: rest)) :=
  tr_gf (i := 0) (k := 19) C hP (by decide) rfl rfl hinX8 (by decide) mf_X8_116 rfl rfl hdg kk
theorem pf_X8_116 {v : Int32} (C : tr_Cx p s m args c cc nL RX8 tr_M w) (hP : va_P w.1 vwCl (tr_cs tr_M w h) H) (hS : va_S (tr_R tr_M w) s.heap H locs) (hdg : decode cc pc = .ok (.putfield 116, 3))
    (kk : ∀ (H1 : Heap) (locs1 : List Loc), va_P w.1 vwCl (tr_cs tr_M w (tr_si h 0 19 v)) H1 → va_S (tr_R tr_M w) s.heap H1 locs1 → W p l e R s m args below meth c H1 locs1 cells slots Q (F0 m (pc + 3) ls rest)) : W p l e R s m args below meth c H locs cells slots Q (F0 m pc ls (.int v :: .ref (tr_ad w 0) :: rest)) :=
  tr_pfi (i := 0) (k := 19) C hP hS tyX8 tyX8_ok nmX8 (by decide) rfl rfl hinX8 (by decide) mf_X8_116 rfl rfl (by decide +kernel) (Nat.le_of_ble_eq_true rfl) rfl hdg kk
theorem mf_X8_119 : Cond.fieldLink RX8 119 RX8 (TX8 18).2.1 (TX8 18).2.2.1 ∈ tr_T := tr_in 596 (by decide +kernel) rfl
theorem gf_X8_119 (C : tr_Cx p s m args c cc nL RX8 tr_M w) (hP : va_P w.1 vwCl (tr_cs tr_M w h) H) (hdg : decode cc pc = .ok (.getfield 119, 3))
    (kk : W p l e R s m args below meth c H locs cells slots Q (F0 m (pc + 3) ls (.int (h.1 0 18) :: rest))) : W p l e R s m args below meth c H locs cells slots Q (F0 m pc ls (.ref (tr_ad w 0) :: rest)) :=
  tr_gf (i := 0) (k := 18) C hP (by decide) rfl rfl hinX8 (by decide) mf_X8_119 rfl rfl hdg kk
theorem pf_X8_119 {v : Int32} (C : tr_Cx p s m args c cc nL RX8 tr_M w) (hP : va_P w.1 vwCl (tr_cs tr_M w h) H) (hS : va_S (tr_R tr_M w) s.heap H locs) (hdg : decode cc pc = .ok (.putfield 119, 3))
    (kk : ∀ (H1 : Heap) (locs1 : List Loc), va_P w.1 vwCl (tr_cs tr_M w (tr_si h 0 18 v)) H1 → va_S (tr_R tr_M w) s.heap H1 locs1 → W p l e R s m args below meth c H1 locs1 cells slots Q (F0 m (pc + 3) ls rest)) : W p l e R s m args below meth c H locs cells slots Q (F0 m pc ls (.int v :: .ref (tr_ad w 0) :: rest)) :=
  tr_pfi (i := 0) (k := 18) C hP hS tyX8 tyX8_ok nmX8 (by decide) rfl rfl hinX8 (by decide) mf_X8_119 rfl rfl (by decide +kernel) (Nat.le_of_ble_eq_true rfl) rfl hdg kk
theorem mf_X8_122 : Cond.fieldLink RX8 122 RX8 (TX8 20).2.1 (TX8 20).2.2.1 ∈ tr_T := tr_in 598 (by decide +kernel) rfl
theorem gf_X8_122 (C : tr_Cx p s m args c cc nL RX8 tr_M w) (hP : va_P w.1 vwCl (tr_cs tr_M w h) H) (hdg : decode cc pc = .ok (.getfield 122, 3))
    (kk : W p l e R s m args below meth c H locs cells slots Q (F0 m (pc + 3) ls (.long (h.2 0 20) :: rest))) : W p l e R s m args below meth c H locs cells slots Q (F0 m pc ls (.ref (tr_ad w 0) :: rest)) :=
  tr_gf (i := 0) (k := 20) C hP (by decide) rfl rfl hinX8 (by decide) mf_X8_122 rfl rfl hdg kk
theorem pf_X8_122 {v : Int64} (C : tr_Cx p s m args c cc nL RX8 tr_M w) (hP : va_P w.1 vwCl (tr_cs tr_M w h) H) (hS : va_S (tr_R tr_M w) s.heap H locs) (hdg : decode cc pc = .ok (.putfield 122, 3))
    (kk : ∀ (H1 : Heap) (locs1 : List Loc), va_P w.1 vwCl (tr_cs tr_M w (tr_sl h 0 20 v)) H1 → va_S (tr_R tr_M w) s.heap H1 locs1 → W p l e R s m args below meth c H1 locs1 cells slots Q (F0 m (pc + 3) ls rest)) : W p l e R s m args below meth c H locs cells slots Q (F0 m pc ls (.long v :: .ref (tr_ad w 0) :: rest)) :=
  tr_pfl (i := 0) (k := 20) C hP hS tyX8 tyX8_ok nmX8 (by decide) rfl rfl hinX8 (by decide) mf_X8_122 rfl rfl (by decide +kernel) (Nat.le_of_ble_eq_true rfl) rfl hdg kk
theorem mf_X8_125 : Cond.fieldLink RX8 125 RX8 (TX8 21).2.1 (TX8 21).2.2.1 ∈ tr_T := tr_in 599 (by decide +kernel) rfl
theorem gf_X8_125 (C : tr_Cx p s m args c cc nL RX8 tr_M w) (hP : va_P w.1 vwCl (tr_cs tr_M w h) H) (hdg : decode cc pc = .ok (.getfield 125, 3))
    (kk : W p l e R s m args below meth c H locs cells slots Q (F0 m (pc + 3) ls (.int (h.1 0 21) :: rest))) : W p l e R s m args below meth c H locs cells slots Q (F0 m pc ls (.ref (tr_ad w 0) :: rest)) :=
  tr_gf (i := 0) (k := 21) C hP (by decide) rfl rfl hinX8 (by decide) mf_X8_125 rfl rfl hdg kk
theorem pf_X8_125 {v : Int32} (C : tr_Cx p s m args c cc nL RX8 tr_M w) (hP : va_P w.1 vwCl (tr_cs tr_M w h) H) (hS : va_S (tr_R tr_M w) s.heap H locs) (hdg : decode cc pc = .ok (.putfield 125, 3))
    (kk : ∀ (H1 : Heap) (locs1 : List Loc), va_P w.1 vwCl (tr_cs tr_M w (tr_si h 0 21 v)) H1 → va_S (tr_R tr_M w) s.heap H1 locs1 → W p l e R s m args below meth c H1 locs1 cells slots Q (F0 m (pc + 3) ls rest)) : W p l e R s m args below meth c H locs cells slots Q (F0 m pc ls (.int v :: .ref (tr_ad w 0) :: rest)) :=
  tr_pfi (i := 0) (k := 21) C hP hS tyX8 tyX8_ok nmX8 (by decide) rfl rfl hinX8 (by decide) mf_X8_125 rfl rfl (by decide +kernel) (Nat.le_of_ble_eq_true rfl) rfl hdg kk
theorem mf_X8_161 : Cond.fieldLink RX8 161 RX8 (TX8 12).2.1 (TX8 12).2.2.1 ∈ tr_T := tr_in 590 (by decide +kernel) rfl
theorem gf_X8_161 (C : tr_Cx p s m args c cc nL RX8 tr_M w) (hP : va_P w.1 vwCl (tr_cs tr_M w h) H) (hdg : decode cc pc = .ok (.getfield 161, 3))
    (kk : W p l e R s m args below meth c H locs cells slots Q (F0 m (pc + 3) ls (.int (h.1 0 12) :: rest))) : W p l e R s m args below meth c H locs cells slots Q (F0 m pc ls (.ref (tr_ad w 0) :: rest)) :=
  tr_gf (i := 0) (k := 12) C hP (by decide) rfl rfl hinX8 (by decide) mf_X8_161 rfl rfl hdg kk
theorem pf_X8_161 {v : Int32} (C : tr_Cx p s m args c cc nL RX8 tr_M w) (hP : va_P w.1 vwCl (tr_cs tr_M w h) H) (hS : va_S (tr_R tr_M w) s.heap H locs) (hdg : decode cc pc = .ok (.putfield 161, 3))
    (kk : ∀ (H1 : Heap) (locs1 : List Loc), va_P w.1 vwCl (tr_cs tr_M w (tr_si h 0 12 v)) H1 → va_S (tr_R tr_M w) s.heap H1 locs1 → W p l e R s m args below meth c H1 locs1 cells slots Q (F0 m (pc + 3) ls rest)) : W p l e R s m args below meth c H locs cells slots Q (F0 m pc ls (.int v :: .ref (tr_ad w 0) :: rest)) :=
  tr_pfi (i := 0) (k := 12) C hP hS tyX8 tyX8_ok nmX8 (by decide) rfl rfl hinX8 (by decide) mf_X8_161 rfl rfl (by decide +kernel) (Nat.le_of_ble_eq_true rfl) rfl hdg kk
theorem mf_X8_234 : Cond.fieldLink RX8 234 RX8 (TX8 28).2.1 (TX8 28).2.2.1 ∈ tr_T := tr_in 606 (by decide +kernel) rfl
theorem gf_X8_234 (C : tr_Cx p s m args c cc nL RX8 tr_M w) (hP : va_P w.1 vwCl (tr_cs tr_M w h) H) (hdg : decode cc pc = .ok (.getfield 234, 3))
    (kk : W p l e R s m args below meth c H locs cells slots Q (F0 m (pc + 3) ls (.int (h.1 0 28) :: rest))) : W p l e R s m args below meth c H locs cells slots Q (F0 m pc ls (.ref (tr_ad w 0) :: rest)) :=
  tr_gf (i := 0) (k := 28) C hP (by decide) rfl rfl hinX8 (by decide) mf_X8_234 rfl rfl hdg kk
theorem pf_X8_234 {v : Int32} (C : tr_Cx p s m args c cc nL RX8 tr_M w) (hP : va_P w.1 vwCl (tr_cs tr_M w h) H) (hS : va_S (tr_R tr_M w) s.heap H locs) (hdg : decode cc pc = .ok (.putfield 234, 3))
    (kk : ∀ (H1 : Heap) (locs1 : List Loc), va_P w.1 vwCl (tr_cs tr_M w (tr_si h 0 28 v)) H1 → va_S (tr_R tr_M w) s.heap H1 locs1 → W p l e R s m args below meth c H1 locs1 cells slots Q (F0 m (pc + 3) ls rest)) : W p l e R s m args below meth c H locs cells slots Q (F0 m pc ls (.int v :: .ref (tr_ad w 0) :: rest)) :=
  tr_pfi (i := 0) (k := 28) C hP hS tyX8 tyX8_ok nmX8 (by decide) rfl rfl hinX8 (by decide) mf_X8_234 rfl rfl (by decide +kernel) (Nat.le_of_ble_eq_true rfl) rfl hdg kk
theorem mf_X8_237 : Cond.fieldLink RX8 237 RX8 (TX8 29).2.1 (TX8 29).2.2.1 ∈ tr_T := tr_in 607 (by decide +kernel) rfl
theorem gf_X8_237 (C : tr_Cx p s m args c cc nL RX8 tr_M w) (hP : va_P w.1 vwCl (tr_cs tr_M w h) H) (hdg : decode cc pc = .ok (.getfield 237, 3))
    (kk : W p l e R s m args below meth c H locs cells slots Q (F0 m (pc + 3) ls (.int (h.1 0 29) :: rest))) : W p l e R s m args below meth c H locs cells slots Q (F0 m pc ls (.ref (tr_ad w 0) :: rest)) :=
  tr_gf (i := 0) (k := 29) C hP (by decide) rfl rfl hinX8 (by decide) mf_X8_237 rfl rfl hdg kk
theorem pf_X8_237 {v : Int32} (C : tr_Cx p s m args c cc nL RX8 tr_M w) (hP : va_P w.1 vwCl (tr_cs tr_M w h) H) (hS : va_S (tr_R tr_M w) s.heap H locs) (hdg : decode cc pc = .ok (.putfield 237, 3))
    (kk : ∀ (H1 : Heap) (locs1 : List Loc), va_P w.1 vwCl (tr_cs tr_M w (tr_si h 0 29 v)) H1 → va_S (tr_R tr_M w) s.heap H1 locs1 → W p l e R s m args below meth c H1 locs1 cells slots Q (F0 m (pc + 3) ls rest)) : W p l e R s m args below meth c H locs cells slots Q (F0 m pc ls (.int v :: .ref (tr_ad w 0) :: rest)) :=
  tr_pfi (i := 0) (k := 29) C hP hS tyX8 tyX8_ok nmX8 (by decide) rfl rfl hinX8 (by decide) mf_X8_237 rfl rfl (by decide +kernel) (Nat.le_of_ble_eq_true rfl) rfl hdg kk
theorem mf_X8_251 : Cond.fieldLink RX8 251 RX8 (TX8 16).2.1 (TX8 16).2.2.1 ∈ tr_T := tr_in 594 (by decide +kernel) rfl
theorem gf_X8_251 (C : tr_Cx p s m args c cc nL RX8 tr_M w) (hP : va_P w.1 vwCl (tr_cs tr_M w h) H) (hdg : decode cc pc = .ok (.getfield 251, 3))
    (kk : W p l e R s m args below meth c H locs cells slots Q (F0 m (pc + 3) ls (.long (h.2 0 16) :: rest))) : W p l e R s m args below meth c H locs cells slots Q (F0 m pc ls (.ref (tr_ad w 0) :: rest)) :=
  tr_gf (i := 0) (k := 16) C hP (by decide) rfl rfl hinX8 (by decide) mf_X8_251 rfl rfl hdg kk
theorem pf_X8_251 {v : Int64} (C : tr_Cx p s m args c cc nL RX8 tr_M w) (hP : va_P w.1 vwCl (tr_cs tr_M w h) H) (hS : va_S (tr_R tr_M w) s.heap H locs) (hdg : decode cc pc = .ok (.putfield 251, 3))
    (kk : ∀ (H1 : Heap) (locs1 : List Loc), va_P w.1 vwCl (tr_cs tr_M w (tr_sl h 0 16 v)) H1 → va_S (tr_R tr_M w) s.heap H1 locs1 → W p l e R s m args below meth c H1 locs1 cells slots Q (F0 m (pc + 3) ls rest)) : W p l e R s m args below meth c H locs cells slots Q (F0 m pc ls (.long v :: .ref (tr_ad w 0) :: rest)) :=
  tr_pfl (i := 0) (k := 16) C hP hS tyX8 tyX8_ok nmX8 (by decide) rfl rfl hinX8 (by decide) mf_X8_251 rfl rfl (by decide +kernel) (Nat.le_of_ble_eq_true rfl) rfl hdg kk
end TRF
