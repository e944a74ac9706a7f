abbrev r_X8_in : Room := { frames := 0, cells := 0, slots := 0, locals := 0 }
set_option maxHeartbeats 4000000 in
set_option maxRecDepth 100000 in
theorem c_X8_in (l : Launch) (w : tr_E) (tv900 : Int64) (tv901 : Int64) (tv902 : Int64) (h : tr_H) (r0 : Int32) (hk : f_X8_in tv900 tv901 tv902 = some r0) : Met l yX8_in (Cond.code yX8_in cX8_in 6 (some .boolean) :: tr_T) r_X8_in (va_Pc [.long tv900, .long tv901, .long tv902] (tr_Wo tr_M w h)) (tr_Qi tr_M w r0 h) 0 0 (tr_R tr_M w) := by
  refine tr_start (by decide) (Nat.le_refl _) ?_
  intro p e s m args below meth c C hr hlocks hargs hP
  have hx := C.1
  have hb := C.2.1
  have hS : va_S (tr_R tr_M w) s.heap s.heap [] := va_S.rf
  have hl := lv_entry ([.long tv900, .long tv901, .long tv902]) (n := 6) (Nat.le_of_ble_eq_true rfl)
  rw [lg_entry_eq]
  generalize (lg_sl ([.long tv900, .long tv901, .long tv902]) ++ List.replicate (6 - (lg_sl ([.long tv900, .long tv901, .long tv902])).length) Slot.unset).toArray = ls at hl ⊢
  have hl : lv_has ls 6 [(0, .long tv900), (2, .long tv901), (4, .long tv902)] := hl
  replace hk : tr_ok (f_X8_in tv900 tv901 tv902) (fun o => o = r0) := ⟨_, hk, rfl⟩
  unfold f_X8_in at hk
  refine lv_lload_n hx hb dX8_in_0 rfl (lv_at hl 0 rfl) ?_
  refine lv_lload_n hx hb dX8_in_1 rfl (lv_at hl 1 rfl) ?_
  refine W.lcmp hx hb dX8_in_2 ?_
  refine lv_if_lt (tgt := 17) hx hb dX8_in_3 (by decide) (fun tc1 => ?_) (fun tc1 => ?_)
  · replace hk := tr_ift hk tc1
    refine lv_iconst (v := 0) hx hb dX8_in_17 (by decide) ?_
    exact tr_zret C hP hS hr hlocks rfl (congrArg (fun x => (x, h)) (tr_okS (P := (fun o => o = r0)) hk)) dX8_in_18
  · replace hk := tr_iff hk tc1
    refine lv_lload_n hx hb dX8_in_6 rfl (lv_at hl 0 rfl) ?_
    refine lv_lload hx hb dX8_in_7 (lv_at hl 2 rfl) ?_
    refine W.lcmp hx hb dX8_in_9 ?_
    refine lv_if_gt (tgt := 17) hx hb dX8_in_10 (by decide) (fun tc2 => ?_) (fun tc2 => ?_)
    · replace hk := tr_ift hk tc2
      refine lv_iconst (v := 0) hx hb dX8_in_17 (by decide) ?_
      exact tr_zret C hP hS hr hlocks rfl (congrArg (fun x => (x, h)) (tr_okS (P := (fun o => o = r0)) hk)) dX8_in_18
    · replace hk := tr_iff hk tc2
      refine lv_iconst (v := 1) hx hb dX8_in_13 (by decide) ?_
      refine lv_goto (tgt := 18) hx hb dX8_in_14 (by decide) ?_
      exact tr_zret C hP hS hr hlocks rfl (congrArg (fun x => (x, h)) (tr_okS (P := (fun o => o = r0)) hk)) dX8_in_18
abbrev r_X8_has : Room := { frames := 0, cells := 0, slots := 0, locals := 0 }
set_option maxHeartbeats 4000000 in
set_option maxRecDepth 100000 in
theorem c_X8_has (l : Launch) (w : tr_E) (tv900 : Int32) (tv901 : Int32) (h : tr_H) (r0 : Int32) (hk : f_X8_has tv900 tv901 = some r0) : Met l yX8_has (Cond.code yX8_has cX8_has 2 (some .boolean) :: tr_T) r_X8_has (va_Pc [.int tv900, .int tv901] (tr_Wo tr_M w h)) (tr_Qi tr_M w r0 h) 0 0 (tr_R tr_M w) := by
  refine tr_start (by decide) (Nat.le_refl _) ?_
  intro p e s m args below meth c C hr hlocks hargs hP
  have hx := C.1
  have hb := C.2.1
  have hS : va_S (tr_R tr_M w) s.heap s.heap [] := va_S.rf
  have hl := lv_entry ([.int tv900, .int tv901]) (n := 2) (Nat.le_of_ble_eq_true rfl)
  rw [lg_entry_eq]
  generalize (lg_sl ([.int tv900, .int tv901]) ++ List.replicate (2 - (lg_sl ([.int tv900, .int tv901])).length) Slot.unset).toArray = ls at hl ⊢
  have hl : lv_has ls 2 [(0, .int tv900), (1, .int tv901)] := hl
  replace hk : tr_ok (f_X8_has tv900 tv901) (fun o => o = r0) := ⟨_, hk, rfl⟩
  unfold f_X8_has at hk
  refine lv_iload_n hx hb dX8_has_0 rfl (lv_at hl 0 rfl) ?_
  refine lv_iload_n hx hb dX8_has_1 rfl (lv_at hl 1 rfl) ?_
  refine lv_ishr hx hb dX8_has_2 ?_
  refine lv_iconst (v := 1) hx hb dX8_has_3 (by decide) ?_
  refine lv_iand hx hb dX8_has_4 ?_
  refine lv_iconst (v := 1) hx hb dX8_has_5 (by decide) ?_
  refine lv_icmp_ne (tgt := 13) hx hb dX8_has_6 (by decide) (fun tc1 => ?_) (fun tc1 => ?_)
  · replace hk := tr_iff hk tc1
    refine lv_iconst (v := 0) hx hb dX8_has_13 (by decide) ?_
    exact tr_zret C hP hS hr hlocks rfl (congrArg (fun x => (x, h)) (tr_okS (P := (fun o => o = r0)) hk)) dX8_has_14
  · replace hk := tr_ift hk tc1
    refine lv_iconst (v := 1) hx hb dX8_has_9 (by decide) ?_
    refine lv_goto (tgt := 14) hx hb dX8_has_10 (by decide) ?_
    exact tr_zret C hP hS hr hlocks rfl (congrArg (fun x => (x, h)) (tr_okS (P := (fun o => o = r0)) hk)) dX8_has_14
abbrev r_X8_many : Room := { frames := 0, cells := 0, slots := 0, locals := 0 }
set_option maxHeartbeats 4000000 in
set_option maxRecDepth 100000 in
theorem c_X8_many (l : Launch) (w : tr_E) (tv900 : Int64) (h : tr_H) (r0 : Int32) (hk : f_X8_many tv900 = some r0) : Met l yX8_many (Cond.code yX8_many cX8_many 5 (some .int) :: tr_T) r_X8_many (va_Pc [.long tv900] (tr_Wo tr_M w h)) (tr_Qi tr_M w r0 h) 0 0 (tr_R tr_M w) := by
  refine tr_start (by decide) (Nat.le_refl _) ?_
  intro p e s m args below meth c C hr hlocks hargs hP
  have hx := C.1
  have hb := C.2.1
  have hS : va_S (tr_R tr_M w) s.heap s.heap [] := va_S.rf
  have hl := lv_entry ([.long tv900]) (n := 5) (Nat.le_of_ble_eq_true rfl)
  rw [lg_entry_eq]
  generalize (lg_sl ([.long tv900]) ++ List.replicate (5 - (lg_sl ([.long tv900])).length) Slot.unset).toArray = ls at hl ⊢
  have hl : lv_has ls 5 [(0, .long tv900)] := hl
  replace hk : tr_ok (f_X8_many tv900) (fun o => o = r0) := ⟨_, hk, rfl⟩
  unfold f_X8_many at hk
  refine lv_iconst (v := 0) hx hb dX8_many_0 (by decide) ?_
  refine lv_istore_n (lv' := [(2, .int 0), (0, .long tv900)]) hx hb dX8_many_1 rfl hl (by decide) rfl (fun ls hl => ?_)
  refine lv_lload_n hx hb dX8_many_2 rfl (lv_at hl 1 rfl) ?_
  refine lv_lstore_n (lv' := [(3, .long tv900), (2, .int 0), (0, .long tv900)]) hx hb dX8_many_3 rfl hl (by decide) rfl (fun ls hl => ?_)
  have j24_4 : ∀ (tv1 : Int32), tr_ok (f_X8_many_E24 tv1) (fun o => o = r0) → tr_Wd p l e r_X8_many s m args below meth c (MQ below (tr_Qi tr_M w r0 h) args s 0 0 (tr_R tr_M w)) tr_M w 5 24 [(2, .int tv1)] [] h := by
    intro tv1 hk H locs ls hP hS hl
    unfold f_X8_many_E24 at hk
    refine lv_iload_n hx hb dX8_many_24 rfl (lv_at hl 0 rfl) ?_
    exact tr_iret C hP hS hr hlocks (congrArg (fun x => (x, h)) (tr_okS (P := (fun o => o = r0)) hk)) dX8_many_25
  refine tr_loop (fun q => tr_Wd p l e r_X8_many s m args below meth c (MQ below (tr_Qi tr_M w r0 h) args s 0 0 (tr_R tr_M w)) tr_M w 5 4 [(2, .int q.1), (3, .long q.2)] [] h) hk ?_ _ _ _ hP hS (lv_sub hl [1, 0] rfl)
  intro P4 hin4 hex4 q hk
  obtain ⟨tv2, tv3⟩ := q
  intro H locs ls hP hS hl
  replace hk : tr_ok (f_X8_many_L4 tv2 tv3) P4 := hk
  unfold f_X8_many_L4 at hk
  refine lv_lload_n hx hb dX8_many_4 rfl (lv_at hl 1 rfl) ?_
  refine lv_lconst (v := 0) hx hb dX8_many_5 (by decide) ?_
  refine W.lcmp hx hb dX8_many_6 ?_
  refine lv_if_le (tgt := 24) hx hb dX8_many_7 (by decide) (fun tc4 => ?_) (fun tc4 => ?_)
  · replace hk := tr_ift hk tc4
    replace hk := hex4 _ (tr_okS hk)
    replace hk : tr_ok (f_X8_many_E24 tv2) (fun o => o = r0) := hk
    exact j24_4 tv2 hk _ _ _ hP hS (lv_sub hl [0] rfl)
  · replace hk := tr_iff hk tc4
    refine lv_iload_n hx hb dX8_many_10 rfl (lv_at hl 0 rfl) ?_
    refine lv_lload_n hx hb dX8_many_11 rfl (lv_at hl 1 rfl) ?_
    refine lv_lconst (v := 1) hx hb dX8_many_12 (by decide) ?_
    refine lv_land hx hb dX8_many_13 ?_
    refine lv_l2i hx hb dX8_many_14 rfl ?_
    refine lv_iadd hx hb dX8_many_15 ?_
    refine tr_ti hk (fun tv5 hk => ?_)
    refine lv_istore_n (lv' := [(2, .int tv5), (3, .long tv3)]) hx hb dX8_many_16 rfl hl (by decide) rfl (fun ls hl => ?_)
    refine lv_lload_n hx hb dX8_many_17 rfl (lv_at hl 1 rfl) ?_
    refine lv_iconst (v := 1) hx hb dX8_many_18 (by decide) ?_
    refine lv_lshr hx hb dX8_many_19 rfl ?_
    refine tr_tl hk (fun tv6 hk => ?_)
    refine lv_lstore_n (lv' := [(3, .long tv6), (2, .int tv5)]) hx hb dX8_many_20 rfl hl (by decide) rfl (fun ls hl => ?_)
    refine lv_goto (tgt := 4) hx hb dX8_many_21 (by decide) ?_
    exact hin4 _ (tr_okS hk) _ _ _ hP hS (lv_sub hl [1, 0] rfl)
abbrev r_X8_power : Room := { frames := 0, cells := 0, slots := 0, locals := 0 }
set_option maxHeartbeats 4000000 in
set_option maxRecDepth 100000 in
theorem c_X8_power (l : Launch) (w : tr_E) (tv900 : Int32) (tv901 : Int32) (h : tr_H) (r0 : Int32) (hk : f_X8_power tv900 tv901 = some r0) : Met l yX8_power (Cond.code yX8_power cX8_power 4 (some .int) :: tr_T) r_X8_power (va_Pc [.int tv900, .int tv901] (tr_Wo tr_M w h)) (tr_Qi tr_M w r0 h) 0 0 (tr_R tr_M w) := by
  refine tr_start (by decide) (Nat.le_refl _) ?_
  intro p e s m args below meth c C hr hlocks hargs hP
  have hx := C.1
  have hb := C.2.1
  have hS : va_S (tr_R tr_M w) s.heap s.heap [] := va_S.rf
  have hl := lv_entry ([.int tv900, .int tv901]) (n := 4) (Nat.le_of_ble_eq_true rfl)
  rw [lg_entry_eq]
  generalize (lg_sl ([.int tv900, .int tv901]) ++ List.replicate (4 - (lg_sl ([.int tv900, .int tv901])).length) Slot.unset).toArray = ls at hl ⊢
  have hl : lv_has ls 4 [(0, .int tv900), (1, .int tv901)] := hl
  replace hk : tr_ok (f_X8_power tv900 tv901) (fun o => o = r0) := ⟨_, hk, rfl⟩
  unfold f_X8_power at hk
  refine lv_iconst (v := 1) hx hb dX8_power_0 (by decide) ?_
  refine lv_istore_n (lv' := [(2, .int 1), (0, .int tv900), (1, .int tv901)]) hx hb dX8_power_1 rfl hl (by decide) rfl (fun ls hl => ?_)
  refine lv_iconst (v := 0) hx hb dX8_power_2 (by decide) ?_
  refine lv_istore_n (lv' := [(3, .int 0), (2, .int 1), (0, .int tv900), (1, .int tv901)]) hx hb dX8_power_3 rfl hl (by decide) rfl (fun ls hl => ?_)
  have j19_4 : ∀ (tv1 : Int32), tr_ok (f_X8_power_E19 tv1) (fun o => o = r0) → tr_Wd p l e r_X8_power s m args below meth c (MQ below (tr_Qi tr_M w r0 h) args s 0 0 (tr_R tr_M w)) tr_M w 4 19 [(2, .int tv1)] [] h := by
    intro tv1 hk H locs ls hP hS hl
    unfold f_X8_power_E19 at hk
    refine lv_iload_n hx hb dX8_power_19 rfl (lv_at hl 0 rfl) ?_
    exact tr_iret C hP hS hr hlocks (congrArg (fun x => (x, h)) (tr_okS (P := (fun o => o = r0)) hk)) dX8_power_20
  refine tr_loop (fun q => tr_Wd p l e r_X8_power s m args below meth c (MQ below (tr_Qi tr_M w r0 h) args s 0 0 (tr_R tr_M w)) tr_M w 4 4 [(0, .int tv900), (1, .int tv901), (2, .int q.1), (3, .int q.2)] [] h) hk ?_ _ _ _ hP hS (lv_sub hl [2, 3, 1, 0] rfl)
  intro P4 hin4 hex4 q hk
  obtain ⟨tv2, tv3⟩ := q
  intro H locs ls hP hS hl
  replace hk : tr_ok (f_X8_power_L4 tv901 tv900 tv2 tv3) P4 := hk
  unfold f_X8_power_L4 at hk
  refine lv_iload_n hx hb dX8_power_4 rfl (lv_at hl 3 rfl) ?_
  refine lv_iload_n hx hb dX8_power_5 rfl (lv_at hl 1 rfl) ?_
  refine lv_icmp_ge (tgt := 19) hx hb dX8_power_6 (by decide) (fun tc4 => ?_) (fun tc4 => ?_)
  · replace hk := tr_ift hk tc4
    replace hk := hex4 _ (tr_okS hk)
    replace hk : tr_ok (f_X8_power_E19 tv2) (fun o => o = r0) := hk
    exact j19_4 tv2 hk _ _ _ hP hS (lv_sub hl [2] rfl)
  · replace hk := tr_iff hk tc4
    refine lv_iload_n hx hb dX8_power_9 rfl (lv_at hl 2 rfl) ?_
    refine lv_iload_n hx hb dX8_power_10 rfl (lv_at hl 0 rfl) ?_
    refine lv_imul hx hb dX8_power_11 ?_
    refine tr_ti hk (fun tv5 hk => ?_)
    refine lv_istore_n (lv' := [(2, .int tv5), (0, .int tv900), (1, .int tv901), (3, .int tv3)]) hx hb dX8_power_12 rfl hl (by decide) rfl (fun ls hl => ?_)
    obtain ⟨tv6, etv6, hk⟩ := tr_okd hk
    refine lv_iinc (v := tv6) (lv' := [(3, .int tv6), (2, .int tv5), (0, .int tv900), (1, .int tv901)]) hx hb dX8_power_13 hl (k := 3) rfl (by rw [etv6]; rfl) (by decide) rfl (fun ls hl => ?_)
    refine lv_goto (tgt := 4) hx hb dX8_power_16 (by decide) ?_
    exact hin4 _ (tr_okS hk) _ _ _ hP hS (lv_sub hl [2, 3, 1, 0] rfl)
abbrev r_X8_noDeparture : Room := { frames := 1, cells := 0, slots := 0, locals := 25 }
set_option maxHeartbeats 4000000 in
set_option maxRecDepth 100000 in
theorem c_X8_noDeparture (l : Launch) (w : tr_E) (tv900 : Int32) (h : tr_H) (r0 : Int32) (hk : f_X8_noDeparture tv900 h = some r0) : Met l yX8_noDeparture (Cond.code yX8_noDeparture cX8_noDeparture 2 (some .boolean) :: tr_T) r_X8_noDeparture (va_Pc [.ref (tr_ad w 0), .int tv900] (tr_Wo tr_M w h)) (tr_Qi tr_M w r0 h) 0 0 (tr_R tr_M w) := by
  refine tr_start (by decide) (Nat.le_refl _) ?_
  intro p e s m args below meth c C hr hlocks hargs hP
  have hx := C.1
  have hb := C.2.1
  have hS : va_S (tr_R tr_M w) s.heap s.heap [] := va_S.rf
  have hl := lv_entry ([.ref (tr_ad w 0), .int tv900]) (n := 2) (Nat.le_of_ble_eq_true rfl)
  rw [lg_entry_eq]
  generalize (lg_sl ([.ref (tr_ad w 0), .int tv900]) ++ List.replicate (2 - (lg_sl ([.ref (tr_ad w 0), .int tv900])).length) Slot.unset).toArray = ls at hl ⊢
  have hl : lv_has ls 2 [(0, .ref (tr_ad w 0)), (1, .int tv900)] := hl
  replace hk : tr_ok (f_X8_noDeparture tv900 h) (fun o => o = r0) := ⟨_, hk, rfl⟩
  unfold f_X8_noDeparture at hk
  refine lv_iload_n hx hb dX8_noDeparture_0 rfl (lv_at hl 1 rfl) ?_
  refine lv_i2l hx hb dX8_noDeparture_1 rfl ?_
  refine lv_lconst (v := 0) hx hb dX8_noDeparture_2 (by decide) ?_
  refine lv_aload_n hx hb dX8_noDeparture_3 rfl (lv_at hl 0 rfl) ?_
  refine gf_X8_16 C hP dX8_noDeparture_4 ?_
  refine lv_iconst (v := 0) hx hb dX8_noDeparture_7 (by decide) ?_
  refine tr_ial C hP (ar_M_3 w) (show ¬ ((0 : Int32) < 0 ∨ 37 ≤ (0 : Int32).toNatClampNeg) by decide) dX8_noDeparture_8 ?_
  refine lv_iconst (v := 1) hx hb dX8_noDeparture_9 (by decide) ?_
  refine lv_isub hx hb dX8_noDeparture_10 ?_
  refine lv_i2l hx hb dX8_noDeparture_11 rfl ?_
  obtain ⟨tv2, tq1, hk⟩ := tr_okb hk
  refine tr_csi (As := [.long ((tv900 : Int32).toInt64), .long 0, .long (((h.1 3 ((0 : Int32).toNatClampNeg)) - 1 : Int32).toInt64)]) (rest := []) C hP hS hl (c_X8_in l w ((tv900 : Int32).toInt64) 0 (((h.1 3 ((0 : Int32).toNatClampNeg)) - 1 : Int32).toInt64) h tv2 tq1) mz_X8_in ml_X8_63 rfl rfl ⟨Nat.le_of_ble_eq_true rfl, Nat.le_of_ble_eq_true rfl⟩ rfl rfl (Nat.le_of_ble_eq_true rfl) ⟨Nat.le_refl _, Nat.le_refl _⟩ dX8_noDeparture_12 (fun H locs hP hS => ?_)
  refine lv_if_ne (tgt := 22) hx hb dX8_noDeparture_15 (by decide) (fun tc3 => ?_) (fun tc3 => ?_)
  · replace hk := tr_iff hk tc3
    refine lv_iconst (v := 0) hx hb dX8_noDeparture_22 (by decide) ?_
    exact tr_zret C hP hS hr hlocks rfl (congrArg (fun x => (x, h)) (tr_okS (P := (fun o => o = r0)) hk)) dX8_noDeparture_23
  · replace hk := tr_ift hk tc3
    refine lv_iconst (v := 1) hx hb dX8_noDeparture_18 (by decide) ?_
    refine lv_goto (tgt := 23) hx hb dX8_noDeparture_19 (by decide) ?_
    exact tr_zret C hP hS hr hlocks rfl (congrArg (fun x => (x, h)) (tr_okS (P := (fun o => o = r0)) hk)) dX8_noDeparture_23
abbrev r_X8_minutesOf : Room := { frames := 0, cells := 0, slots := 0, locals := 0 }
set_option maxHeartbeats 4000000 in
set_option maxRecDepth 100000 in
theorem c_X8_minutesOf (l : Launch) (w : tr_E) (tn1 : Nat) (htn1 : tr_pg tn1) (tv901 : Int32) (tv902 : Int32) (h : tr_H) (r0 : Int32) (hk : f_X8_minutesOf tn1 tv901 tv902 h = some r0) : Met l yX8_minutesOf (Cond.code yX8_minutesOf cX8_minutesOf 3 (some .int) :: tr_T) r_X8_minutesOf (va_Pc [.ref (tr_ad w tn1), .int tv901, .int tv902] (tr_Wo tr_M w h)) (tr_Qi tr_M w r0 h) 0 0 (tr_R tr_M w) := by
  refine tr_start (by decide) (Nat.le_refl _) ?_
  intro p e s m args below meth c C hr hlocks hargs hP
  have hx := C.1
  have hb := C.2.1
  have hS : va_S (tr_R tr_M w) s.heap s.heap [] := va_S.rf
  have hl := lv_entry ([.ref (tr_ad w tn1), .int tv901, .int tv902]) (n := 3) (Nat.le_of_ble_eq_true rfl)
  rw [lg_entry_eq]
  generalize (lg_sl ([.ref (tr_ad w tn1), .int tv901, .int tv902]) ++ List.replicate (3 - (lg_sl ([.ref (tr_ad w tn1), .int tv901, .int tv902])).length) Slot.unset).toArray = ls at hl ⊢
  have hl : lv_has ls 3 [(0, .ref (tr_ad w tn1)), (1, .int tv901), (2, .int tv902)] := hl
  replace hk : tr_ok (f_X8_minutesOf tn1 tv901 tv902 h) (fun o => o = r0) := ⟨_, hk, rfl⟩
  unfold f_X8_minutesOf at hk
  refine lv_aload_n hx hb dX8_minutesOf_0 rfl (lv_at hl 0 rfl) ?_
  refine lv_iconst (v := 1) hx hb dX8_minutesOf_1 (by decide) ?_
  refine lv_bipush (v := 6) hx hb dX8_minutesOf_2 (by decide) ?_
  refine lv_iload_n hx hb dX8_minutesOf_4 rfl (lv_at hl 1 rfl) ?_
  refine lv_imul hx hb dX8_minutesOf_5 ?_
  refine lv_iadd hx hb dX8_minutesOf_6 ?_
  refine lv_iload_n hx hb dX8_minutesOf_7 rfl (lv_at hl 2 rfl) ?_
  refine lv_iadd hx hb dX8_minutesOf_8 ?_
  refine tr_ti hk (fun tv1 hk => ?_)
  obtain ⟨tg2, hk⟩ := tr_okg hk
  refine tr_ial C hP (tr_pg_ar htn1 w) tg2 dX8_minutesOf_9 ?_
  refine lv_iconst (v := 1) hx hb dX8_minutesOf_10 (by decide) ?_
  refine lv_isub hx hb dX8_minutesOf_11 ?_
  exact tr_iret C hP hS hr hlocks (congrArg (fun x => (x, h)) (tr_okS (P := (fun o => o = r0)) hk)) dX8_minutesOf_12
abbrev r_X8_isThere : Room := { frames := 1, cells := 0, slots := 0, locals := 22 }
set_option maxHeartbeats 4000000 in
set_option maxRecDepth 100000 in
theorem c_X8_isThere (l : Launch) (w : tr_E) (tn1 : Nat) (htn1 : tr_pg tn1) (tv901 : Int32) (tv902 : Int32) (h : tr_H) (r0 : Int32) (hk : f_X8_isThere tn1 tv901 tv902 h = some r0) : Met l yX8_isThere (Cond.code yX8_isThere cX8_isThere 3 (some .boolean) :: tr_T) r_X8_isThere (va_Pc [.ref (tr_ad w tn1), .int tv901, .int tv902] (tr_Wo tr_M w h)) (tr_Qi tr_M w r0 h) 0 0 (tr_R tr_M w) := by
  refine tr_start (by decide) (Nat.le_refl _) ?_
  intro p e s m args below meth c C hr hlocks hargs hP
  have hx := C.1
  have hb := C.2.1
  have hS : va_S (tr_R tr_M w) s.heap s.heap [] := va_S.rf
  have hl := lv_entry ([.ref (tr_ad w tn1), .int tv901, .int tv902]) (n := 3) (Nat.le_of_ble_eq_true rfl)
  rw [lg_entry_eq]
  generalize (lg_sl ([.ref (tr_ad w tn1), .int tv901, .int tv902]) ++ List.replicate (3 - (lg_sl ([.ref (tr_ad w tn1), .int tv901, .int tv902])).length) Slot.unset).toArray = ls at hl ⊢
  have hl : lv_has ls 3 [(0, .ref (tr_ad w tn1)), (1, .int tv901), (2, .int tv902)] := hl
  replace hk : tr_ok (f_X8_isThere tn1 tv901 tv902 h) (fun o => o = r0) := ⟨_, hk, rfl⟩
  unfold f_X8_isThere at hk
  refine lv_aload_n hx hb dX8_isThere_0 rfl (lv_at hl 0 rfl) ?_
  refine lv_iload_n hx hb dX8_isThere_1 rfl (lv_at hl 1 rfl) ?_
  refine lv_iload_n hx hb dX8_isThere_2 rfl (lv_at hl 2 rfl) ?_
  obtain ⟨tv2, tq1, hk⟩ := tr_okb hk
  refine tr_csi (As := [.ref (tr_ad w tn1), .int tv901, .int tv902]) (rest := []) C hP hS hl (c_X8_minutesOf l w tn1 htn1 tv901 tv902 h tv2 tq1) mz_X8_minutesOf ml_X8_67 rfl rfl ⟨Nat.le_of_ble_eq_true rfl, Nat.le_of_ble_eq_true rfl⟩ rfl rfl (Nat.le_of_ble_eq_true rfl) ⟨Nat.le_refl _, Nat.le_refl _⟩ dX8_isThere_3 (fun H locs hP hS => ?_)
  refine lv_if_lt (tgt := 13) hx hb dX8_isThere_6 (by decide) (fun tc3 => ?_) (fun tc3 => ?_)
  · replace hk := tr_ift hk tc3
    refine lv_iconst (v := 0) hx hb dX8_isThere_13 (by decide) ?_
    exact tr_zret C hP hS hr hlocks rfl (congrArg (fun x => (x, h)) (tr_okS (P := (fun o => o = r0)) hk)) dX8_isThere_14
  · replace hk := tr_iff hk tc3
    refine lv_iconst (v := 1) hx hb dX8_isThere_9 (by decide) ?_
    refine lv_goto (tgt := 14) hx hb dX8_isThere_10 (by decide) ?_
    exact tr_zret C hP hS hr hlocks rfl (congrArg (fun x => (x, h)) (tr_okS (P := (fun o => o = r0)) hk)) dX8_isThere_14
abbrev r_X8_write : Room := { frames := 1, cells := 0, slots := 0, locals := 25 }
set_option maxHeartbeats 4000000 in
set_option maxRecDepth 100000 in
theorem c_X8_write (l : Launch) (w : tr_E) (tv900 : Int32) (h : tr_H) (r0 : Int32) (h0 : tr_H) (hk : f_X8_write tv900 h = some (r0, h0)) : Met l yX8_write (Cond.code yX8_write cX8_write 2 (some .int) :: tr_T) r_X8_write (va_Pc [.ref (tr_ad w 0), .int tv900] (tr_Wo tr_M w h)) (tr_Qi tr_M w r0 h0) 0 0 (tr_R tr_M w) := by
  refine tr_start (by decide) (Nat.le_refl _) ?_
  intro p e s m args below meth c C hr hlocks hargs hP
  have hx := C.1
  have hb := C.2.1
  have hS : va_S (tr_R tr_M w) s.heap s.heap [] := va_S.rf
  have hl := lv_entry ([.ref (tr_ad w 0), .int tv900]) (n := 2) (Nat.le_of_ble_eq_true rfl)
  rw [lg_entry_eq]
  generalize (lg_sl ([.ref (tr_ad w 0), .int tv900]) ++ List.replicate (2 - (lg_sl ([.ref (tr_ad w 0), .int tv900])).length) Slot.unset).toArray = ls at hl ⊢
  have hl : lv_has ls 2 [(0, .ref (tr_ad w 0)), (1, .int tv900)] := hl
  replace hk : tr_ok (f_X8_write tv900 h) (fun o => o = (r0, h0)) := ⟨_, hk, rfl⟩
  unfold f_X8_write at hk
  refine lv_aload_n hx hb dX8_write_0 rfl (lv_at hl 0 rfl) ?_
  refine lv_iconst (v := 0) hx hb dX8_write_1 (by decide) ?_
  refine pf_X8_59 C hP hS dX8_write_2 (fun H locs hP hS => ?_)
  refine tr_th hk hP (fun th1 hk hP => ?_)
  refine lv_iload_n hx hb dX8_write_5 rfl (lv_at hl 1 rfl) ?_
  refine lv_i2l hx hb dX8_write_6 rfl ?_
  refine lv_lconst (v := 0) hx hb dX8_write_7 (by decide) ?_
  refine lv_ldc2 (v := 255) hx hb C.2.2.2.1 (C.2.2.2.2.1 _ mc_X8_71) dX8_write_8 ?_
  obtain ⟨tv3, tq2, hk⟩ := tr_okb hk
  refine tr_csi (As := [.long ((tv900 : Int32).toInt64), .long 0, .long 255]) (rest := []) C hP hS hl (c_X8_in l w ((tv900 : Int32).toInt64) 0 255 th1 tv3 tq2) mz_X8_in ml_X8_63 rfl rfl ⟨Nat.le_of_ble_eq_true rfl, Nat.le_of_ble_eq_true rfl⟩ rfl rfl (Nat.le_of_ble_eq_true rfl) ⟨Nat.le_refl _, Nat.le_refl _⟩ dX8_write_11 (fun H locs hP hS => ?_)
  refine lv_if_ne (tgt := 20) hx hb dX8_write_14 (by decide) (fun tc4 => ?_) (fun tc4 => ?_)
  · replace hk := tr_iff hk tc4
    refine lv_aload_n hx hb dX8_write_20 rfl (lv_at hl 0 rfl) ?_
    refine gf_X8_73 C hP dX8_write_21 ?_
    refine lv_bipush (v := 64) hx hb dX8_write_24 (by decide) ?_
    refine lv_icmp_ne (tgt := 32) hx hb dX8_write_26 (by decide) (fun tc5 => ?_) (fun tc5 => ?_)
    · replace hk := tr_iff hk tc5
      refine lv_aload_n hx hb dX8_write_32 rfl (lv_at hl 0 rfl) ?_
      refine gf_X8_7 C hP dX8_write_33 ?_
      refine lv_aload_n hx hb dX8_write_36 rfl (lv_at hl 0 rfl) ?_
      refine gf_X8_73 C hP dX8_write_37 ?_
      refine lv_iload_n hx hb dX8_write_40 rfl (lv_at hl 1 rfl) ?_
      obtain ⟨tv6, etv6, hk⟩ := tr_okd hk
      rw [← etv6]
      obtain ⟨tg7, hk⟩ := tr_okg hk
      refine tr_ias C hP hS (ar_M_1 w) tg7 dX8_write_41 (fun H locs hP hS => ?_)
      refine tr_th hk hP (fun th8 hk hP => ?_)
      refine lv_aload_n hx hb dX8_write_42 rfl (lv_at hl 0 rfl) ?_
      refine lv_dup hx hb dX8_write_43 rfl ?_
      refine gf_X8_73 C hP dX8_write_44 ?_
      refine lv_iconst (v := 1) hx hb dX8_write_47 (by decide) ?_
      refine lv_iadd hx hb dX8_write_48 ?_
      refine pf_X8_73 C hP hS dX8_write_49 (fun H locs hP hS => ?_)
      refine tr_th hk hP (fun th9 hk hP => ?_)
      refine lv_aload_n hx hb dX8_write_52 rfl (lv_at hl 0 rfl) ?_
      refine gf_X8_73 C hP dX8_write_53 ?_
      exact tr_iret C hP hS hr hlocks (tr_okS (P := (fun o => o = (r0, h0))) hk) dX8_write_56
    · replace hk := tr_ift hk tc5
      refine lv_bipush (v := (-4)) hx hb dX8_write_29 (by decide) ?_
      exact tr_iret C hP hS hr hlocks (tr_okS (P := (fun o => o = (r0, h0))) hk) dX8_write_31
  · replace hk := tr_ift hk tc4
    refine lv_bipush (v := (-2)) hx hb dX8_write_17 (by decide) ?_
    exact tr_iret C hP hS hr hlocks (tr_okS (P := (fun o => o = (r0, h0))) hk) dX8_write_19
abbrev r_X8_wipe : Room := { frames := 0, cells := 0, slots := 0, locals := 0 }
set_option maxHeartbeats 4000000 in
set_option maxRecDepth 100000 in
theorem c_X8_wipe (l : Launch) (w : tr_E)  (h : tr_H) (r0 : Int32) (h0 : tr_H) (hk : f_X8_wipe h = some (r0, h0)) : Met l yX8_wipe (Cond.code yX8_wipe cX8_wipe 2 (some .int) :: tr_T) r_X8_wipe (va_Pc [.ref (tr_ad w 0)] (tr_Wo tr_M w h)) (tr_Qi tr_M w r0 h0) 0 0 (tr_R tr_M w) := by
  refine tr_start (by decide) (Nat.le_refl _) ?_
  intro p e s m args below meth c C hr hlocks hargs hP
  have hx := C.1
  have hb := C.2.1
  have hS : va_S (tr_R tr_M w) s.heap s.heap [] := va_S.rf
  have hl := lv_entry ([.ref (tr_ad w 0)]) (n := 2) (Nat.le_of_ble_eq_true rfl)
  rw [lg_entry_eq]
  generalize (lg_sl ([.ref (tr_ad w 0)]) ++ List.replicate (2 - (lg_sl ([.ref (tr_ad w 0)])).length) Slot.unset).toArray = ls at hl ⊢
  have hl : lv_has ls 2 [(0, .ref (tr_ad w 0))] := hl
  replace hk : tr_ok (f_X8_wipe h) (fun o => o = (r0, h0)) := ⟨_, hk, rfl⟩
  unfold f_X8_wipe at hk
  refine lv_aload_n hx hb dX8_wipe_0 rfl (lv_at hl 0 rfl) ?_
  refine lv_iconst (v := 0) hx hb dX8_wipe_1 (by decide) ?_
  refine pf_X8_59 C hP hS dX8_wipe_2 (fun H locs hP hS => ?_)
  refine tr_th hk hP (fun th1 hk hP => ?_)
  refine lv_aload_n hx hb dX8_wipe_5 rfl (lv_at hl 0 rfl) ?_
  refine gf_X8_73 C hP dX8_wipe_6 ?_
  refine tr_ti hk (fun tv2 hk => ?_)
  refine lv_istore_n (lv' := [(1, .int tv2), (0, .ref (tr_ad w 0))]) hx hb dX8_wipe_9 rfl hl (by decide) rfl (fun ls hl => ?_)
  refine lv_aload_n hx hb dX8_wipe_10 rfl (lv_at hl 1 rfl) ?_
  refine lv_iconst (v := 0) hx hb dX8_wipe_11 (by decide) ?_
  refine pf_X8_73 C hP hS dX8_wipe_12 (fun H locs hP hS => ?_)
  refine tr_th hk hP (fun th3 hk hP => ?_)
  refine lv_iload_n hx hb dX8_wipe_15 rfl (lv_at hl 0 rfl) ?_
  exact tr_iret C hP hS hr hlocks (tr_okS (P := (fun o => o = (r0, h0))) hk) dX8_wipe_16
abbrev r_X8_figure : Room := { frames := 1, cells := 0, slots := 0, locals := 25 }
set_option maxHeartbeats 4000000 in
set_option maxRecDepth 100000 in
theorem c_X8_figure (l : Launch) (w : tr_E) (tv900 : Int32) (h : tr_H) (r0 : Int32) (h0 : tr_H) (hk : f_X8_figure tv900 h = some (r0, h0)) : Met l yX8_figure (Cond.code yX8_figure cX8_figure 2 (some .int) :: tr_T) r_X8_figure (va_Pc [.ref (tr_ad w 0), .int tv900] (tr_Wo tr_M w h)) (tr_Qi tr_M w r0 h0) 0 0 (tr_R tr_M w) := by
  refine tr_start (by decide) (Nat.le_refl _) ?_
  intro p e s m args below meth c C hr hlocks hargs hP
  have hx := C.1
  have hb := C.2.1
  have hS : va_S (tr_R tr_M w) s.heap s.heap [] := va_S.rf
  have hl := lv_entry ([.ref (tr_ad w 0), .int tv900]) (n := 2) (Nat.le_of_ble_eq_true rfl)
  rw [lg_entry_eq]
  generalize (lg_sl ([.ref (tr_ad w 0), .int tv900]) ++ List.replicate (2 - (lg_sl ([.ref (tr_ad w 0), .int tv900])).length) Slot.unset).toArray = ls at hl ⊢
  have hl : lv_has ls 2 [(0, .ref (tr_ad w 0)), (1, .int tv900)] := hl
  replace hk : tr_ok (f_X8_figure tv900 h) (fun o => o = (r0, h0)) := ⟨_, hk, rfl⟩
  unfold f_X8_figure at hk
  refine lv_aload_n hx hb dX8_figure_0 rfl (lv_at hl 0 rfl) ?_
  refine gf_X8_76 C hP dX8_figure_1 ?_
  refine lv_aload_n hx hb dX8_figure_4 rfl (lv_at hl 0 rfl) ?_
  refine gf_X8_73 C hP dX8_figure_5 ?_
  refine lv_icmp_eq (tgt := 33) hx hb dX8_figure_8 (by decide) (fun tc1 => ?_) (fun tc1 => ?_)
  · replace hk := tr_ift hk tc1
    refine lv_bipush (v := (-9)) hx hb dX8_figure_33 (by decide) ?_
    exact tr_iret C hP hS hr hlocks (tr_okS (P := (fun o => o = (r0, h0))) hk) dX8_figure_35
  · replace hk := tr_iff hk tc1
    refine lv_aload_n hx hb dX8_figure_11 rfl (lv_at hl 0 rfl) ?_
    refine gf_X8_7 C hP dX8_figure_12 ?_
    refine lv_aload_n hx hb dX8_figure_15 rfl (lv_at hl 0 rfl) ?_
    refine gf_X8_76 C hP dX8_figure_16 ?_
    refine tr_ti hk (fun tv2 hk => ?_)
    obtain ⟨tg3, hk⟩ := tr_okg hk
    refine tr_ial C hP (ar_M_1 w) tg3 dX8_figure_19 ?_
    refine lv_bipush (v := 48) hx hb dX8_figure_20 (by decide) ?_
    refine lv_isub hx hb dX8_figure_22 ?_
    refine lv_i2l hx hb dX8_figure_23 rfl ?_
    refine lv_lconst (v := 0) hx hb dX8_figure_24 (by decide) ?_
    refine lv_iload_n hx hb dX8_figure_25 rfl (lv_at hl 1 rfl) ?_
    refine lv_i2l hx hb dX8_figure_26 rfl ?_
    obtain ⟨tv5, tq4, hk⟩ := tr_okb hk
    refine tr_csi (As := [.long (((h.1 1 tv2.toNatClampNeg) - 48 : Int32).toInt64), .long 0, .long ((tv900 : Int32).toInt64)]) (rest := []) C hP hS hl (c_X8_in l w (((h.1 1 tv2.toNatClampNeg) - 48 : Int32).toInt64) 0 ((tv900 : Int32).toInt64) h tv5 tq4) mz_X8_in ml_X8_63 rfl rfl ⟨Nat.le_of_ble_eq_true rfl, Nat.le_of_ble_eq_true rfl⟩ rfl rfl (Nat.le_of_ble_eq_true rfl) ⟨Nat.le_refl _, Nat.le_refl _⟩ dX8_figure_27 (fun H locs hP hS => ?_)
    refine lv_if_ne (tgt := 36) hx hb dX8_figure_30 (by decide) (fun tc6 => ?_) (fun tc6 => ?_)
    · replace hk := tr_iff hk tc6
      refine lv_aload_n hx hb dX8_figure_36 rfl (lv_at hl 0 rfl) ?_
      refine lv_dup hx hb dX8_figure_37 rfl ?_
      refine gf_X8_76 C hP dX8_figure_38 ?_
      refine lv_iconst (v := 1) hx hb dX8_figure_41 (by decide) ?_
      refine lv_iadd hx hb dX8_figure_42 ?_
      refine pf_X8_76 C hP hS dX8_figure_43 (fun H locs hP hS => ?_)
      refine tr_th hk hP (fun th7 hk hP => ?_)
      refine lv_aload_n hx hb dX8_figure_46 rfl (lv_at hl 0 rfl) ?_
      refine gf_X8_7 C hP dX8_figure_47 ?_
      refine lv_aload_n hx hb dX8_figure_50 rfl (lv_at hl 0 rfl) ?_
      refine gf_X8_76 C hP dX8_figure_51 ?_
      refine lv_iconst (v := 1) hx hb dX8_figure_54 (by decide) ?_
      refine lv_isub hx hb dX8_figure_55 ?_
      refine tr_ti hk (fun tv8 hk => ?_)
      obtain ⟨tg9, hk⟩ := tr_okg hk
      refine tr_ial C hP (ar_M_1 w) tg9 dX8_figure_56 ?_
      refine lv_bipush (v := 48) hx hb dX8_figure_57 (by decide) ?_
      refine lv_isub hx hb dX8_figure_59 ?_
      exact tr_iret C hP hS hr hlocks (tr_okS (P := (fun o => o = (r0, h0))) hk) dX8_figure_60
    · replace hk := tr_ift hk tc6
      refine lv_bipush (v := (-9)) hx hb dX8_figure_33 (by decide) ?_
      exact tr_iret C hP hS hr hlocks (tr_okS (P := (fun o => o = (r0, h0))) hk) dX8_figure_35
abbrev r_X8_waitsFrom : Room := { frames := 2, cells := 0, slots := 0, locals := 44 }
set_option maxHeartbeats 4000000 in
set_option maxRecDepth 100000 in
theorem c_X8_waitsFrom (l : Launch) (w : tr_E) (tn1 : Nat) (htn1 : tr_pg tn1) (tv901 : Int32) (h : tr_H) (r0 : Int32) (hk : f_X8_waitsFrom tn1 tv901 h = some r0) : Met l yX8_waitsFrom (Cond.code yX8_waitsFrom cX8_waitsFrom 4 (some .int) :: tr_T) r_X8_waitsFrom (va_Pc [.ref (tr_ad w tn1), .int tv901] (tr_Wo tr_M w h)) (tr_Qi tr_M w r0 h) 0 0 (tr_R tr_M w) := by
  refine tr_start (by decide) (Nat.le_refl _) ?_
  intro p e s m args below meth c C hr hlocks hargs hP
  have hx := C.1
  have hb := C.2.1
  have hS : va_S (tr_R tr_M w) s.heap s.heap [] := va_S.rf
  have hl := lv_entry ([.ref (tr_ad w tn1), .int tv901]) (n := 4) (Nat.le_of_ble_eq_true rfl)
  rw [lg_entry_eq]
  generalize (lg_sl ([.ref (tr_ad w tn1), .int tv901]) ++ List.replicate (4 - (lg_sl ([.ref (tr_ad w tn1), .int tv901])).length) Slot.unset).toArray = ls at hl ⊢
  have hl : lv_has ls 4 [(0, .ref (tr_ad w tn1)), (1, .int tv901)] := hl
  replace hk : tr_ok (f_X8_waitsFrom tn1 tv901 h) (fun o => o = r0) := ⟨_, hk, rfl⟩
  unfold f_X8_waitsFrom at hk
  refine lv_iconst (v := 0) hx hb dX8_waitsFrom_0 (by decide) ?_
  refine lv_istore_n (lv' := [(2, .int 0), (0, .ref (tr_ad w tn1)), (1, .int tv901)]) hx hb dX8_waitsFrom_1 rfl hl (by decide) rfl (fun ls hl => ?_)
  refine lv_iconst (v := 0) hx hb dX8_waitsFrom_2 (by decide) ?_
  refine lv_istore_n (lv' := [(3, .int 0), (2, .int 0), (0, .ref (tr_ad w tn1)), (1, .int tv901)]) hx hb dX8_waitsFrom_3 rfl hl (by decide) rfl (fun ls hl => ?_)
  have j34_4 : ∀ (tv1 : Int32), tr_ok (f_X8_waitsFrom_E34 tv1) (fun o => o = r0) → tr_Wd p l e r_X8_waitsFrom s m args below meth c (MQ below (tr_Qi tr_M w r0 h) args s 0 0 (tr_R tr_M w)) tr_M w 4 34 [(2, .int tv1)] [] h := by
    intro tv1 hk H locs ls hP hS hl
    unfold f_X8_waitsFrom_E34 at hk
    refine lv_iload_n hx hb dX8_waitsFrom_34 rfl (lv_at hl 0 rfl) ?_
    exact tr_iret C hP hS hr hlocks (congrArg (fun x => (x, h)) (tr_okS (P := (fun o => o = r0)) hk)) dX8_waitsFrom_35
  refine tr_loop (fun q => tr_Wd p l e r_X8_waitsFrom s m args below meth c (MQ below (tr_Qi tr_M w r0 h) args s 0 0 (tr_R tr_M w)) tr_M w 4 4 [(0, .ref (tr_ad w tn1)), (1, .int tv901), (2, .int q.1), (3, .int q.2)] [] h) hk ?_ _ _ _ hP hS (lv_sub hl [2, 3, 1, 0] rfl)
  intro P4 hin4 hex4 q hk
  obtain ⟨tv2, tv3⟩ := q
  intro H locs ls hP hS hl
  replace hk : tr_ok (f_X8_waitsFrom_L4 h tn1 tv901 tv2 tv3) P4 := hk
  unfold f_X8_waitsFrom_L4 at hk
  refine lv_iload_n hx hb dX8_waitsFrom_4 rfl (lv_at hl 3 rfl) ?_
  refine lv_aload_n hx hb dX8_waitsFrom_5 rfl (lv_at hl 0 rfl) ?_
  refine lv_iconst (v := 0) hx hb dX8_waitsFrom_6 (by decide) ?_
  refine tr_ial C hP (tr_pg_ar htn1 w) (show ¬ ((0 : Int32) < 0 ∨ 37 ≤ (0 : Int32).toNatClampNeg) by decide) dX8_waitsFrom_7 ?_
  refine lv_icmp_ge (tgt := 34) hx hb dX8_waitsFrom_8 (by decide) (fun tc4 => ?_) (fun tc4 => ?_)
  · replace hk := tr_ift hk tc4
    replace hk := hex4 _ (tr_okS hk)
    replace hk : tr_ok (f_X8_waitsFrom_E34 tv2) (fun o => o = r0) := hk
    exact j34_4 tv2 hk _ _ _ hP hS (lv_sub hl [2] rfl)
  · replace hk := tr_iff hk tc4
    refine lv_iload_n hx hb dX8_waitsFrom_11 rfl (lv_at hl 2 rfl) ?_
    refine lv_aload_n hx hb dX8_waitsFrom_12 rfl (lv_at hl 0 rfl) ?_
    refine lv_iload_n hx hb dX8_waitsFrom_13 rfl (lv_at hl 1 rfl) ?_
    refine lv_iload_n hx hb dX8_waitsFrom_14 rfl (lv_at hl 3 rfl) ?_
    obtain ⟨tv6, tq5, hk⟩ := tr_okb hk
    refine tr_csi (As := [.ref (tr_ad w tn1), .int tv901, .int tv3]) (rest := [.int tv2]) C hP hS hl (c_X8_isThere l w tn1 htn1 tv901 tv3 h tv6 tq5) mz_X8_isThere ml_X8_79 rfl rfl ⟨Nat.le_of_ble_eq_true rfl, Nat.le_of_ble_eq_true rfl⟩ rfl rfl (Nat.le_of_ble_eq_true rfl) ⟨Nat.le_refl _, Nat.le_refl _⟩ dX8_waitsFrom_15 (fun H locs hP hS => ?_)
    refine lv_if_eq (tgt := 25) hx hb dX8_waitsFrom_18 (by decide) (fun tc7 => ?_) (fun tc7 => ?_)
    · replace hk := tr_ift hk tc7
      refine lv_iconst (v := 0) hx hb dX8_waitsFrom_25 (by decide) ?_
      refine lv_iadd hx hb dX8_waitsFrom_26 ?_
      refine tr_ti hk (fun tv8 hk => ?_)
      refine lv_istore_n (lv' := [(2, .int tv8), (0, .ref (tr_ad w tn1)), (1, .int tv901), (3, .int tv3)]) hx hb dX8_waitsFrom_27 rfl hl (by decide) rfl (fun ls hl => ?_)
      obtain ⟨tv9, etv9, hk⟩ := tr_okd hk
      refine lv_iinc (v := tv9) (lv' := [(3, .int tv9), (2, .int tv8), (0, .ref (tr_ad w tn1)), (1, .int tv901)]) hx hb dX8_waitsFrom_28 hl (k := 3) rfl (by rw [etv9]; rfl) (by decide) rfl (fun ls hl => ?_)
      refine lv_goto (tgt := 4) hx hb dX8_waitsFrom_31 (by decide) ?_
      exact hin4 _ (tr_okS hk) _ _ _ hP hS (lv_sub hl [2, 3, 1, 0] rfl)
    · replace hk := tr_iff hk tc7
      refine lv_iconst (v := 1) hx hb dX8_waitsFrom_21 (by decide) ?_
      refine lv_goto (tgt := 26) hx hb dX8_waitsFrom_22 (by decide) ?_
      refine lv_iadd hx hb dX8_waitsFrom_26 ?_
      refine tr_ti hk (fun tv10 hk => ?_)
      refine lv_istore_n (lv' := [(2, .int tv10), (0, .ref (tr_ad w tn1)), (1, .int tv901), (3, .int tv3)]) hx hb dX8_waitsFrom_27 rfl hl (by decide) rfl (fun ls hl => ?_)
      obtain ⟨tv11, etv11, hk⟩ := tr_okd hk
      refine lv_iinc (v := tv11) (lv' := [(3, .int tv11), (2, .int tv10), (0, .ref (tr_ad w tn1)), (1, .int tv901)]) hx hb dX8_waitsFrom_28 hl (k := 3) rfl (by rw [etv11]; rfl) (by decide) rfl (fun ls hl => ?_)
      refine lv_goto (tgt := 4) hx hb dX8_waitsFrom_31 (by decide) ?_
      exact hin4 _ (tr_okS hk) _ _ _ hP hS (lv_sub hl [2, 3, 1, 0] rfl)
abbrev r_X8_readWait : Room := { frames := 3, cells := 0, slots := 0, locals := 67 }
set_option maxHeartbeats 4000000 in
set_option maxRecDepth 100000 in
theorem c_X8_readWait (l : Launch) (w : tr_E)  (h : tr_H) (r0 : Int32) (h0 : tr_H) (hk : f_X8_readWait h = some (r0, h0)) : Met l yX8_readWait (Cond.code yX8_readWait cX8_readWait 5 (some .boolean) :: tr_T) r_X8_readWait (va_Pc [.ref (tr_ad w 0)] (tr_Wo tr_M w h)) (tr_Qi tr_M w r0 h0) 0 0 (tr_R tr_M w) := by
  refine tr_start (by decide) (Nat.le_refl _) ?_
  intro p e s m args below meth c C hr hlocks hargs hP
  have hx := C.1
  have hb := C.2.1
  have hS : va_S (tr_R tr_M w) s.heap s.heap [] := va_S.rf
  have hl := lv_entry ([.ref (tr_ad w 0)]) (n := 5) (Nat.le_of_ble_eq_true rfl)
  rw [lg_entry_eq]
  generalize (lg_sl ([.ref (tr_ad w 0)]) ++ List.replicate (5 - (lg_sl ([.ref (tr_ad w 0)])).length) Slot.unset).toArray = ls at hl ⊢
  have hl : lv_has ls 5 [(0, .ref (tr_ad w 0))] := hl
  replace hk : tr_ok (f_X8_readWait h) (fun o => o = (r0, h0)) := ⟨_, hk, rfl⟩
  unfold f_X8_readWait at hk
  refine lv_aload_n hx hb dX8_readWait_0 rfl (lv_at hl 0 rfl) ?_
  refine gf_X8_13 C hP dX8_readWait_1 ?_
  refine lv_iconst (v := 0) hx hb dX8_readWait_4 (by decide) ?_
  refine tr_ial C hP (ar_M_2 w) (show ¬ ((0 : Int32) < 0 ∨ 37 ≤ (0 : Int32).toNatClampNeg) by decide) dX8_readWait_5 ?_
  refine tr_ti hk (fun tv1 hk => ?_)
  refine lv_istore_n (lv' := [(1, .int tv1), (0, .ref (tr_ad w 0))]) hx hb dX8_readWait_6 rfl hl (by decide) rfl (fun ls hl => ?_)
  refine lv_aload_n hx hb dX8_readWait_7 rfl (lv_at hl 1 rfl) ?_
  refine lv_iload_n hx hb dX8_readWait_8 rfl (lv_at hl 0 rfl) ?_
  refine lv_iconst (v := 1) hx hb dX8_readWait_9 (by decide) ?_
  refine lv_isub hx hb dX8_readWait_10 ?_
  obtain ⟨tv3, th4, tq2, hk⟩ := tr_okb2 hk
  refine tr_cvi (As := [.int (tv1 - 1)]) (rest := []) C hP hS hl (c_X8_figure l w (tv1 - 1) h tv3 th4 tq2) mz_X8_figure ml_X8_83 (by decide) rfl rfl rfl rfl ⟨Nat.le_of_ble_eq_true rfl, Nat.le_of_ble_eq_true rfl⟩ rfl rfl (Nat.le_of_ble_eq_true rfl) ⟨Nat.le_refl _, Nat.le_refl _⟩ dX8_readWait_11 (fun H locs hP hS => ?_)
  refine lv_istore_n (lv' := [(2, .int tv3), (1, .int tv1), (0, .ref (tr_ad w 0))]) hx hb dX8_readWait_14 rfl hl (by decide) rfl (fun ls hl => ?_)
  refine lv_iload_n hx hb dX8_readWait_15 rfl (lv_at hl 0 rfl) ?_
  refine lv_bipush (v := (-9)) hx hb dX8_readWait_16 (by decide) ?_
  refine lv_icmp_ne (tgt := 23) hx hb dX8_readWait_18 (by decide) (fun tc5 => ?_) (fun tc5 => ?_)
  · replace hk := tr_iff hk tc5
    refine lv_aload_n hx hb dX8_readWait_23 rfl (lv_at hl 2 rfl) ?_
    refine gf_X8_87 C hP dX8_readWait_24 ?_
    refine lv_bipush (v := 12) hx hb dX8_readWait_27 (by decide) ?_
    refine lv_icmp_eq (tgt := 44) hx hb dX8_readWait_29 (by decide) (fun tc6 => ?_) (fun tc6 => ?_)
    · replace hk := tr_ift hk tc6
      refine lv_aload_n hx hb dX8_readWait_44 rfl (lv_at hl 2 rfl) ?_
      refine lv_dup hx hb dX8_readWait_45 rfl ?_
      refine gf_X8_76 C hP dX8_readWait_46 ?_
      refine lv_iconst (v := 1) hx hb dX8_readWait_49 (by decide) ?_
      refine lv_isub hx hb dX8_readWait_50 ?_
      refine pf_X8_76 C hP hS dX8_readWait_51 (fun H locs hP hS => ?_)
      refine tr_th hk hP (fun th7 hk hP => ?_)
      refine lv_iconst (v := 0) hx hb dX8_readWait_54 (by decide) ?_
      exact tr_zret C hP hS hr hlocks rfl (tr_okS (P := (fun o => o = (r0, h0))) hk) dX8_readWait_55
    · replace hk := tr_iff hk tc6
      refine lv_aload_n hx hb dX8_readWait_32 rfl (lv_at hl 2 rfl) ?_
      refine gf_X8_13 C hP dX8_readWait_33 ?_
      refine lv_iload_n hx hb dX8_readWait_36 rfl (lv_at hl 0 rfl) ?_
      obtain ⟨tv9, tq8, hk⟩ := tr_okb hk
      refine tr_csi (As := [.ref (tr_ad w 2), .int tv3]) (rest := []) C hP hS hl (c_X8_waitsFrom l w 2 tr_pg_2 tv3 th4 tv9 tq8) mz_X8_waitsFrom ml_X8_90 rfl rfl ⟨Nat.le_of_ble_eq_true rfl, Nat.le_of_ble_eq_true rfl⟩ rfl rfl (Nat.le_of_ble_eq_true rfl) ⟨Nat.le_refl _, Nat.le_refl _⟩ dX8_readWait_37 (fun H locs hP hS => ?_)
      refine lv_iload_n hx hb dX8_readWait_40 rfl (lv_at hl 1 rfl) ?_
      refine lv_icmp_ne (tgt := 56) hx hb dX8_readWait_41 (by decide) (fun tc10 => ?_) (fun tc10 => ?_)
      · replace hk := tr_iff hk tc10
        refine lv_aload_n hx hb dX8_readWait_56 rfl (lv_at hl 2 rfl) ?_
        refine lv_iload_n hx hb dX8_readWait_57 rfl (lv_at hl 1 rfl) ?_
        refine lv_iconst (v := 1) hx hb dX8_readWait_58 (by decide) ?_
        refine lv_isub hx hb dX8_readWait_59 ?_
        obtain ⟨tv12, th13, tq11, hk⟩ := tr_okb2 hk
        refine tr_cvi (As := [.int (tv1 - 1)]) (rest := []) C hP hS hl (c_X8_figure l w (tv1 - 1) th4 tv12 th13 tq11) mz_X8_figure ml_X8_83 (by decide) rfl rfl rfl rfl ⟨Nat.le_of_ble_eq_true rfl, Nat.le_of_ble_eq_true rfl⟩ rfl rfl (Nat.le_of_ble_eq_true rfl) ⟨Nat.le_refl _, Nat.le_refl _⟩ dX8_readWait_60 (fun H locs hP hS => ?_)
        refine lv_istore_n (lv' := [(3, .int tv12), (2, .int tv3), (1, .int tv1), (0, .ref (tr_ad w 0))]) hx hb dX8_readWait_63 rfl hl (by decide) rfl (fun ls hl => ?_)
        refine lv_iload_n hx hb dX8_readWait_64 rfl (lv_at hl 0 rfl) ?_
        refine lv_bipush (v := (-9)) hx hb dX8_readWait_65 (by decide) ?_
        refine lv_icmp_ne (tgt := 72) hx hb dX8_readWait_67 (by decide) (fun tc14 => ?_) (fun tc14 => ?_)
        · replace hk := tr_iff hk tc14
          refine lv_aload_n hx hb dX8_readWait_72 rfl (lv_at hl 3 rfl) ?_
          refine gf_X8_13 C hP dX8_readWait_73 ?_
          refine lv_iload_n hx hb dX8_readWait_76 rfl (lv_at hl 1 rfl) ?_
          refine lv_iload_n hx hb dX8_readWait_77 rfl (lv_at hl 0 rfl) ?_
          obtain ⟨tv16, tq15, hk⟩ := tr_okb hk
          refine tr_csi (As := [.ref (tr_ad w 2), .int tv3, .int tv12]) (rest := []) C hP hS hl (c_X8_isThere l w 2 tr_pg_2 tv3 tv12 th13 tv16 tq15) mz_X8_isThere ml_X8_79 rfl rfl ⟨Nat.le_of_ble_eq_true rfl, Nat.le_of_ble_eq_true rfl⟩ rfl rfl (Nat.le_of_ble_eq_true rfl) ⟨Nat.le_refl _, Nat.le_refl _⟩ dX8_readWait_78 (fun H locs hP hS => ?_)
          refine lv_if_eq (tgt := 96) hx hb dX8_readWait_81 (by decide) (fun tc17 => ?_) (fun tc17 => ?_)
          · replace hk := tr_ift hk tc17
            refine lv_aload_n hx hb dX8_readWait_96 rfl (lv_at hl 3 rfl) ?_
            refine lv_bipush (v := 9) hx hb dX8_readWait_97 (by decide) ?_
            obtain ⟨tv19, th20, tq18, hk⟩ := tr_okb2 hk
            refine tr_cvi (As := [.int 9]) (rest := []) C hP hS hl (c_X8_figure l w 9 th13 tv19 th20 tq18) mz_X8_figure ml_X8_83 (by decide) rfl rfl rfl rfl ⟨Nat.le_of_ble_eq_true rfl, Nat.le_of_ble_eq_true rfl⟩ rfl rfl (Nat.le_of_ble_eq_true rfl) ⟨Nat.le_refl _, Nat.le_refl _⟩ dX8_readWait_99 (fun H locs hP hS => ?_)
            refine lv_istore (lv' := [(4, .int tv19), (3, .int tv12), (2, .int tv3), (1, .int tv1), (0, .ref (tr_ad w 0))]) hx hb dX8_readWait_102 hl (by decide) rfl (fun ls hl => ?_)
            refine lv_aload_n hx hb dX8_readWait_104 rfl (lv_at hl 4 rfl) ?_
            refine gf_X8_13 C hP dX8_readWait_105 ?_
            refine lv_iconst (v := 1) hx hb dX8_readWait_108 (by decide) ?_
            refine lv_bipush (v := 6) hx hb dX8_readWait_109 (by decide) ?_
            refine lv_iload_n hx hb dX8_readWait_111 rfl (lv_at hl 2 rfl) ?_
            refine lv_imul hx hb dX8_readWait_112 ?_
            refine lv_iadd hx hb dX8_readWait_113 ?_
            refine lv_iload_n hx hb dX8_readWait_114 rfl (lv_at hl 1 rfl) ?_
            refine lv_iadd hx hb dX8_readWait_115 ?_
            refine lv_iload hx hb dX8_readWait_116 (lv_at hl 0 rfl) ?_
            refine lv_iconst (v := 1) hx hb dX8_readWait_118 (by decide) ?_
            refine lv_iadd hx hb dX8_readWait_119 ?_
            have j131 : ∀ (tv21 : Int32), tr_ok (f_X8_readWait_J131 tv3 tv12 th20 tv19 tv21) (fun o => o = (r0, h0)) → tr_Wd p l e r_X8_readWait s m args below meth c (MQ below (tr_Qi tr_M w r0 h0) args s 0 0 (tr_R tr_M w)) tr_M w 5 131 [(0, .ref (tr_ad w 0)), (4, .int tv19)] [.int tv21, .int ((1 + (6 * tv3)) + tv12), .ref (tr_ad w 2)] th20 := by
              intro tv21 hk H locs ls hP hS hl
              unfold f_X8_readWait_J131 at hk
              obtain ⟨tv22, etv22, hk⟩ := tr_okd hk
              rw [← etv22]
              obtain ⟨tg23, hk⟩ := tr_okg hk
              refine tr_ias C hP hS (ar_M_2 w) tg23 dX8_readWait_131 (fun H locs hP hS => ?_)
              refine tr_th hk hP (fun th24 hk hP => ?_)
              refine lv_aload_n hx hb dX8_readWait_132 rfl (lv_at hl 0 rfl) ?_
              refine lv_dup hx hb dX8_readWait_133 rfl ?_
              refine gf_X8_87 C hP dX8_readWait_134 ?_
              refine lv_iconst (v := 1) hx hb dX8_readWait_137 (by decide) ?_
              refine lv_iadd hx hb dX8_readWait_138 ?_
              refine pf_X8_87 C hP hS dX8_readWait_139 (fun H locs hP hS => ?_)
              refine tr_th hk hP (fun th25 hk hP => ?_)
              refine lv_iload hx hb dX8_readWait_142 (lv_at hl 1 rfl) ?_
              refine lv_bipush (v := (-9)) hx hb dX8_readWait_144 (by decide) ?_
              refine lv_icmp_eq (tgt := 153) hx hb dX8_readWait_146 (by decide) (fun tc26 => ?_) (fun tc26 => ?_)
              · replace hk := tr_ift hk tc26
                refine lv_iconst (v := 0) hx hb dX8_readWait_153 (by decide) ?_
                exact tr_zret C hP hS hr hlocks rfl (tr_okS (P := (fun o => o = (r0, h0))) hk) dX8_readWait_154
              · replace hk := tr_iff hk tc26
                refine lv_iconst (v := 1) hx hb dX8_readWait_149 (by decide) ?_
                refine lv_goto (tgt := 154) hx hb dX8_readWait_150 (by decide) ?_
                exact tr_zret C hP hS hr hlocks rfl (tr_okS (P := (fun o => o = (r0, h0))) hk) dX8_readWait_154
            refine lv_if_ge (tgt := 127) hx hb dX8_readWait_120 (by decide) (fun tc27 => ?_) (fun tc27 => ?_)
            · replace hk := tr_ift hk tc27
              refine lv_iload hx hb dX8_readWait_127 (lv_at hl 0 rfl) ?_
              refine lv_iconst (v := 1) hx hb dX8_readWait_129 (by decide) ?_
              refine lv_iadd hx hb dX8_readWait_130 ?_
              exact j131 (tv19 + 1) hk _ _ _ hP hS (lv_sub hl [4, 0] rfl)
            · replace hk := tr_iff hk tc27
              refine lv_iconst (v := 0) hx hb dX8_readWait_123 (by decide) ?_
              refine lv_goto (tgt := 131) hx hb dX8_readWait_124 (by decide) ?_
              exact j131 0 hk _ _ _ hP hS (lv_sub hl [4, 0] rfl)
          · replace hk := tr_iff hk tc17
            refine lv_aload_n hx hb dX8_readWait_84 rfl (lv_at hl 3 rfl) ?_
            refine lv_dup hx hb dX8_readWait_85 rfl ?_
            refine gf_X8_76 C hP dX8_readWait_86 ?_
            refine lv_iconst (v := 1) hx hb dX8_readWait_89 (by decide) ?_
            refine lv_isub hx hb dX8_readWait_90 ?_
            refine pf_X8_76 C hP hS dX8_readWait_91 (fun H locs hP hS => ?_)
            refine tr_th hk hP (fun th28 hk hP => ?_)
            refine lv_iconst (v := 0) hx hb dX8_readWait_94 (by decide) ?_
            exact tr_zret C hP hS hr hlocks rfl (tr_okS (P := (fun o => o = (r0, h0))) hk) dX8_readWait_95
        · replace hk := tr_ift hk tc14
          refine lv_iconst (v := 0) hx hb dX8_readWait_70 (by decide) ?_
          exact tr_zret C hP hS hr hlocks rfl (tr_okS (P := (fun o => o = (r0, h0))) hk) dX8_readWait_71
      · replace hk := tr_ift hk tc10
        refine lv_aload_n hx hb dX8_readWait_44 rfl (lv_at hl 2 rfl) ?_
        refine lv_dup hx hb dX8_readWait_45 rfl ?_
        refine gf_X8_76 C hP dX8_readWait_46 ?_
        refine lv_iconst (v := 1) hx hb dX8_readWait_49 (by decide) ?_
        refine lv_isub hx hb dX8_readWait_50 ?_
        refine pf_X8_76 C hP hS dX8_readWait_51 (fun H locs hP hS => ?_)
        refine tr_th hk hP (fun th29 hk hP => ?_)
        refine lv_iconst (v := 0) hx hb dX8_readWait_54 (by decide) ?_
        exact tr_zret C hP hS hr hlocks rfl (tr_okS (P := (fun o => o = (r0, h0))) hk) dX8_readWait_55
  · replace hk := tr_ift hk tc5
    refine lv_iconst (v := 0) hx hb dX8_readWait_21 (by decide) ?_
    exact tr_zret C hP hS hr hlocks rfl (tr_okS (P := (fun o => o = (r0, h0))) hk) dX8_readWait_22
abbrev r_X8_readNet : Room := { frames := 4, cells := 0, slots := 0, locals := 91 }
set_option maxHeartbeats 4000000 in
set_option maxRecDepth 100000 in
theorem c_X8_readNet (l : Launch) (w : tr_E)  (h : tr_H) (r0 : Int32) (h0 : tr_H) (hk : f_X8_readNet h = some (r0, h0)) : Met l yX8_readNet (Cond.code yX8_readNet cX8_readNet 2 (some .int) :: tr_T) r_X8_readNet (va_Pc [.ref (tr_ad w 0)] (tr_Wo tr_M w h)) (tr_Qi tr_M w r0 h0) 0 0 (tr_R tr_M w) := by
  refine tr_start (by decide) (Nat.le_refl _) ?_
  intro p e s m args below meth c C hr hlocks hargs hP
  have hx := C.1
  have hb := C.2.1
  have hS : va_S (tr_R tr_M w) s.heap s.heap [] := va_S.rf
  have hl := lv_entry ([.ref (tr_ad w 0)]) (n := 2) (Nat.le_of_ble_eq_true rfl)
  rw [lg_entry_eq]
  generalize (lg_sl ([.ref (tr_ad w 0)]) ++ List.replicate (2 - (lg_sl ([.ref (tr_ad w 0)])).length) Slot.unset).toArray = ls at hl ⊢
  have hl : lv_has ls 2 [(0, .ref (tr_ad w 0))] := hl
  replace hk : tr_ok (f_X8_readNet h) (fun o => o = (r0, h0)) := ⟨_, hk, rfl⟩
  unfold f_X8_readNet at hk
  refine lv_iconst (v := 0) hx hb dX8_readNet_0 (by decide) ?_
  refine lv_istore_n (lv' := [(1, .int 0), (0, .ref (tr_ad w 0))]) hx hb dX8_readNet_1 rfl hl (by decide) rfl (fun ls hl => ?_)
  have j21_2 : ∀ (th1 : tr_H), tr_ok (f_X8_readNet_E21 th1) (fun o => o = (r0, h0)) → tr_Wd p l e r_X8_readNet s m args below meth c (MQ below (tr_Qi tr_M w r0 h0) args s 0 0 (tr_R tr_M w)) tr_M w 2 21 [(0, .ref (tr_ad w 0))] [] th1 := by
    intro th1 hk H locs ls hP hS hl
    unfold f_X8_readNet_E21 at hk
    refine lv_aload_n hx hb dX8_readNet_21 rfl (lv_at hl 0 rfl) ?_
    refine lv_iconst (v := 0) hx hb dX8_readNet_22 (by decide) ?_
    refine pf_X8_87 C hP hS dX8_readNet_23 (fun H locs hP hS => ?_)
    refine tr_th hk hP (fun th2 hk hP => ?_)
    refine lv_aload_n hx hb dX8_readNet_26 rfl (lv_at hl 0 rfl) ?_
    refine gf_X8_73 C hP dX8_readNet_27 ?_
    refine lv_if_eq (tgt := 44) hx hb dX8_readNet_30 (by decide) (fun tc3 => ?_) (fun tc3 => ?_)
    · replace hk := tr_ift hk tc3
      refine lv_iconst (v := 0) hx hb dX8_readNet_44 (by decide) ?_
      exact tr_iret C hP hS hr hlocks (tr_okS (P := (fun o => o = (r0, h0))) hk) dX8_readNet_45
    · replace hk := tr_iff hk tc3
      refine lv_aload_n hx hb dX8_readNet_33 rfl (lv_at hl 0 rfl) ?_
      refine gf_X8_7 C hP dX8_readNet_34 ?_
      refine lv_iconst (v := 0) hx hb dX8_readNet_37 (by decide) ?_
      refine tr_ial C hP (ar_M_1 w) (show ¬ ((0 : Int32) < 0 ∨ 64 ≤ (0 : Int32).toNatClampNeg) by decide) dX8_readNet_38 ?_
      refine lv_bipush (v := 78) hx hb dX8_readNet_39 (by decide) ?_
      refine lv_icmp_eq (tgt := 46) hx hb dX8_readNet_41 (by decide) (fun tc4 => ?_) (fun tc4 => ?_)
      · replace hk := tr_ift hk tc4
        refine lv_aload_n hx hb dX8_readNet_46 rfl (lv_at hl 0 rfl) ?_
        refine lv_iconst (v := 1) hx hb dX8_readNet_47 (by decide) ?_
        refine pf_X8_76 C hP hS dX8_readNet_48 (fun H locs hP hS => ?_)
        refine tr_th hk hP (fun th5 hk hP => ?_)
        refine lv_aload_n hx hb dX8_readNet_51 rfl (lv_at hl 0 rfl) ?_
        refine lv_bipush (v := 6) hx hb dX8_readNet_52 (by decide) ?_
        obtain ⟨tv7, th8, tq6, hk⟩ := tr_okb2 hk
        refine tr_cvi (As := [.int 6]) (rest := []) C hP hS hl (c_X8_figure l w 6 th5 tv7 th8 tq6) mz_X8_figure ml_X8_83 (by decide) rfl rfl rfl rfl ⟨Nat.le_of_ble_eq_true rfl, Nat.le_of_ble_eq_true rfl⟩ rfl rfl (Nat.le_of_ble_eq_true rfl) ⟨Nat.le_refl _, Nat.le_refl _⟩ dX8_readNet_54 (fun H locs hP hS => ?_)
        refine lv_istore_n (lv' := [(1, .int tv7), (0, .ref (tr_ad w 0))]) hx hb dX8_readNet_57 rfl hl (by decide) rfl (fun ls hl => ?_)
        refine lv_iload_n hx hb dX8_readNet_58 rfl (lv_at hl 0 rfl) ?_
        refine lv_iconst (v := 1) hx hb dX8_readNet_59 (by decide) ?_
        refine lv_icmp_ge (tgt := 65) hx hb dX8_readNet_60 (by decide) (fun tc9 => ?_) (fun tc9 => ?_)
        · replace hk := tr_ift hk tc9
          refine lv_aload_n hx hb dX8_readNet_65 rfl (lv_at hl 1 rfl) ?_
          refine gf_X8_13 C hP dX8_readNet_66 ?_
          refine lv_iconst (v := 0) hx hb dX8_readNet_69 (by decide) ?_
          refine lv_iload_n hx hb dX8_readNet_70 rfl (lv_at hl 0 rfl) ?_
          refine tr_ias C hP hS (ar_M_2 w) (show ¬ ((0 : Int32) < 0 ∨ 37 ≤ (0 : Int32).toNatClampNeg) by decide) dX8_readNet_71 (fun H locs hP hS => ?_)
          refine tr_th hk hP (fun th10 hk hP => ?_)
          have j95_72 : ∀ (th11 : tr_H), tr_ok (f_X8_readNet_E95 th11) (fun o => o = (r0, h0)) → tr_Wd p l e r_X8_readNet s m args below meth c (MQ below (tr_Qi tr_M w r0 h0) args s 0 0 (tr_R tr_M w)) tr_M w 2 95 [] [] th11 := by
            intro th11 hk H locs ls hP hS hl
            unfold f_X8_readNet_E95 at hk
            refine lv_bipush (v := (-9)) hx hb dX8_readNet_95 (by decide) ?_
            exact tr_iret C hP hS hr hlocks (tr_okS (P := (fun o => o = (r0, h0))) hk) dX8_readNet_97
          refine tr_loop (fun q => tr_Wd p l e r_X8_readNet s m args below meth c (MQ below (tr_Qi tr_M w r0 h0) args s 0 0 (tr_R tr_M w)) tr_M w 2 72 [(0, .ref (tr_ad w 0))] [] q) hk ?_ _ _ _ hP hS (lv_sub hl [1] rfl)
          intro P72 hin72 hex72 q hk
          generalize q = th12 at hk ⊢
          intro H locs ls hP hS hl
          replace hk : tr_ok (f_X8_readNet_L72 th12) P72 := hk
          unfold f_X8_readNet_L72 at hk
          refine lv_aload_n hx hb dX8_readNet_72 rfl (lv_at hl 0 rfl) ?_
          refine gf_X8_76 C hP dX8_readNet_73 ?_
          refine lv_aload_n hx hb dX8_readNet_76 rfl (lv_at hl 0 rfl) ?_
          refine gf_X8_73 C hP dX8_readNet_77 ?_
          refine lv_icmp_ge (tgt := 95) hx hb dX8_readNet_80 (by decide) (fun tc13 => ?_) (fun tc13 => ?_)
          · replace hk := tr_ift hk tc13
            replace hk := hex72 _ (tr_okS hk)
            replace hk : tr_ok (f_X8_readNet_E95 th12) (fun o => o = (r0, h0)) := hk
            exact j95_72 th12 hk _ _ _ hP hS (lv_sub hl [] rfl)
          · replace hk := tr_iff hk tc13
            refine lv_aload_n hx hb dX8_readNet_83 rfl (lv_at hl 0 rfl) ?_
            obtain ⟨tv15, th16, tq14, hk⟩ := tr_okb2 hk
            refine tr_cvi (As := []) (rest := []) C hP hS hl (c_X8_readWait l w th12 tv15 th16 tq14) mz_X8_readWait ml_X8_94 (by decide) rfl rfl rfl rfl ⟨Nat.le_of_ble_eq_true rfl, Nat.le_of_ble_eq_true rfl⟩ rfl rfl (Nat.le_of_ble_eq_true rfl) ⟨Nat.le_refl _, Nat.le_refl _⟩ dX8_readNet_84 (fun H locs hP hS => ?_)
            refine lv_if_ne (tgt := 72) hx hb dX8_readNet_87 (by decide) (fun tc17 => ?_) (fun tc17 => ?_)
            · replace hk := tr_iff hk tc17
              exact hin72 _ (tr_okS hk) _ _ _ hP hS (lv_sub hl [0] rfl)
            · replace hk := tr_ift hk tc17
              refine lv_aload_n hx hb dX8_readNet_90 rfl (lv_at hl 0 rfl) ?_
              refine gf_X8_76 C hP dX8_readNet_91 ?_
              replace hk := hex72 _ (tr_okS hk)
              replace hk : tr_ok (some (th16.1 0 3, th16)) (fun o => o = (r0, h0)) := hk
              exact tr_iret C hP hS hr hlocks (tr_okS (P := (fun o => o = (r0, h0))) hk) dX8_readNet_94
        · replace hk := tr_iff hk tc9
          refine lv_iconst (v := 1) hx hb dX8_readNet_63 (by decide) ?_
          exact tr_iret C hP hS hr hlocks (tr_okS (P := (fun o => o = (r0, h0))) hk) dX8_readNet_64
      · replace hk := tr_iff hk tc4
        refine lv_iconst (v := 0) hx hb dX8_readNet_44 (by decide) ?_
        exact tr_iret C hP hS hr hlocks (tr_okS (P := (fun o => o = (r0, h0))) hk) dX8_readNet_45
  refine tr_loop (fun q => tr_Wd p l e r_X8_readNet s m args below meth c (MQ below (tr_Qi tr_M w r0 h0) args s 0 0 (tr_R tr_M w)) tr_M w 2 2 [(0, .ref (tr_ad w 0)), (1, .int q.1)] [] q.2) hk ?_ _ _ _ hP hS (lv_sub hl [1, 0] rfl)
  intro P2 hin2 hex2 q hk
  obtain ⟨tv18, th19⟩ := q
  intro H locs ls hP hS hl
  replace hk : tr_ok (f_X8_readNet_L2 tv18 th19) P2 := hk
  unfold f_X8_readNet_L2 at hk
  refine lv_iload_n hx hb dX8_readNet_2 rfl (lv_at hl 1 rfl) ?_
  refine lv_bipush (v := 37) hx hb dX8_readNet_3 (by decide) ?_
  refine lv_icmp_ge (tgt := 21) hx hb dX8_readNet_5 (by decide) (fun tc20 => ?_) (fun tc20 => ?_)
  · replace hk := tr_ift hk tc20
    replace hk := hex2 _ (tr_okS hk)
    replace hk : tr_ok (f_X8_readNet_E21 th19) (fun o => o = (r0, h0)) := hk
    exact j21_2 th19 hk _ _ _ hP hS (lv_sub hl [0] rfl)
  · replace hk := tr_iff hk tc20
    refine lv_aload_n hx hb dX8_readNet_8 rfl (lv_at hl 0 rfl) ?_
    refine gf_X8_13 C hP dX8_readNet_9 ?_
    refine lv_iload_n hx hb dX8_readNet_12 rfl (lv_at hl 1 rfl) ?_
    refine lv_iconst (v := 0) hx hb dX8_readNet_13 (by decide) ?_
    obtain ⟨tg21, hk⟩ := tr_okg hk
    refine tr_ias C hP hS (ar_M_2 w) tg21 dX8_readNet_14 (fun H locs hP hS => ?_)
    refine tr_th hk hP (fun th22 hk hP => ?_)
    obtain ⟨tv23, etv23, hk⟩ := tr_okd hk
    refine lv_iinc (v := tv23) (lv' := [(1, .int tv23), (0, .ref (tr_ad w 0))]) hx hb dX8_readNet_15 hl (k := 1) rfl (by rw [etv23]; rfl) (by decide) rfl (fun ls hl => ?_)
    refine lv_goto (tgt := 2) hx hb dX8_readNet_18 (by decide) ?_
    exact hin2 _ (tr_okS hk) _ _ _ hP hS (lv_sub hl [1, 0] rfl)
abbrev r_X8_fault : Room := { frames := 5, cells := 0, slots := 0, locals := 112 }
set_option maxHeartbeats 4000000 in
set_option maxRecDepth 100000 in
theorem c_X8_fault (l : Launch) (w : tr_E)  (h : tr_H) (r0 : Int32) (h0 : tr_H) (hk : f_X8_fault h = some (r0, h0)) : Met l yX8_fault (Cond.code yX8_fault cX8_fault 1 (some .int) :: tr_T) r_X8_fault (va_Pc [.ref (tr_ad w 0)] (tr_Wo tr_M w h)) (tr_Qi tr_M w r0 h0) 0 0 (tr_R tr_M w) := by
  refine tr_start (by decide) (Nat.le_refl _) ?_
  intro p e s m args below meth c C hr hlocks hargs hP
  have hx := C.1
  have hb := C.2.1
  have hS : va_S (tr_R tr_M w) s.heap s.heap [] := va_S.rf
  have hl := lv_entry ([.ref (tr_ad w 0)]) (n := 1) (Nat.le_of_ble_eq_true rfl)
  rw [lg_entry_eq]
  generalize (lg_sl ([.ref (tr_ad w 0)]) ++ List.replicate (1 - (lg_sl ([.ref (tr_ad w 0)])).length) Slot.unset).toArray = ls at hl ⊢
  have hl : lv_has ls 1 [(0, .ref (tr_ad w 0))] := hl
  replace hk : tr_ok (f_X8_fault h) (fun o => o = (r0, h0)) := ⟨_, hk, rfl⟩
  unfold f_X8_fault at hk
  refine lv_aload_n hx hb dX8_fault_0 rfl (lv_at hl 0 rfl) ?_
  refine lv_iconst (v := 0) hx hb dX8_fault_1 (by decide) ?_
  refine pf_X8_59 C hP hS dX8_fault_2 (fun H locs hP hS => ?_)
  refine tr_th hk hP (fun th1 hk hP => ?_)
  refine lv_aload_n hx hb dX8_fault_5 rfl (lv_at hl 0 rfl) ?_
  obtain ⟨tv3, th4, tq2, hk⟩ := tr_okb2 hk
  refine tr_cvi (As := []) (rest := []) C hP hS hl (c_X8_readNet l w th1 tv3 th4 tq2) mz_X8_readNet ml_X8_98 (by decide) rfl rfl rfl rfl ⟨Nat.le_of_ble_eq_true rfl, Nat.le_of_ble_eq_true rfl⟩ rfl rfl (Nat.le_of_ble_eq_true rfl) ⟨Nat.le_refl _, Nat.le_refl _⟩ dX8_fault_6 (fun H locs hP hS => ?_)
  exact tr_iret C hP hS hr hlocks (tr_okS (P := (fun o => o = (r0, h0))) hk) dX8_fault_9
abbrev r_X8_waits : Room := { frames := 0, cells := 0, slots := 0, locals := 0 }
set_option maxHeartbeats 4000000 in
set_option maxRecDepth 100000 in
theorem c_X8_waits (l : Launch) (w : tr_E) (tn1 : Nat) (htn1 : tr_pg tn1) (h : tr_H) (r0 : Int32) (hk : f_X8_waits tn1 h = some r0) : Met l yX8_waits (Cond.code yX8_waits cX8_waits 3 (some .int) :: tr_T) r_X8_waits (va_Pc [.ref (tr_ad w tn1)] (tr_Wo tr_M w h)) (tr_Qi tr_M w r0 h) 0 0 (tr_R tr_M w) := by
  refine tr_start (by decide) (Nat.le_refl _) ?_
  intro p e s m args below meth c C hr hlocks hargs hP
  have hx := C.1
  have hb := C.2.1
  have hS : va_S (tr_R tr_M w) s.heap s.heap [] := va_S.rf
  have hl := lv_entry ([.ref (tr_ad w tn1)]) (n := 3) (Nat.le_of_ble_eq_true rfl)
  rw [lg_entry_eq]
  generalize (lg_sl ([.ref (tr_ad w tn1)]) ++ List.replicate (3 - (lg_sl ([.ref (tr_ad w tn1)])).length) Slot.unset).toArray = ls at hl ⊢
  have hl : lv_has ls 3 [(0, .ref (tr_ad w tn1))] := hl
  replace hk : tr_ok (f_X8_waits tn1 h) (fun o => o = r0) := ⟨_, hk, rfl⟩
  unfold f_X8_waits at hk
  refine lv_iconst (v := 0) hx hb dX8_waits_0 (by decide) ?_
  refine lv_istore_n (lv' := [(1, .int 0), (0, .ref (tr_ad w tn1))]) hx hb dX8_waits_1 rfl hl (by decide) rfl (fun ls hl => ?_)
  refine lv_iconst (v := 1) hx hb dX8_waits_2 (by decide) ?_
  refine lv_istore_n (lv' := [(2, .int 1), (1, .int 0), (0, .ref (tr_ad w tn1))]) hx hb dX8_waits_3 rfl hl (by decide) rfl (fun ls hl => ?_)
  have j30_4 : ∀ (tv1 : Int32), tr_ok (f_X8_waits_E30 tv1) (fun o => o = r0) → tr_Wd p l e r_X8_waits s m args below meth c (MQ below (tr_Qi tr_M w r0 h) args s 0 0 (tr_R tr_M w)) tr_M w 3 30 [(1, .int tv1)] [] h := by
    intro tv1 hk H locs ls hP hS hl
    unfold f_X8_waits_E30 at hk
    refine lv_iload_n hx hb dX8_waits_30 rfl (lv_at hl 0 rfl) ?_
    exact tr_iret C hP hS hr hlocks (congrArg (fun x => (x, h)) (tr_okS (P := (fun o => o = r0)) hk)) dX8_waits_31
  refine tr_loop (fun q => tr_Wd p l e r_X8_waits s m args below meth c (MQ below (tr_Qi tr_M w r0 h) args s 0 0 (tr_R tr_M w)) tr_M w 3 4 [(0, .ref (tr_ad w tn1)), (1, .int q.1), (2, .int q.2)] [] h) hk ?_ _ _ _ hP hS (lv_sub hl [2, 1, 0] rfl)
  intro P4 hin4 hex4 q hk
  obtain ⟨tv2, tv3⟩ := q
  intro H locs ls hP hS hl
  replace hk : tr_ok (f_X8_waits_L4 h tn1 tv2 tv3) P4 := hk
  unfold f_X8_waits_L4 at hk
  refine lv_iload_n hx hb dX8_waits_4 rfl (lv_at hl 2 rfl) ?_
  refine lv_bipush (v := 37) hx hb dX8_waits_5 (by decide) ?_
  refine lv_icmp_ge (tgt := 30) hx hb dX8_waits_7 (by decide) (fun tc4 => ?_) (fun tc4 => ?_)
  · replace hk := tr_ift hk tc4
    replace hk := hex4 _ (tr_okS hk)
    replace hk : tr_ok (f_X8_waits_E30 tv2) (fun o => o = r0) := hk
    exact j30_4 tv2 hk _ _ _ hP hS (lv_sub hl [1] rfl)
  · replace hk := tr_iff hk tc4
    refine lv_iload_n hx hb dX8_waits_10 rfl (lv_at hl 1 rfl) ?_
    refine lv_aload_n hx hb dX8_waits_11 rfl (lv_at hl 0 rfl) ?_
    refine lv_iload_n hx hb dX8_waits_12 rfl (lv_at hl 2 rfl) ?_
    obtain ⟨tg5, hk⟩ := tr_okg hk
    refine tr_ial C hP (tr_pg_ar htn1 w) tg5 dX8_waits_13 ?_
    refine lv_if_le (tgt := 21) hx hb dX8_waits_14 (by decide) (fun tc6 => ?_) (fun tc6 => ?_)
    · replace hk := tr_ift hk tc6
      refine lv_iconst (v := 0) hx hb dX8_waits_21 (by decide) ?_
      refine lv_iadd hx hb dX8_waits_22 ?_
      refine tr_ti hk (fun tv7 hk => ?_)
      refine lv_istore_n (lv' := [(1, .int tv7), (0, .ref (tr_ad w tn1)), (2, .int tv3)]) hx hb dX8_waits_23 rfl hl (by decide) rfl (fun ls hl => ?_)
      obtain ⟨tv8, etv8, hk⟩ := tr_okd hk
      refine lv_iinc (v := tv8) (lv' := [(2, .int tv8), (1, .int tv7), (0, .ref (tr_ad w tn1))]) hx hb dX8_waits_24 hl (k := 2) rfl (by rw [etv8]; rfl) (by decide) rfl (fun ls hl => ?_)
      refine lv_goto (tgt := 4) hx hb dX8_waits_27 (by decide) ?_
      exact hin4 _ (tr_okS hk) _ _ _ hP hS (lv_sub hl [2, 1, 0] rfl)
    · replace hk := tr_iff hk tc6
      refine lv_iconst (v := 1) hx hb dX8_waits_17 (by decide) ?_
      refine lv_goto (tgt := 22) hx hb dX8_waits_18 (by decide) ?_
      refine lv_iadd hx hb dX8_waits_22 ?_
      refine tr_ti hk (fun tv9 hk => ?_)
      refine lv_istore_n (lv' := [(1, .int tv9), (0, .ref (tr_ad w tn1)), (2, .int tv3)]) hx hb dX8_waits_23 rfl hl (by decide) rfl (fun ls hl => ?_)
      obtain ⟨tv10, etv10, hk⟩ := tr_okd hk
      refine lv_iinc (v := tv10) (lv' := [(2, .int tv10), (1, .int tv9), (0, .ref (tr_ad w tn1))]) hx hb dX8_waits_24 hl (k := 2) rfl (by rw [etv10]; rfl) (by decide) rfl (fun ls hl => ?_)
      refine lv_goto (tgt := 4) hx hb dX8_waits_27 (by decide) ?_
      exact hin4 _ (tr_okS hk) _ _ _ hP hS (lv_sub hl [2, 1, 0] rfl)
abbrev r_X8_net : Room := { frames := 5, cells := 0, slots := 0, locals := 112 }
set_option maxHeartbeats 4000000 in
set_option maxRecDepth 100000 in
theorem c_X8_net (l : Launch) (w : tr_E)  (h : tr_H) (r0 : Int32) (h0 : tr_H) (hk : f_X8_net h = some (r0, h0)) : Met l yX8_net (Cond.code yX8_net cX8_net 2 (some .int) :: tr_T) r_X8_net (va_Pc [.ref (tr_ad w 0)] (tr_Wo tr_M w h)) (tr_Qi tr_M w r0 h0) 0 0 (tr_R tr_M w) := by
  refine tr_start (by decide) (Nat.le_refl _) ?_
  intro p e s m args below meth c C hr hlocks hargs hP
  have hx := C.1
  have hb := C.2.1
  have hS : va_S (tr_R tr_M w) s.heap s.heap [] := va_S.rf
  have hl := lv_entry ([.ref (tr_ad w 0)]) (n := 2) (Nat.le_of_ble_eq_true rfl)
  rw [lg_entry_eq]
  generalize (lg_sl ([.ref (tr_ad w 0)]) ++ List.replicate (2 - (lg_sl ([.ref (tr_ad w 0)])).length) Slot.unset).toArray = ls at hl ⊢
  have hl : lv_has ls 2 [(0, .ref (tr_ad w 0))] := hl
  replace hk : tr_ok (f_X8_net h) (fun o => o = (r0, h0)) := ⟨_, hk, rfl⟩
  unfold f_X8_net at hk
  refine lv_aload_n hx hb dX8_net_0 rfl (lv_at hl 0 rfl) ?_
  refine lv_iconst (v := 0) hx hb dX8_net_1 (by decide) ?_
  refine pf_X8_59 C hP hS dX8_net_2 (fun H locs hP hS => ?_)
  refine tr_th hk hP (fun th1 hk hP => ?_)
  refine lv_aload_n hx hb dX8_net_5 rfl (lv_at hl 0 rfl) ?_
  obtain ⟨tv3, th4, tq2, hk⟩ := tr_okb2 hk
  refine tr_cvi (As := []) (rest := []) C hP hS hl (c_X8_readNet l w th1 tv3 th4 tq2) mz_X8_readNet ml_X8_98 (by decide) rfl rfl rfl rfl ⟨Nat.le_of_ble_eq_true rfl, Nat.le_of_ble_eq_true rfl⟩ rfl rfl (Nat.le_of_ble_eq_true rfl) ⟨Nat.le_refl _, Nat.le_refl _⟩ dX8_net_6 (fun H locs hP hS => ?_)
  refine lv_bipush (v := (-9)) hx hb dX8_net_9 (by decide) ?_
  refine lv_icmp_eq (tgt := 17) hx hb dX8_net_11 (by decide) (fun tc5 => ?_) (fun tc5 => ?_)
  · replace hk := tr_ift hk tc5
    refine lv_iconst (v := 0) hx hb dX8_net_17 (by decide) ?_
    refine lv_istore_n (lv' := [(1, .int 0), (0, .ref (tr_ad w 0))]) hx hb dX8_net_18 rfl hl (by decide) rfl (fun ls hl => ?_)
    have j43_19 : ∀ (th6 : tr_H), tr_ok (f_X8_net_E43 th6) (fun o => o = (r0, h0)) → tr_Wd p l e r_X8_net s m args below meth c (MQ below (tr_Qi tr_M w r0 h0) args s 0 0 (tr_R tr_M w)) tr_M w 2 43 [(0, .ref (tr_ad w 0))] [] th6 := by
      intro th6 hk H locs ls hP hS hl
      unfold f_X8_net_E43 at hk
      refine lv_aload_n hx hb dX8_net_43 rfl (lv_at hl 0 rfl) ?_
      refine lv_iconst (v := 0) hx hb dX8_net_44 (by decide) ?_
      refine pf_X8_102 C hP hS dX8_net_45 (fun H locs hP hS => ?_)
      refine tr_th hk hP (fun th7 hk hP => ?_)
      refine lv_aload_n hx hb dX8_net_48 rfl (lv_at hl 0 rfl) ?_
      refine gf_X8_28 C hP dX8_net_49 ?_
      refine lv_iconst (v := 0) hx hb dX8_net_52 (by decide) ?_
      refine lv_iconst (v := 0) hx hb dX8_net_53 (by decide) ?_
      refine tr_zas C hP hS (ar_M_7 w) (show ¬ ((0 : Int32) < 0 ∨ 2 ≤ (0 : Int32).toNatClampNeg) by decide) rfl dX8_net_54 (fun H locs hP hS => ?_)
      refine tr_th hk hP (fun th8 hk hP => ?_)
      refine lv_aload_n hx hb dX8_net_55 rfl (lv_at hl 0 rfl) ?_
      refine gf_X8_28 C hP dX8_net_56 ?_
      refine lv_iconst (v := 1) hx hb dX8_net_59 (by decide) ?_
      refine lv_iconst (v := 0) hx hb dX8_net_60 (by decide) ?_
      refine tr_zas C hP hS (ar_M_7 w) (show ¬ ((1 : Int32) < 0 ∨ 2 ≤ (1 : Int32).toNatClampNeg) by decide) rfl dX8_net_61 (fun H locs hP hS => ?_)
      refine tr_th hk hP (fun th9 hk hP => ?_)
      refine lv_aload_n hx hb dX8_net_62 rfl (lv_at hl 0 rfl) ?_
      refine gf_X8_16 C hP dX8_net_63 ?_
      obtain ⟨tv11, tq10, hk⟩ := tr_okb hk
      refine tr_csi (As := [.ref (tr_ad w 3)]) (rest := []) C hP hS hl (c_X8_waits l w 3 tr_pg_3 th9 tv11 tq10) mz_X8_waits ml_X8_105 rfl rfl ⟨Nat.le_of_ble_eq_true rfl, Nat.le_of_ble_eq_true rfl⟩ rfl rfl (Nat.le_of_ble_eq_true rfl) ⟨Nat.le_refl _, Nat.le_refl _⟩ dX8_net_66 (fun H locs hP hS => ?_)
      exact tr_iret C hP hS hr hlocks (tr_okS (P := (fun o => o = (r0, h0))) hk) dX8_net_69
    refine tr_loop (fun q => tr_Wd p l e r_X8_net s m args below meth c (MQ below (tr_Qi tr_M w r0 h0) args s 0 0 (tr_R tr_M w)) tr_M w 2 19 [(0, .ref (tr_ad w 0)), (1, .int q.1)] [] q.2) hk ?_ _ _ _ hP hS (lv_sub hl [1, 0] rfl)
    intro P19 hin19 hex19 q hk
    obtain ⟨tv12, th13⟩ := q
    intro H locs ls hP hS hl
    replace hk : tr_ok (f_X8_net_L19 tv12 th13) P19 := hk
    unfold f_X8_net_L19 at hk
    refine lv_iload_n hx hb dX8_net_19 rfl (lv_at hl 1 rfl) ?_
    refine lv_bipush (v := 37) hx hb dX8_net_20 (by decide) ?_
    refine lv_icmp_ge (tgt := 43) hx hb dX8_net_22 (by decide) (fun tc14 => ?_) (fun tc14 => ?_)
    · replace hk := tr_ift hk tc14
      replace hk := hex19 _ (tr_okS hk)
      replace hk : tr_ok (f_X8_net_E43 th13) (fun o => o = (r0, h0)) := hk
      exact j43_19 th13 hk _ _ _ hP hS (lv_sub hl [0] rfl)
    · replace hk := tr_iff hk tc14
      refine lv_aload_n hx hb dX8_net_25 rfl (lv_at hl 0 rfl) ?_
      refine gf_X8_16 C hP dX8_net_26 ?_
      refine lv_iload_n hx hb dX8_net_29 rfl (lv_at hl 1 rfl) ?_
      refine lv_aload_n hx hb dX8_net_30 rfl (lv_at hl 0 rfl) ?_
      refine gf_X8_13 C hP dX8_net_31 ?_
      refine lv_iload_n hx hb dX8_net_34 rfl (lv_at hl 1 rfl) ?_
      obtain ⟨tg15, hk⟩ := tr_okg hk
      refine tr_ial C hP (ar_M_2 w) tg15 dX8_net_35 ?_
      obtain ⟨tg16, hk⟩ := tr_okg hk
      refine tr_ias C hP hS (ar_M_3 w) tg16 dX8_net_36 (fun H locs hP hS => ?_)
      refine tr_th hk hP (fun th17 hk hP => ?_)
      obtain ⟨tv18, etv18, hk⟩ := tr_okd hk
      refine lv_iinc (v := tv18) (lv' := [(1, .int tv18), (0, .ref (tr_ad w 0))]) hx hb dX8_net_37 hl (k := 1) rfl (by rw [etv18]; rfl) (by decide) rfl (fun ls hl => ?_)
      refine lv_goto (tgt := 19) hx hb dX8_net_40 (by decide) ?_
      exact hin19 _ (tr_okS hk) _ _ _ hP hS (lv_sub hl [1, 0] rfl)
  · replace hk := tr_iff hk tc5
    refine lv_bipush (v := (-3)) hx hb dX8_net_14 (by decide) ?_
    exact tr_iret C hP hS hr hlocks (tr_okS (P := (fun o => o = (r0, h0))) hk) dX8_net_16
abbrev r_X8_closeRing : Room := { frames := 1, cells := 0, slots := 0, locals := 22 }
set_option maxHeartbeats 4000000 in
set_option maxRecDepth 100000 in
theorem c_X8_closeRing (l : Launch) (w : tr_E) (tn1 : Nat) (htn1 : tr_pg tn1) (tv901 : Int32) (h : tr_H) (h0 : tr_H) (hk : f_X8_closeRing tn1 tv901 h = some h0) : Met l yX8_closeRing (Cond.code yX8_closeRing cX8_closeRing 9 none :: tr_T) r_X8_closeRing (va_Pc [.ref (tr_ad w 0), .ref (tr_ad w tn1), .int tv901] (tr_Wo tr_M w h)) (tr_Qv tr_M w h0) 0 0 (tr_R tr_M w) := by
  refine tr_start (by decide) (Nat.le_refl _) ?_
  intro p e s m args below meth c C hr hlocks hargs hP
  have hx := C.1
  have hb := C.2.1
  have hS : va_S (tr_R tr_M w) s.heap s.heap [] := va_S.rf
  have hl := lv_entry ([.ref (tr_ad w 0), .ref (tr_ad w tn1), .int tv901]) (n := 9) (Nat.le_of_ble_eq_true rfl)
  rw [lg_entry_eq]
  generalize (lg_sl ([.ref (tr_ad w 0), .ref (tr_ad w tn1), .int tv901]) ++ List.replicate (9 - (lg_sl ([.ref (tr_ad w 0), .ref (tr_ad w tn1), .int tv901])).length) Slot.unset).toArray = ls at hl ⊢
  have hl : lv_has ls 9 [(0, .ref (tr_ad w 0)), (1, .ref (tr_ad w tn1)), (2, .int tv901)] := hl
  replace hk : tr_ok (f_X8_closeRing tn1 tv901 h) (fun o => o = h0) := ⟨_, hk, rfl⟩
  unfold f_X8_closeRing at hk
  refine lv_iconst (v := 0) hx hb dX8_closeRing_0 (by decide) ?_
  refine lv_istore_n (lv' := [(3, .int 0), (0, .ref (tr_ad w 0)), (1, .ref (tr_ad w tn1)), (2, .int tv901)]) hx hb dX8_closeRing_1 rfl hl (by decide) rfl (fun ls hl => ?_)
  refine lv_lconst (v := 0) hx hb dX8_closeRing_2 (by decide) ?_
  refine lv_lstore (lv' := [(4, .long 0), (3, .int 0), (0, .ref (tr_ad w 0)), (1, .ref (tr_ad w tn1)), (2, .int tv901)]) hx hb dX8_closeRing_3 hl (by decide) rfl (fun ls hl => ?_)
  refine lv_iconst (v := 0) hx hb dX8_closeRing_5 (by decide) ?_
  refine lv_istore (lv' := [(6, .int 0), (4, .long 0), (3, .int 0), (0, .ref (tr_ad w 0)), (1, .ref (tr_ad w tn1)), (2, .int tv901)]) hx hb dX8_closeRing_6 hl (by decide) rfl (fun ls hl => ?_)
  refine lv_iconst (v := 0) hx hb dX8_closeRing_8 (by decide) ?_
  refine lv_istore (lv' := [(7, .int 0), (6, .int 0), (4, .long 0), (3, .int 0), (0, .ref (tr_ad w 0)), (1, .ref (tr_ad w tn1)), (2, .int tv901)]) hx hb dX8_closeRing_9 hl (by decide) rfl (fun ls hl => ?_)
  have j86_11 : ∀ (tv1 : Int32) (tv2 : Int64) (tv3 : Int32), tr_ok (f_X8_closeRing_E86 h tv901 tv1 tv2 tv3) (fun o => o = h0) → tr_Wd p l e r_X8_closeRing s m args below meth c (MQ below (tr_Qv tr_M w h0) args s 0 0 (tr_R tr_M w)) tr_M w 9 86 [(0, .ref (tr_ad w 0)), (2, .int tv901), (3, .int tv1), (4, .long tv2), (6, .int tv3)] [] h := by
    intro tv1 tv2 tv3 hk H locs ls hP hS hl
    unfold f_X8_closeRing_E86 at hk
    refine lv_aload_n hx hb dX8_closeRing_86 rfl (lv_at hl 0 rfl) ?_
    refine lv_dup hx hb dX8_closeRing_87 rfl ?_
    refine gf_X8_109 C hP dX8_closeRing_88 ?_
    refine lv_iconst (v := 1) hx hb dX8_closeRing_91 (by decide) ?_
    refine lv_iadd hx hb dX8_closeRing_92 ?_
    refine pf_X8_109 C hP hS dX8_closeRing_93 (fun H locs hP hS => ?_)
    refine tr_th hk hP (fun th4 hk hP => ?_)
    refine lv_aload_n hx hb dX8_closeRing_96 rfl (lv_at hl 0 rfl) ?_
    refine lv_dup hx hb dX8_closeRing_97 rfl ?_
    refine gf_X8_112 C hP dX8_closeRing_98 ?_
    refine lv_lload hx hb dX8_closeRing_101 (lv_at hl 3 rfl) ?_
    refine lv_lor hx hb dX8_closeRing_103 ?_
    refine pf_X8_112 C hP hS dX8_closeRing_104 (fun H locs hP hS => ?_)
    refine tr_th hk hP (fun th5 hk hP => ?_)
    refine lv_aload_n hx hb dX8_closeRing_107 rfl (lv_at hl 0 rfl) ?_
    refine gf_X8_116 C hP dX8_closeRing_108 ?_
    have j134 : ∀ (tv6 : Int32), tr_ok (f_X8_closeRing_J134 tv1 tv901 tv2 tv3 th5 tv6) (fun o => o = h0) → tr_Wd p l e r_X8_closeRing s m args below meth c (MQ below (tr_Qv tr_M w h0) args s 0 0 (tr_R tr_M w)) tr_M w 9 134 [(0, .ref (tr_ad w 0)), (2, .int tv901), (3, .int tv1), (4, .long tv2), (6, .int tv3)] [.int tv6] th5 := by
      intro tv6 hk H locs ls hP hS hl
      unfold f_X8_closeRing_J134 at hk
      refine lv_istore (lv' := [(7, .int tv6), (0, .ref (tr_ad w 0)), (2, .int tv901), (3, .int tv1), (4, .long tv2), (6, .int tv3)]) hx hb dX8_closeRing_134 hl (by decide) rfl (fun ls hl => ?_)
      refine lv_iload hx hb dX8_closeRing_136 (lv_at hl 0 rfl) ?_
      have j161 : ∀ (th7 : tr_H), tr_ok (f_X8_closeRing_J161 tv6 tv1 tv901 tv2 tv3 th7) (fun o => o = h0) → tr_Wd p l e r_X8_closeRing s m args below meth c (MQ below (tr_Qv tr_M w h0) args s 0 0 (tr_R tr_M w)) tr_M w 9 161 [(0, .ref (tr_ad w 0)), (2, .int tv901), (3, .int tv1), (4, .long tv2), (6, .int tv3), (7, .int tv6)] [] th7 := by
        intro th7 hk H locs ls hP hS hl
        unfold f_X8_closeRing_J161 at hk
        refine lv_iload hx hb dX8_closeRing_161 (lv_at hl 5 rfl) ?_
        refine lv_if_ne (tgt := 181) hx hb dX8_closeRing_163 (by decide) (fun tc8 => ?_) (fun tc8 => ?_)
        · replace hk := tr_iff hk tc8
          refine lv_aload_n hx hb dX8_closeRing_181 rfl (lv_at hl 0 rfl) ?_
          refine lv_dup hx hb dX8_closeRing_182 rfl ?_
          refine gf_X8_122 C hP dX8_closeRing_183 ?_
          refine lv_lload hx hb dX8_closeRing_186 (lv_at hl 3 rfl) ?_
          refine lv_lor hx hb dX8_closeRing_188 ?_
          refine pf_X8_122 C hP hS dX8_closeRing_189 (fun H locs hP hS => ?_)
          refine tr_th hk hP (fun th9 hk hP => ?_)
          refine lv_aload_n hx hb dX8_closeRing_192 rfl (lv_at hl 0 rfl) ?_
          refine lv_dup hx hb dX8_closeRing_193 rfl ?_
          refine gf_X8_125 C hP dX8_closeRing_194 ?_
          refine lv_iload hx hb dX8_closeRing_197 (lv_at hl 4 rfl) ?_
          refine lv_ior hx hb dX8_closeRing_199 ?_
          refine pf_X8_125 C hP hS dX8_closeRing_200 (fun H locs hP hS => ?_)
          refine tr_th hk hP (fun th10 hk hP => ?_)
          exact tr_vret C hP hS hr hlocks (tr_okS (P := (fun o => o = h0)) hk) dX8_closeRing_203
        · replace hk := tr_ift hk tc8
          refine lv_iload_n hx hb dX8_closeRing_166 rfl (lv_at hl 2 rfl) ?_
          refine lv_aload_n hx hb dX8_closeRing_167 rfl (lv_at hl 0 rfl) ?_
          refine gf_X8_116 C hP dX8_closeRing_168 ?_
          refine lv_imul hx hb dX8_closeRing_171 ?_
          refine lv_aload_n hx hb dX8_closeRing_172 rfl (lv_at hl 0 rfl) ?_
          refine gf_X8_119 C hP dX8_closeRing_173 ?_
          refine lv_iload_n hx hb dX8_closeRing_176 rfl (lv_at hl 1 rfl) ?_
          refine lv_imul hx hb dX8_closeRing_177 ?_
          refine lv_icmp_ne (tgt := 203) hx hb dX8_closeRing_178 (by decide) (fun tc11 => ?_) (fun tc11 => ?_)
          · replace hk := tr_iff hk tc11
            exact tr_vret C hP hS hr hlocks (tr_okS (P := (fun o => o = h0)) hk) dX8_closeRing_203
          · replace hk := tr_ift hk tc11
            refine lv_aload_n hx hb dX8_closeRing_181 rfl (lv_at hl 0 rfl) ?_
            refine lv_dup hx hb dX8_closeRing_182 rfl ?_
            refine gf_X8_122 C hP dX8_closeRing_183 ?_
            refine lv_lload hx hb dX8_closeRing_186 (lv_at hl 3 rfl) ?_
            refine lv_lor hx hb dX8_closeRing_188 ?_
            refine pf_X8_122 C hP hS dX8_closeRing_189 (fun H locs hP hS => ?_)
            refine tr_th hk hP (fun th12 hk hP => ?_)
            refine lv_aload_n hx hb dX8_closeRing_192 rfl (lv_at hl 0 rfl) ?_
            refine lv_dup hx hb dX8_closeRing_193 rfl ?_
            refine gf_X8_125 C hP dX8_closeRing_194 ?_
            refine lv_iload hx hb dX8_closeRing_197 (lv_at hl 4 rfl) ?_
            refine lv_ior hx hb dX8_closeRing_199 ?_
            refine pf_X8_125 C hP hS dX8_closeRing_200 (fun H locs hP hS => ?_)
            refine tr_th hk hP (fun th13 hk hP => ?_)
            exact tr_vret C hP hS hr hlocks (tr_okS (P := (fun o => o = h0)) hk) dX8_closeRing_203
      refine lv_if_eq (tgt := 161) hx hb dX8_closeRing_138 (by decide) (fun tc14 => ?_) (fun tc14 => ?_)
      · replace hk := tr_ift hk tc14
        exact j161 th5 hk _ _ _ hP hS (lv_sub hl [1, 2, 3, 4, 5, 0] rfl)
      · replace hk := tr_iff hk tc14
        refine lv_aload_n hx hb dX8_closeRing_141 rfl (lv_at hl 1 rfl) ?_
        refine lv_iload_n hx hb dX8_closeRing_142 rfl (lv_at hl 3 rfl) ?_
        refine pf_X8_119 C hP hS dX8_closeRing_143 (fun H locs hP hS => ?_)
        refine tr_th hk hP (fun th15 hk hP => ?_)
        refine lv_aload_n hx hb dX8_closeRing_146 rfl (lv_at hl 1 rfl) ?_
        refine lv_iload_n hx hb dX8_closeRing_147 rfl (lv_at hl 2 rfl) ?_
        refine pf_X8_116 C hP hS dX8_closeRing_148 (fun H locs hP hS => ?_)
        refine tr_th hk hP (fun th16 hk hP => ?_)
        refine lv_aload_n hx hb dX8_closeRing_151 rfl (lv_at hl 1 rfl) ?_
        refine lv_lconst (v := 0) hx hb dX8_closeRing_152 (by decide) ?_
        refine pf_X8_122 C hP hS dX8_closeRing_153 (fun H locs hP hS => ?_)
        refine tr_th hk hP (fun th17 hk hP => ?_)
        refine lv_aload_n hx hb dX8_closeRing_156 rfl (lv_at hl 1 rfl) ?_
        refine lv_iconst (v := 0) hx hb dX8_closeRing_157 (by decide) ?_
        refine pf_X8_125 C hP hS dX8_closeRing_158 (fun H locs hP hS => ?_)
        refine tr_th hk hP (fun th18 hk hP => ?_)
        exact j161 th18 hk _ _ _ hP hS (lv_sub hl [1, 2, 3, 4, 5, 0] rfl)
    have j129 : tr_ok (f_X8_closeRing_J129 tv1 tv901 tv2 tv3 th5) (fun o => o = h0) → tr_Wd p l e r_X8_closeRing s m args below meth c (MQ below (tr_Qv tr_M w h0) args s 0 0 (tr_R tr_M w)) tr_M w 9 129 [(0, .ref (tr_ad w 0)), (2, .int tv901), (3, .int tv1), (4, .long tv2), (6, .int tv3)] [] th5 := by
      intro  hk H locs ls hP hS hl
      unfold f_X8_closeRing_J129 at hk
      refine lv_iconst (v := 1) hx hb dX8_closeRing_129 (by decide) ?_
      refine lv_goto (tgt := 134) hx hb dX8_closeRing_130 (by decide) ?_
      exact j134 1 hk _ _ _ hP hS (lv_sub hl [0, 1, 2, 3, 4] rfl)
    refine lv_if_eq (tgt := 129) hx hb dX8_closeRing_111 (by decide) (fun tc19 => ?_) (fun tc19 => ?_)
    · replace hk := tr_ift hk tc19
      exact j129 hk _ _ _ hP hS (lv_sub hl [0, 1, 2, 3, 4] rfl)
    · replace hk := tr_iff hk tc19
      refine lv_iload_n hx hb dX8_closeRing_114 rfl (lv_at hl 2 rfl) ?_
      refine lv_aload_n hx hb dX8_closeRing_115 rfl (lv_at hl 0 rfl) ?_
      refine gf_X8_116 C hP dX8_closeRing_116 ?_
      refine lv_imul hx hb dX8_closeRing_119 ?_
      refine lv_aload_n hx hb dX8_closeRing_120 rfl (lv_at hl 0 rfl) ?_
      refine gf_X8_119 C hP dX8_closeRing_121 ?_
      refine lv_iload_n hx hb dX8_closeRing_124 rfl (lv_at hl 1 rfl) ?_
      refine lv_imul hx hb dX8_closeRing_125 ?_
      refine lv_icmp_le (tgt := 133) hx hb dX8_closeRing_126 (by decide) (fun tc20 => ?_) (fun tc20 => ?_)
      · replace hk := tr_ift hk tc20
        refine lv_iconst (v := 0) hx hb dX8_closeRing_133 (by decide) ?_
        exact j134 0 hk _ _ _ hP hS (lv_sub hl [0, 1, 2, 3, 4] rfl)
      · replace hk := tr_iff hk tc20
        exact j129 hk _ _ _ hP hS (lv_sub hl [0, 1, 2, 3, 4] rfl)
  refine tr_loop (fun q => tr_Wd p l e r_X8_closeRing s m args below meth c (MQ below (tr_Qv tr_M w h0) args s 0 0 (tr_R tr_M w)) tr_M w 9 11 [(0, .ref (tr_ad w 0)), (1, .ref (tr_ad w tn1)), (2, .int tv901), (3, .int q.1), (4, .long q.2.1), (6, .int q.2.2.1), (7, .int q.2.2.2)] [] h) hk ?_ _ _ _ hP hS (lv_sub hl [4, 5, 6, 3, 2, 1, 0] rfl)
  intro P11 hin11 hex11 q hk
  obtain ⟨tv21, tv22, tv23, tv24⟩ := q
  intro H locs ls hP hS hl
  replace hk : tr_ok (f_X8_closeRing_L11 tv901 h tn1 tv21 tv22 tv23 tv24) P11 := hk
  unfold f_X8_closeRing_L11 at hk
  refine lv_iload hx hb dX8_closeRing_11 (lv_at hl 6 rfl) ?_
  refine lv_iload_n hx hb dX8_closeRing_13 rfl (lv_at hl 2 rfl) ?_
  refine lv_icmp_ge (tgt := 86) hx hb dX8_closeRing_14 (by decide) (fun tc25 => ?_) (fun tc25 => ?_)
  · replace hk := tr_ift hk tc25
    replace hk := hex11 _ (tr_okS hk)
    replace hk : tr_ok (f_X8_closeRing_E86 h tv901 tv21 tv22 tv23) (fun o => o = h0) := hk
    exact j86_11 tv21 tv22 tv23 hk _ _ _ hP hS (lv_sub hl [0, 2, 3, 4, 5] rfl)
  · replace hk := tr_iff hk tc25
    refine lv_aload_n hx hb dX8_closeRing_17 rfl (lv_at hl 0 rfl) ?_
    refine gf_X8_41 C hP dX8_closeRing_18 ?_
    refine lv_iload hx hb dX8_closeRing_21 (lv_at hl 6 rfl) ?_
    refine lv_iconst (v := 1) hx hb dX8_closeRing_23 (by decide) ?_
    refine lv_iadd hx hb dX8_closeRing_24 ?_
    refine lv_iload_n hx hb dX8_closeRing_25 rfl (lv_at hl 2 rfl) ?_
    obtain ⟨tg26, hk⟩ := tr_okn hk
    refine lv_irem hx hb dX8_closeRing_26 tg26 ?_
    refine tr_ti hk (fun tv27 hk => ?_)
    obtain ⟨tg28, hk⟩ := tr_okg hk
    refine tr_ial C hP (ar_M_11 w) tg28 dX8_closeRing_27 ?_
    refine tr_ti hk (fun tv29 hk => ?_)
    refine lv_istore (lv' := [(8, .int tv29), (0, .ref (tr_ad w 0)), (1, .ref (tr_ad w tn1)), (2, .int tv901), (3, .int tv21), (4, .long tv22), (6, .int tv23), (7, .int tv24)]) hx hb dX8_closeRing_28 hl (by decide) rfl (fun ls hl => ?_)
    refine lv_iload_n hx hb dX8_closeRing_30 rfl (lv_at hl 4 rfl) ?_
    refine lv_aload_n hx hb dX8_closeRing_31 rfl (lv_at hl 2 rfl) ?_
    refine lv_aload_n hx hb dX8_closeRing_32 rfl (lv_at hl 1 rfl) ?_
    refine gf_X8_41 C hP dX8_closeRing_33 ?_
    refine lv_iload hx hb dX8_closeRing_36 (lv_at hl 7 rfl) ?_
    obtain ⟨tg30, hk⟩ := tr_okg hk
    refine tr_ial C hP (ar_M_11 w) tg30 dX8_closeRing_38 ?_
    refine lv_iload hx hb dX8_closeRing_39 (lv_at hl 0 rfl) ?_
    obtain ⟨tv32, tq31, hk⟩ := tr_okb hk
    refine tr_csi (As := [.ref (tr_ad w tn1), .int (h.1 11 tv24.toNatClampNeg), .int tv29]) (rest := [.int tv21]) C hP hS hl (c_X8_minutesOf l w tn1 htn1 (h.1 11 tv24.toNatClampNeg) tv29 h tv32 tq31) mz_X8_minutesOf ml_X8_67 rfl rfl ⟨Nat.le_of_ble_eq_true rfl, Nat.le_of_ble_eq_true rfl⟩ rfl rfl (Nat.le_of_ble_eq_true rfl) ⟨Nat.le_refl _, Nat.le_refl _⟩ dX8_closeRing_41 (fun H locs hP hS => ?_)
    refine lv_iadd hx hb dX8_closeRing_44 ?_
    refine tr_ti hk (fun tv33 hk => ?_)
    refine lv_istore_n (lv' := [(3, .int tv33), (8, .int tv29), (0, .ref (tr_ad w 0)), (1, .ref (tr_ad w tn1)), (2, .int tv901), (4, .long tv22), (6, .int tv23), (7, .int tv24)]) hx hb dX8_closeRing_45 rfl hl (by decide) rfl (fun ls hl => ?_)
    refine lv_lload hx hb dX8_closeRing_46 (lv_at hl 5 rfl) ?_
    refine lv_lconst (v := 1) hx hb dX8_closeRing_48 (by decide) ?_
    refine lv_bipush (v := 6) hx hb dX8_closeRing_49 (by decide) ?_
    refine lv_aload_n hx hb dX8_closeRing_51 rfl (lv_at hl 2 rfl) ?_
    refine gf_X8_41 C hP dX8_closeRing_52 ?_
    refine lv_iload hx hb dX8_closeRing_55 (lv_at hl 7 rfl) ?_
    obtain ⟨tg34, hk⟩ := tr_okg hk
    refine tr_ial C hP (ar_M_11 w) tg34 dX8_closeRing_57 ?_
    refine lv_imul hx hb dX8_closeRing_58 ?_
    refine lv_iload hx hb dX8_closeRing_59 (lv_at hl 1 rfl) ?_
    refine lv_iadd hx hb dX8_closeRing_61 ?_
    refine lv_lshl hx hb dX8_closeRing_62 rfl ?_
    refine lv_lor hx hb dX8_closeRing_63 ?_
    refine tr_tl hk (fun tv35 hk => ?_)
    refine lv_lstore (lv' := [(4, .long tv35), (3, .int tv33), (8, .int tv29), (0, .ref (tr_ad w 0)), (1, .ref (tr_ad w tn1)), (2, .int tv901), (6, .int tv23), (7, .int tv24)]) hx hb dX8_closeRing_64 hl (by decide) rfl (fun ls hl => ?_)
    refine lv_iload hx hb dX8_closeRing_66 (lv_at hl 6 rfl) ?_
    refine lv_iconst (v := 1) hx hb dX8_closeRing_68 (by decide) ?_
    refine lv_aload_n hx hb dX8_closeRing_69 rfl (lv_at hl 3 rfl) ?_
    refine gf_X8_41 C hP dX8_closeRing_70 ?_
    refine lv_iload hx hb dX8_closeRing_73 (lv_at hl 7 rfl) ?_
    obtain ⟨tg36, hk⟩ := tr_okg hk
    refine tr_ial C hP (ar_M_11 w) tg36 dX8_closeRing_75 ?_
    refine lv_ishl hx hb dX8_closeRing_76 ?_
    refine lv_ior hx hb dX8_closeRing_77 ?_
    refine tr_ti hk (fun tv37 hk => ?_)
    refine lv_istore (lv' := [(6, .int tv37), (4, .long tv35), (3, .int tv33), (8, .int tv29), (0, .ref (tr_ad w 0)), (1, .ref (tr_ad w tn1)), (2, .int tv901), (7, .int tv24)]) hx hb dX8_closeRing_78 hl (by decide) rfl (fun ls hl => ?_)
    obtain ⟨tv38, etv38, hk⟩ := tr_okd hk
    refine lv_iinc (v := tv38) (lv' := [(7, .int tv38), (6, .int tv37), (4, .long tv35), (3, .int tv33), (8, .int tv29), (0, .ref (tr_ad w 0)), (1, .ref (tr_ad w tn1)), (2, .int tv901)]) hx hb dX8_closeRing_80 hl (k := 7) rfl (by rw [etv38]; rfl) (by decide) rfl (fun ls hl => ?_)
    refine lv_goto (tgt := 11) hx hb dX8_closeRing_83 (by decide) ?_
    exact hin11 _ (tr_okS hk) _ _ _ hP hS (lv_sub hl [5, 6, 7, 3, 2, 1, 0] rfl)
abbrev r_X8_isIn : Room := { frames := 0, cells := 0, slots := 0, locals := 0 }
set_option maxHeartbeats 4000000 in
set_option maxRecDepth 100000 in
theorem c_X8_isIn (l : Launch) (w : tr_E) (tv901 : Int32) (tv902 : Int32) (h : tr_H) (r0 : Int32) (hk : f_X8_isIn tv901 tv902 h = some r0) : Met l yX8_isIn (Cond.code yX8_isIn cX8_isIn 5 (some .boolean) :: tr_T) r_X8_isIn (va_Pc [.ref (tr_ad w 11), .int tv901, .int tv902] (tr_Wo tr_M w h)) (tr_Qi tr_M w r0 h) 0 0 (tr_R tr_M w) := by
  refine tr_start (by decide) (Nat.le_refl _) ?_
  intro p e s m args below meth c C hr hlocks hargs hP
  have hx := C.1
  have hb := C.2.1
  have hS : va_S (tr_R tr_M w) s.heap s.heap [] := va_S.rf
  have hl := lv_entry ([.ref (tr_ad w 11), .int tv901, .int tv902]) (n := 5) (Nat.le_of_ble_eq_true rfl)
  rw [lg_entry_eq]
  generalize (lg_sl ([.ref (tr_ad w 11), .int tv901, .int tv902]) ++ List.replicate (5 - (lg_sl ([.ref (tr_ad w 11), .int tv901, .int tv902])).length) Slot.unset).toArray = ls at hl ⊢
  have hl : lv_has ls 5 [(0, .ref (tr_ad w 11)), (1, .int tv901), (2, .int tv902)] := hl
  replace hk : tr_ok (f_X8_isIn tv901 tv902 h) (fun o => o = r0) := ⟨_, hk, rfl⟩
  unfold f_X8_isIn at hk
  refine lv_iconst (v := 0) hx hb dX8_isIn_0 (by decide) ?_
  refine lv_istore_n (lv' := [(3, .int 0), (0, .ref (tr_ad w 11)), (1, .int tv901), (2, .int tv902)]) hx hb dX8_isIn_1 rfl hl (by decide) rfl (fun ls hl => ?_)
  refine lv_iconst (v := 0) hx hb dX8_isIn_2 (by decide) ?_
  refine lv_istore (lv' := [(4, .int 0), (3, .int 0), (0, .ref (tr_ad w 11)), (1, .int tv901), (2, .int tv902)]) hx hb dX8_isIn_3 hl (by decide) rfl (fun ls hl => ?_)
  have j35_5 : ∀ (tv1 : Int32), tr_ok (f_X8_isIn_E35 tv1) (fun o => o = r0) → tr_Wd p l e r_X8_isIn s m args below meth c (MQ below (tr_Qi tr_M w r0 h) args s 0 0 (tr_R tr_M w)) tr_M w 5 35 [(3, .int tv1)] [] h := by
    intro tv1 hk H locs ls hP hS hl
    unfold f_X8_isIn_E35 at hk
    refine lv_iload_n hx hb dX8_isIn_35 rfl (lv_at hl 0 rfl) ?_
    obtain ⟨tg2, hk⟩ := tr_okz hk
    exact tr_zret C hP hS hr hlocks tg2 (congrArg (fun x => (x, h)) (tr_okS (P := (fun o => o = r0)) hk)) dX8_isIn_36
  refine tr_loop (fun q => tr_Wd p l e r_X8_isIn s m args below meth c (MQ below (tr_Qi tr_M w r0 h) args s 0 0 (tr_R tr_M w)) tr_M w 5 5 [(0, .ref (tr_ad w 11)), (1, .int tv901), (2, .int tv902), (3, .int q.1), (4, .int q.2)] [] h) hk ?_ _ _ _ hP hS (lv_sub hl [2, 3, 4, 1, 0] rfl)
  intro P5 hin5 hex5 q hk
  obtain ⟨tv3, tv4⟩ := q
  intro H locs ls hP hS hl
  replace hk : tr_ok (f_X8_isIn_L5 tv901 h tv902 tv3 tv4) P5 := hk
  unfold f_X8_isIn_L5 at hk
  refine lv_iload hx hb dX8_isIn_5 (lv_at hl 4 rfl) ?_
  refine lv_iload_n hx hb dX8_isIn_7 rfl (lv_at hl 1 rfl) ?_
  refine lv_icmp_ge (tgt := 35) hx hb dX8_isIn_8 (by decide) (fun tc5 => ?_) (fun tc5 => ?_)
  · replace hk := tr_ift hk tc5
    replace hk := hex5 _ (tr_okS hk)
    replace hk : tr_ok (f_X8_isIn_E35 tv3) (fun o => o = r0) := hk
    exact j35_5 tv3 hk _ _ _ hP hS (lv_sub hl [3] rfl)
  · replace hk := tr_iff hk tc5
    refine lv_iload_n hx hb dX8_isIn_11 rfl (lv_at hl 3 rfl) ?_
    refine lv_if_ne (tgt := 23) hx hb dX8_isIn_12 (by decide) (fun tc6 => ?_) (fun tc6 => ?_)
    · replace hk := tr_iff hk tc6
      refine lv_iconst (v := 1) hx hb dX8_isIn_23 (by decide) ?_
      refine lv_goto (tgt := 28) hx hb dX8_isIn_24 (by decide) ?_
      refine lv_istore_n (lv' := [(3, .int 1), (0, .ref (tr_ad w 11)), (1, .int tv901), (2, .int tv902), (4, .int tv4)]) hx hb dX8_isIn_28 rfl hl (by decide) rfl (fun ls hl => ?_)
      obtain ⟨tv7, etv7, hk⟩ := tr_okd hk
      refine lv_iinc (v := tv7) (lv' := [(4, .int tv7), (3, .int 1), (0, .ref (tr_ad w 11)), (1, .int tv901), (2, .int tv902)]) hx hb dX8_isIn_29 hl (k := 4) rfl (by rw [etv7]; rfl) (by decide) rfl (fun ls hl => ?_)
      refine lv_goto (tgt := 5) hx hb dX8_isIn_32 (by decide) ?_
      exact hin5 _ (tr_okS hk) _ _ _ hP hS (lv_sub hl [2, 3, 4, 1, 0] rfl)
    · replace hk := tr_ift hk tc6
      refine lv_aload_n hx hb dX8_isIn_15 rfl (lv_at hl 0 rfl) ?_
      refine lv_iload hx hb dX8_isIn_16 (lv_at hl 4 rfl) ?_
      obtain ⟨tg8, hk⟩ := tr_okg hk
      refine tr_ial C hP (ar_M_11 w) tg8 dX8_isIn_18 ?_
      refine lv_iload_n hx hb dX8_isIn_19 rfl (lv_at hl 2 rfl) ?_
      refine lv_icmp_ne (tgt := 27) hx hb dX8_isIn_20 (by decide) (fun tc9 => ?_) (fun tc9 => ?_)
      · replace hk := tr_iff hk tc9
        refine lv_iconst (v := 0) hx hb dX8_isIn_27 (by decide) ?_
        refine lv_istore_n (lv' := [(3, .int 0), (0, .ref (tr_ad w 11)), (1, .int tv901), (2, .int tv902), (4, .int tv4)]) hx hb dX8_isIn_28 rfl hl (by decide) rfl (fun ls hl => ?_)
        obtain ⟨tv10, etv10, hk⟩ := tr_okd hk
        refine lv_iinc (v := tv10) (lv' := [(4, .int tv10), (3, .int 0), (0, .ref (tr_ad w 11)), (1, .int tv901), (2, .int tv902)]) hx hb dX8_isIn_29 hl (k := 4) rfl (by rw [etv10]; rfl) (by decide) rfl (fun ls hl => ?_)
        refine lv_goto (tgt := 5) hx hb dX8_isIn_32 (by decide) ?_
        exact hin5 _ (tr_okS hk) _ _ _ hP hS (lv_sub hl [2, 3, 4, 1, 0] rfl)
      · replace hk := tr_ift hk tc9
        refine lv_iconst (v := 1) hx hb dX8_isIn_23 (by decide) ?_
        refine lv_goto (tgt := 28) hx hb dX8_isIn_24 (by decide) ?_
        refine lv_istore_n (lv' := [(3, .int 1), (0, .ref (tr_ad w 11)), (1, .int tv901), (2, .int tv902), (4, .int tv4)]) hx hb dX8_isIn_28 rfl hl (by decide) rfl (fun ls hl => ?_)
        obtain ⟨tv11, etv11, hk⟩ := tr_okd hk
        refine lv_iinc (v := tv11) (lv' := [(4, .int tv11), (3, .int 1), (0, .ref (tr_ad w 11)), (1, .int tv901), (2, .int tv902)]) hx hb dX8_isIn_29 hl (k := 4) rfl (by rw [etv11]; rfl) (by decide) rfl (fun ls hl => ?_)
        refine lv_goto (tgt := 5) hx hb dX8_isIn_32 (by decide) ?_
        exact hin5 _ (tr_okS hk) _ _ _ hP hS (lv_sub hl [2, 3, 4, 1, 0] rfl)
abbrev r_X8_ringsFrom : Room := { frames := 2, cells := 0, slots := 0, locals := 50 }
set_option maxHeartbeats 4000000 in
set_option maxRecDepth 100000 in
theorem c_X8_ringsFrom (l : Launch) (w : tr_E) (tn1 : Nat) (htn1 : tr_pg tn1) (tv901 : Int32) (tv902 : Int32) (h : tr_H) (h0 : tr_H) (hk : f_X8_ringsFrom tn1 tv901 tv902 h = some h0) : Met l yX8_ringsFrom (Cond.code yX8_ringsFrom cX8_ringsFrom 7 none :: tr_T) r_X8_ringsFrom (va_Pc [.ref (tr_ad w 0), .ref (tr_ad w tn1), .int tv901, .int tv902] (tr_Wo tr_M w h)) (tr_Qv tr_M w h0) 0 0 (tr_R tr_M w) := by
  refine tr_start (by decide) (Nat.le_refl _) ?_
  intro p e s m args below meth c C hr hlocks hargs hP
  have hx := C.1
  have hb := C.2.1
  have hS : va_S (tr_R tr_M w) s.heap s.heap [] := va_S.rf
  have hl := lv_entry ([.ref (tr_ad w 0), .ref (tr_ad w tn1), .int tv901, .int tv902]) (n := 7) (Nat.le_of_ble_eq_true rfl)
  rw [lg_entry_eq]
  generalize (lg_sl ([.ref (tr_ad w 0), .ref (tr_ad w tn1), .int tv901, .int tv902]) ++ List.replicate (7 - (lg_sl ([.ref (tr_ad w 0), .ref (tr_ad w tn1), .int tv901, .int tv902])).length) Slot.unset).toArray = ls at hl ⊢
  have hl : lv_has ls 7 [(0, .ref (tr_ad w 0)), (1, .ref (tr_ad w tn1)), (2, .int tv901), (3, .int tv902)] := hl
  replace hk : tr_ok (f_X8_ringsFrom tn1 tv901 tv902 h) (fun o => o = h0) := ⟨_, hk, rfl⟩
  unfold f_X8_ringsFrom at hk
  refine lv_aload_n hx hb dX8_ringsFrom_0 rfl (lv_at hl 0 rfl) ?_
  refine gf_X8_41 C hP dX8_ringsFrom_1 ?_
  refine lv_iconst (v := 0) hx hb dX8_ringsFrom_4 (by decide) ?_
  refine lv_iload_n hx hb dX8_ringsFrom_5 rfl (lv_at hl 2 rfl) ?_
  refine tr_ias C hP hS (ar_M_11 w) (show ¬ ((0 : Int32) < 0 ∨ 6 ≤ (0 : Int32).toNatClampNeg) by decide) dX8_ringsFrom_6 (fun H locs hP hS => ?_)
  refine tr_th hk hP (fun th1 hk hP => ?_)
  refine lv_aload_n hx hb dX8_ringsFrom_7 rfl (lv_at hl 0 rfl) ?_
  refine gf_X8_44 C hP dX8_ringsFrom_8 ?_
  refine lv_iconst (v := 0) hx hb dX8_ringsFrom_11 (by decide) ?_
  refine lv_iload_n hx hb dX8_ringsFrom_12 rfl (lv_at hl 2 rfl) ?_
  refine tr_ias C hP hS (ar_M_12 w) (show ¬ ((0 : Int32) < 0 ∨ 6 ≤ (0 : Int32).toNatClampNeg) by decide) dX8_ringsFrom_13 (fun H locs hP hS => ?_)
  refine tr_th hk hP (fun th2 hk hP => ?_)
  refine lv_iconst (v := 1) hx hb dX8_ringsFrom_14 (by decide) ?_
  refine lv_istore (lv' := [(4, .int 1), (0, .ref (tr_ad w 0)), (1, .ref (tr_ad w tn1)), (2, .int tv901), (3, .int tv902)]) hx hb dX8_ringsFrom_15 hl (by decide) rfl (fun ls hl => ?_)
  have j155_17 : ∀ (th3 : tr_H), tr_ok (f_X8_ringsFrom_E155 th3) (fun o => o = h0) → tr_Wd p l e r_X8_ringsFrom s m args below meth c (MQ below (tr_Qv tr_M w h0) args s 0 0 (tr_R tr_M w)) tr_M w 7 155 [] [] th3 := by
    intro th3 hk H locs ls hP hS hl
    unfold f_X8_ringsFrom_E155 at hk
    exact tr_vret C hP hS hr hlocks (tr_okS (P := (fun o => o = h0)) hk) dX8_ringsFrom_155
  refine tr_loop (fun q => tr_Wd p l e r_X8_ringsFrom s m args below meth c (MQ below (tr_Qv tr_M w h0) args s 0 0 (tr_R tr_M w)) tr_M w 7 17 [(0, .ref (tr_ad w 0)), (1, .ref (tr_ad w tn1)), (2, .int tv901), (3, .int tv902), (4, .int q.1)] [] q.2) hk ?_ _ _ _ hP hS (lv_sub hl [1, 2, 3, 4, 0] rfl)
  intro P17 hin17 hex17 q hk
  obtain ⟨tv4, th5⟩ := q
  intro H locs ls hP hS hl
  replace hk : tr_ok (f_X8_ringsFrom_L17 tn1 tv901 tv902 tv4 th5) P17 := hk
  unfold f_X8_ringsFrom_L17 at hk
  refine lv_iload hx hb dX8_ringsFrom_17 (lv_at hl 4 rfl) ?_
  refine lv_if_le (tgt := 155) hx hb dX8_ringsFrom_19 (by decide) (fun tc6 => ?_) (fun tc6 => ?_)
  · replace hk := tr_ift hk tc6
    replace hk := hex17 _ (tr_okS hk)
    replace hk : tr_ok (f_X8_ringsFrom_E155 th5) (fun o => o = h0) := hk
    exact j155_17 th5 hk _ _ _ hP hS (lv_sub hl [] rfl)
  · replace hk := tr_iff hk tc6
    refine lv_aload_n hx hb dX8_ringsFrom_22 rfl (lv_at hl 0 rfl) ?_
    refine gf_X8_41 C hP dX8_ringsFrom_23 ?_
    refine lv_iload hx hb dX8_ringsFrom_26 (lv_at hl 4 rfl) ?_
    refine lv_iconst (v := 1) hx hb dX8_ringsFrom_28 (by decide) ?_
    refine lv_isub hx hb dX8_ringsFrom_29 ?_
    refine tr_ti hk (fun tv7 hk => ?_)
    obtain ⟨tg8, hk⟩ := tr_okg hk
    refine tr_ial C hP (ar_M_11 w) tg8 dX8_ringsFrom_30 ?_
    refine tr_ti hk (fun tv9 hk => ?_)
    refine lv_istore (lv' := [(5, .int tv9), (0, .ref (tr_ad w 0)), (1, .ref (tr_ad w tn1)), (2, .int tv901), (3, .int tv902), (4, .int tv4)]) hx hb dX8_ringsFrom_31 hl (by decide) rfl (fun ls hl => ?_)
    refine lv_aload_n hx hb dX8_ringsFrom_33 rfl (lv_at hl 1 rfl) ?_
    refine gf_X8_44 C hP dX8_ringsFrom_34 ?_
    refine lv_iload hx hb dX8_ringsFrom_37 (lv_at hl 5 rfl) ?_
    refine lv_iconst (v := 1) hx hb dX8_ringsFrom_39 (by decide) ?_
    refine lv_isub hx hb dX8_ringsFrom_40 ?_
    refine tr_ti hk (fun tv10 hk => ?_)
    obtain ⟨tg11, hk⟩ := tr_okg hk
    refine tr_ial C hP (ar_M_12 w) tg11 dX8_ringsFrom_41 ?_
    refine tr_ti hk (fun tv12 hk => ?_)
    refine lv_istore (lv' := [(6, .int tv12), (5, .int tv9), (0, .ref (tr_ad w 0)), (1, .ref (tr_ad w tn1)), (2, .int tv901), (3, .int tv902), (4, .int tv4)]) hx hb dX8_ringsFrom_42 hl (by decide) rfl (fun ls hl => ?_)
    refine lv_aload_n hx hb dX8_ringsFrom_44 rfl (lv_at hl 2 rfl) ?_
    refine gf_X8_44 C hP dX8_ringsFrom_45 ?_
    refine lv_iload hx hb dX8_ringsFrom_48 (lv_at hl 6 rfl) ?_
    refine lv_iconst (v := 1) hx hb dX8_ringsFrom_50 (by decide) ?_
    refine lv_isub hx hb dX8_ringsFrom_51 ?_
    refine tr_ti hk (fun tv13 hk => ?_)
    refine lv_dup2_11 hx hb dX8_ringsFrom_52 rfl rfl ?_
    obtain ⟨tg14, hk⟩ := tr_okg hk
    refine tr_ial C hP (ar_M_12 w) tg14 dX8_ringsFrom_53 ?_
    refine lv_iconst (v := 1) hx hb dX8_ringsFrom_54 (by decide) ?_
    refine lv_iadd hx hb dX8_ringsFrom_55 ?_
    obtain ⟨tg15, hk⟩ := tr_okg hk
    refine tr_ias C hP hS (ar_M_12 w) tg15 dX8_ringsFrom_56 (fun H locs hP hS => ?_)
    refine tr_th hk hP (fun th16 hk hP => ?_)
    refine lv_iload hx hb dX8_ringsFrom_57 (lv_at hl 0 rfl) ?_
    refine lv_aload_n hx hb dX8_ringsFrom_59 rfl (lv_at hl 3 rfl) ?_
    refine lv_iconst (v := 0) hx hb dX8_ringsFrom_60 (by decide) ?_
    refine tr_ial C hP (tr_pg_ar htn1 w) (show ¬ ((0 : Int32) < 0 ∨ 37 ≤ (0 : Int32).toNatClampNeg) by decide) dX8_ringsFrom_61 ?_
    refine lv_icmp_lt (tgt := 71) hx hb dX8_ringsFrom_62 (by decide) (fun tc17 => ?_) (fun tc17 => ?_)
    · replace hk := tr_ift hk tc17
      refine lv_iload hx hb dX8_ringsFrom_71 (lv_at hl 0 rfl) ?_
      refine lv_iload_n hx hb dX8_ringsFrom_73 rfl (lv_at hl 4 rfl) ?_
      have j98 : tr_ok (f_X8_ringsFrom_J98 tn1 tv9 tv12 th16 tv4 tv902 tv901) P17 → tr_Wd p l e r_X8_ringsFrom s m args below meth c (MQ below (tr_Qv tr_M w h0) args s 0 0 (tr_R tr_M w)) tr_M w 7 98 [(0, .ref (tr_ad w 0)), (1, .ref (tr_ad w tn1)), (2, .int tv901), (3, .int tv902), (4, .int tv4), (5, .int tv9), (6, .int tv12)] [] th16 := by
        intro  hk H locs ls hP hS hl
        unfold f_X8_ringsFrom_J98 at hk
        refine lv_aload_n hx hb dX8_ringsFrom_98 rfl (lv_at hl 1 rfl) ?_
        refine lv_iload hx hb dX8_ringsFrom_99 (lv_at hl 5 rfl) ?_
        refine lv_iload hx hb dX8_ringsFrom_101 (lv_at hl 6 rfl) ?_
        obtain ⟨tv19, tq18, hk⟩ := tr_okb hk
        refine tr_csi (As := [.ref (tr_ad w tn1), .int tv9, .int tv12]) (rest := []) C hP hS hl (c_X8_isThere l w tn1 htn1 tv9 tv12 th16 tv19 tq18) mz_X8_isThere ml_X8_79 rfl rfl ⟨Nat.le_of_ble_eq_true rfl, Nat.le_of_ble_eq_true rfl⟩ rfl rfl (Nat.le_of_ble_eq_true rfl) ⟨Nat.le_refl _, Nat.le_refl _⟩ dX8_ringsFrom_103 (fun H locs hP hS => ?_)
        refine lv_if_eq (tgt := 152) hx hb dX8_ringsFrom_106 (by decide) (fun tc20 => ?_) (fun tc20 => ?_)
        · replace hk := tr_ift hk tc20
          refine lv_goto (tgt := 17) hx hb dX8_ringsFrom_152 (by decide) ?_
          exact hin17 _ (tr_okS hk) _ _ _ hP hS (lv_sub hl [0, 1, 2, 3, 4] rfl)
        · replace hk := tr_iff hk tc20
          refine lv_iload_n hx hb dX8_ringsFrom_109 rfl (lv_at hl 3 rfl) ?_
          refine lv_iload hx hb dX8_ringsFrom_110 (lv_at hl 6 rfl) ?_
          obtain ⟨tv22, tq21, hk⟩ := tr_okb hk
          refine tr_csi (As := [.int tv902, .int tv12]) (rest := []) C hP hS hl (c_X8_has l w tv902 tv12 th16 tv22 tq21) mz_X8_has ml_X8_132 rfl rfl ⟨Nat.le_of_ble_eq_true rfl, Nat.le_of_ble_eq_true rfl⟩ rfl rfl (Nat.le_of_ble_eq_true rfl) ⟨Nat.le_refl _, Nat.le_refl _⟩ dX8_ringsFrom_112 (fun H locs hP hS => ?_)
          refine lv_if_eq (tgt := 152) hx hb dX8_ringsFrom_115 (by decide) (fun tc23 => ?_) (fun tc23 => ?_)
          · replace hk := tr_ift hk tc23
            refine lv_goto (tgt := 17) hx hb dX8_ringsFrom_152 (by decide) ?_
            exact hin17 _ (tr_okS hk) _ _ _ hP hS (lv_sub hl [0, 1, 2, 3, 4] rfl)
          · replace hk := tr_iff hk tc23
            refine lv_aload_n hx hb dX8_ringsFrom_118 rfl (lv_at hl 0 rfl) ?_
            refine gf_X8_41 C hP dX8_ringsFrom_119 ?_
            refine lv_iload hx hb dX8_ringsFrom_122 (lv_at hl 4 rfl) ?_
            refine lv_iload hx hb dX8_ringsFrom_124 (lv_at hl 6 rfl) ?_
            obtain ⟨tv25, tq24, hk⟩ := tr_okb hk
            refine tr_csi (As := [.ref (tr_ad w 11), .int tv4, .int tv12]) (rest := []) C hP hS hl (c_X8_isIn l w tv4 tv12 th16 tv25 tq24) mz_X8_isIn ml_X8_136 rfl rfl ⟨Nat.le_of_ble_eq_true rfl, Nat.le_of_ble_eq_true rfl⟩ rfl rfl (Nat.le_of_ble_eq_true rfl) ⟨Nat.le_refl _, Nat.le_refl _⟩ dX8_ringsFrom_126 (fun H locs hP hS => ?_)
            refine lv_if_ne (tgt := 152) hx hb dX8_ringsFrom_129 (by decide) (fun tc26 => ?_) (fun tc26 => ?_)
            · replace hk := tr_iff hk tc26
              refine lv_goto (tgt := 17) hx hb dX8_ringsFrom_152 (by decide) ?_
              exact hin17 _ (tr_okS hk) _ _ _ hP hS (lv_sub hl [0, 1, 2, 3, 4] rfl)
            · replace hk := tr_ift hk tc26
              refine lv_aload_n hx hb dX8_ringsFrom_132 rfl (lv_at hl 0 rfl) ?_
              refine gf_X8_41 C hP dX8_ringsFrom_133 ?_
              refine lv_iload hx hb dX8_ringsFrom_136 (lv_at hl 4 rfl) ?_
              refine lv_iload hx hb dX8_ringsFrom_138 (lv_at hl 6 rfl) ?_
              obtain ⟨tg27, hk⟩ := tr_okg hk
              refine tr_ias C hP hS (ar_M_11 w) tg27 dX8_ringsFrom_140 (fun H locs hP hS => ?_)
              refine tr_th hk hP (fun th28 hk hP => ?_)
              refine lv_aload_n hx hb dX8_ringsFrom_141 rfl (lv_at hl 0 rfl) ?_
              refine gf_X8_44 C hP dX8_ringsFrom_142 ?_
              refine lv_iload hx hb dX8_ringsFrom_145 (lv_at hl 4 rfl) ?_
              refine lv_iload_n hx hb dX8_ringsFrom_147 rfl (lv_at hl 2 rfl) ?_
              obtain ⟨tg29, hk⟩ := tr_okg hk
              refine tr_ias C hP hS (ar_M_12 w) tg29 dX8_ringsFrom_148 (fun H locs hP hS => ?_)
              refine tr_th hk hP (fun th30 hk hP => ?_)
              obtain ⟨tv31, etv31, hk⟩ := tr_okd hk
              refine lv_iinc (v := tv31) (lv' := [(4, .int tv31), (0, .ref (tr_ad w 0)), (1, .ref (tr_ad w tn1)), (2, .int tv901), (3, .int tv902), (5, .int tv9), (6, .int tv12)]) hx hb dX8_ringsFrom_149 hl (k := 4) rfl (by rw [etv31]; rfl) (by decide) rfl (fun ls hl => ?_)
              refine lv_goto (tgt := 17) hx hb dX8_ringsFrom_152 (by decide) ?_
              exact hin17 _ (tr_okS hk) _ _ _ hP hS (lv_sub hl [1, 2, 3, 4, 0] rfl)
      refine lv_icmp_ne (tgt := 98) hx hb dX8_ringsFrom_74 (by decide) (fun tc32 => ?_) (fun tc32 => ?_)
      · replace hk := tr_iff hk tc32
        exact j98 hk _ _ _ hP hS (lv_sub hl [2, 3, 4, 5, 6, 1, 0] rfl)
      · replace hk := tr_ift hk tc32
        refine lv_aload_n hx hb dX8_ringsFrom_77 rfl (lv_at hl 3 rfl) ?_
        refine lv_iload hx hb dX8_ringsFrom_78 (lv_at hl 1 rfl) ?_
        refine lv_iload hx hb dX8_ringsFrom_80 (lv_at hl 0 rfl) ?_
        obtain ⟨tv34, tq33, hk⟩ := tr_okb hk
        refine tr_csi (As := [.ref (tr_ad w tn1), .int tv9, .int tv12]) (rest := []) C hP hS hl (c_X8_isThere l w tn1 htn1 tv9 tv12 th16 tv34 tq33) mz_X8_isThere ml_X8_79 rfl rfl ⟨Nat.le_of_ble_eq_true rfl, Nat.le_of_ble_eq_true rfl⟩ rfl rfl (Nat.le_of_ble_eq_true rfl) ⟨Nat.le_refl _, Nat.le_refl _⟩ dX8_ringsFrom_82 (fun H locs hP hS => ?_)
        refine lv_if_eq (tgt := 98) hx hb dX8_ringsFrom_85 (by decide) (fun tc35 => ?_) (fun tc35 => ?_)
        · replace hk := tr_ift hk tc35
          exact j98 hk _ _ _ hP hS (lv_sub hl [2, 3, 4, 5, 6, 1, 0] rfl)
        · replace hk := tr_iff hk tc35
          refine lv_aload_n hx hb dX8_ringsFrom_88 rfl (lv_at hl 2 rfl) ?_
          refine lv_aload_n hx hb dX8_ringsFrom_89 rfl (lv_at hl 3 rfl) ?_
          refine lv_iload hx hb dX8_ringsFrom_90 (lv_at hl 6 rfl) ?_
          obtain ⟨th37, tq36, hk⟩ := tr_okb hk
          refine tr_cvv (As := [.ref (tr_ad w tn1), .int tv4]) (rest := []) C hP hS hl (c_X8_closeRing l w tn1 htn1 tv4 th16 th37 tq36) mz_X8_closeRing ml_X8_128 (by decide) rfl rfl rfl rfl ⟨Nat.le_of_ble_eq_true rfl, Nat.le_of_ble_eq_true rfl⟩ rfl rfl (Nat.le_of_ble_eq_true rfl) ⟨Nat.le_refl _, Nat.le_refl _⟩ dX8_ringsFrom_92 (fun H locs hP hS => ?_)
          refine lv_goto (tgt := 152) hx hb dX8_ringsFrom_95 (by decide) ?_
          refine lv_goto (tgt := 17) hx hb dX8_ringsFrom_152 (by decide) ?_
          exact hin17 _ (tr_okS hk) _ _ _ hP hS (lv_sub hl [2, 3, 4, 5, 6] rfl)
    · replace hk := tr_iff hk tc17
      obtain ⟨tv38, etv38, hk⟩ := tr_okd hk
      refine lv_iinc (v := tv38) (lv' := [(4, .int tv38), (6, .int tv12), (5, .int tv9), (0, .ref (tr_ad w 0)), (1, .ref (tr_ad w tn1)), (2, .int tv901), (3, .int tv902)]) hx hb dX8_ringsFrom_65 hl (k := 6) rfl (by rw [etv38]; rfl) (by decide) rfl (fun ls hl => ?_)
      refine lv_goto (tgt := 152) hx hb dX8_ringsFrom_68 (by decide) ?_
      refine lv_goto (tgt := 17) hx hb dX8_ringsFrom_152 (by decide) ?_
      exact hin17 _ (tr_okS hk) _ _ _ hP hS (lv_sub hl [3, 4, 5, 6, 0] rfl)
abbrev r_X8_findRings : Room := { frames := 3, cells := 0, slots := 0, locals := 76 }
set_option maxHeartbeats 4000000 in
set_option maxRecDepth 100000 in
theorem c_X8_findRings (l : Launch) (w : tr_E) (tn1 : Nat) (htn1 : tr_pg tn1) (tv901 : Int32) (h : tr_H) (h0 : tr_H) (hk : f_X8_findRings tn1 tv901 h = some h0) : Met l yX8_findRings (Cond.code yX8_findRings cX8_findRings 4 none :: tr_T) r_X8_findRings (va_Pc [.ref (tr_ad w 0), .ref (tr_ad w tn1), .int tv901] (tr_Wo tr_M w h)) (tr_Qv tr_M w h0) 0 0 (tr_R tr_M w) := by
  refine tr_start (by decide) (Nat.le_refl _) ?_
  intro p e s m args below meth c C hr hlocks hargs hP
  have hx := C.1
  have hb := C.2.1
  have hS : va_S (tr_R tr_M w) s.heap s.heap [] := va_S.rf
  have hl := lv_entry ([.ref (tr_ad w 0), .ref (tr_ad w tn1), .int tv901]) (n := 4) (Nat.le_of_ble_eq_true rfl)
  rw [lg_entry_eq]
  generalize (lg_sl ([.ref (tr_ad w 0), .ref (tr_ad w tn1), .int tv901]) ++ List.replicate (4 - (lg_sl ([.ref (tr_ad w 0), .ref (tr_ad w tn1), .int tv901])).length) Slot.unset).toArray = ls at hl ⊢
  have hl : lv_has ls 4 [(0, .ref (tr_ad w 0)), (1, .ref (tr_ad w tn1)), (2, .int tv901)] := hl
  replace hk : tr_ok (f_X8_findRings tn1 tv901 h) (fun o => o = h0) := ⟨_, hk, rfl⟩
  unfold f_X8_findRings at hk
  refine lv_aload_n hx hb dX8_findRings_0 rfl (lv_at hl 0 rfl) ?_
  refine lv_iconst (v := 0) hx hb dX8_findRings_1 (by decide) ?_
  refine pf_X8_109 C hP hS dX8_findRings_2 (fun H locs hP hS => ?_)
  refine tr_th hk hP (fun th1 hk hP => ?_)
  refine lv_aload_n hx hb dX8_findRings_5 rfl (lv_at hl 0 rfl) ?_
  refine lv_iconst (v := 0) hx hb dX8_findRings_6 (by decide) ?_
  refine pf_X8_119 C hP hS dX8_findRings_7 (fun H locs hP hS => ?_)
  refine tr_th hk hP (fun th2 hk hP => ?_)
  refine lv_aload_n hx hb dX8_findRings_10 rfl (lv_at hl 0 rfl) ?_
  refine lv_iconst (v := 0) hx hb dX8_findRings_11 (by decide) ?_
  refine pf_X8_116 C hP hS dX8_findRings_12 (fun H locs hP hS => ?_)
  refine tr_th hk hP (fun th3 hk hP => ?_)
  refine lv_aload_n hx hb dX8_findRings_15 rfl (lv_at hl 0 rfl) ?_
  refine lv_lconst (v := 0) hx hb dX8_findRings_16 (by decide) ?_
  refine pf_X8_122 C hP hS dX8_findRings_17 (fun H locs hP hS => ?_)
  refine tr_th hk hP (fun th4 hk hP => ?_)
  refine lv_aload_n hx hb dX8_findRings_20 rfl (lv_at hl 0 rfl) ?_
  refine lv_iconst (v := 0) hx hb dX8_findRings_21 (by decide) ?_
  refine pf_X8_125 C hP hS dX8_findRings_22 (fun H locs hP hS => ?_)
  refine tr_th hk hP (fun th5 hk hP => ?_)
  refine lv_aload_n hx hb dX8_findRings_25 rfl (lv_at hl 0 rfl) ?_
  refine lv_lconst (v := 0) hx hb dX8_findRings_26 (by decide) ?_
  refine pf_X8_112 C hP hS dX8_findRings_27 (fun H locs hP hS => ?_)
  refine tr_th hk hP (fun th6 hk hP => ?_)
  refine lv_iconst (v := 0) hx hb dX8_findRings_30 (by decide) ?_
  refine lv_istore_n (lv' := [(3, .int 0), (0, .ref (tr_ad w 0)), (1, .ref (tr_ad w tn1)), (2, .int tv901)]) hx hb dX8_findRings_31 rfl hl (by decide) rfl (fun ls hl => ?_)
  have j60_32 : ∀ (th7 : tr_H), tr_ok (f_X8_findRings_E60 th7) (fun o => o = h0) → tr_Wd p l e r_X8_findRings s m args below meth c (MQ below (tr_Qv tr_M w h0) args s 0 0 (tr_R tr_M w)) tr_M w 4 60 [] [] th7 := by
    intro th7 hk H locs ls hP hS hl
    unfold f_X8_findRings_E60 at hk
    exact tr_vret C hP hS hr hlocks (tr_okS (P := (fun o => o = h0)) hk) dX8_findRings_60
  refine tr_loop (fun q => tr_Wd p l e r_X8_findRings s m args below meth c (MQ below (tr_Qv tr_M w h0) args s 0 0 (tr_R tr_M w)) tr_M w 4 32 [(0, .ref (tr_ad w 0)), (1, .ref (tr_ad w tn1)), (2, .int tv901), (3, .int q.1)] [] q.2) hk ?_ _ _ _ hP hS (lv_sub hl [1, 2, 3, 0] rfl)
  intro P32 hin32 hex32 q hk
  obtain ⟨tv8, th9⟩ := q
  intro H locs ls hP hS hl
  replace hk : tr_ok (f_X8_findRings_L32 tn1 tv901 tv8 th9) P32 := hk
  unfold f_X8_findRings_L32 at hk
  refine lv_iload_n hx hb dX8_findRings_32 rfl (lv_at hl 3 rfl) ?_
  refine lv_aload_n hx hb dX8_findRings_33 rfl (lv_at hl 1 rfl) ?_
  refine lv_iconst (v := 0) hx hb dX8_findRings_34 (by decide) ?_
  refine tr_ial C hP (tr_pg_ar htn1 w) (show ¬ ((0 : Int32) < 0 ∨ 37 ≤ (0 : Int32).toNatClampNeg) by decide) dX8_findRings_35 ?_
  refine lv_icmp_ge (tgt := 60) hx hb dX8_findRings_36 (by decide) (fun tc10 => ?_) (fun tc10 => ?_)
  · replace hk := tr_ift hk tc10
    replace hk := hex32 _ (tr_okS hk)
    replace hk : tr_ok (f_X8_findRings_E60 th9) (fun o => o = h0) := hk
    exact j60_32 th9 hk _ _ _ hP hS (lv_sub hl [] rfl)
  · replace hk := tr_iff hk tc10
    refine lv_iload_n hx hb dX8_findRings_39 rfl (lv_at hl 2 rfl) ?_
    refine lv_iload_n hx hb dX8_findRings_40 rfl (lv_at hl 3 rfl) ?_
    obtain ⟨tv12, tq11, hk⟩ := tr_okb hk
    refine tr_csi (As := [.int tv901, .int tv8]) (rest := []) C hP hS hl (c_X8_has l w tv901 tv8 th9 tv12 tq11) mz_X8_has ml_X8_132 rfl rfl ⟨Nat.le_of_ble_eq_true rfl, Nat.le_of_ble_eq_true rfl⟩ rfl rfl (Nat.le_of_ble_eq_true rfl) ⟨Nat.le_refl _, Nat.le_refl _⟩ dX8_findRings_41 (fun H locs hP hS => ?_)
    refine lv_if_eq (tgt := 54) hx hb dX8_findRings_44 (by decide) (fun tc13 => ?_) (fun tc13 => ?_)
    · replace hk := tr_ift hk tc13
      obtain ⟨tv14, etv14, hk⟩ := tr_okd hk
      refine lv_iinc (v := tv14) (lv' := [(3, .int tv14), (0, .ref (tr_ad w 0)), (1, .ref (tr_ad w tn1)), (2, .int tv901)]) hx hb dX8_findRings_54 hl (k := 3) rfl (by rw [etv14]; rfl) (by decide) rfl (fun ls hl => ?_)
      refine lv_goto (tgt := 32) hx hb dX8_findRings_57 (by decide) ?_
      exact hin32 _ (tr_okS hk) _ _ _ hP hS (lv_sub hl [1, 2, 3, 0] rfl)
    · replace hk := tr_iff hk tc13
      refine lv_aload_n hx hb dX8_findRings_47 rfl (lv_at hl 0 rfl) ?_
      refine lv_aload_n hx hb dX8_findRings_48 rfl (lv_at hl 1 rfl) ?_
      refine lv_iload_n hx hb dX8_findRings_49 rfl (lv_at hl 3 rfl) ?_
      refine lv_iload_n hx hb dX8_findRings_50 rfl (lv_at hl 2 rfl) ?_
      obtain ⟨th16, tq15, hk⟩ := tr_okb hk
      refine tr_cvv (As := [.ref (tr_ad w tn1), .int tv8, .int tv901]) (rest := []) C hP hS hl (c_X8_ringsFrom l w tn1 htn1 tv8 tv901 th9 th16 tq15) mz_X8_ringsFrom ml_X8_139 (by decide) rfl rfl rfl rfl ⟨Nat.le_of_ble_eq_true rfl, Nat.le_of_ble_eq_true rfl⟩ rfl rfl (Nat.le_of_ble_eq_true rfl) ⟨Nat.le_refl _, Nat.le_refl _⟩ dX8_findRings_51 (fun H locs hP hS => ?_)
      obtain ⟨tv17, etv17, hk⟩ := tr_okd hk
      refine lv_iinc (v := tv17) (lv' := [(3, .int tv17), (0, .ref (tr_ad w 0)), (1, .ref (tr_ad w tn1)), (2, .int tv901)]) hx hb dX8_findRings_54 hl (k := 3) rfl (by rw [etv17]; rfl) (by decide) rfl (fun ls hl => ?_)
      refine lv_goto (tgt := 32) hx hb dX8_findRings_57 (by decide) ?_
      exact hin32 _ (tr_okS hk) _ _ _ hP hS (lv_sub hl [1, 2, 3, 0] rfl)
abbrev r_X8_find : Room := { frames := 4, cells := 0, slots := 0, locals := 99 }
set_option maxHeartbeats 4000000 in
set_option maxRecDepth 100000 in
theorem c_X8_find (l : Launch) (w : tr_E) (tn1 : Nat) (htn1 : tr_pg tn1) (h : tr_H) (h0 : tr_H) (hk : f_X8_find tn1 h = some h0) : Met l yX8_find (Cond.code yX8_find cX8_find 2 none :: tr_T) r_X8_find (va_Pc [.ref (tr_ad w 0), .ref (tr_ad w tn1)] (tr_Wo tr_M w h)) (tr_Qv tr_M w h0) 0 0 (tr_R tr_M w) := by
  refine tr_start (by decide) (Nat.le_refl _) ?_
  intro p e s m args below meth c C hr hlocks hargs hP
  have hx := C.1
  have hb := C.2.1
  have hS : va_S (tr_R tr_M w) s.heap s.heap [] := va_S.rf
  have hl := lv_entry ([.ref (tr_ad w 0), .ref (tr_ad w tn1)]) (n := 2) (Nat.le_of_ble_eq_true rfl)
  rw [lg_entry_eq]
  generalize (lg_sl ([.ref (tr_ad w 0), .ref (tr_ad w tn1)]) ++ List.replicate (2 - (lg_sl ([.ref (tr_ad w 0), .ref (tr_ad w tn1)])).length) Slot.unset).toArray = ls at hl ⊢
  have hl : lv_has ls 2 [(0, .ref (tr_ad w 0)), (1, .ref (tr_ad w tn1))] := hl
  replace hk : tr_ok (f_X8_find tn1 h) (fun o => o = h0) := ⟨_, hk, rfl⟩
  unfold f_X8_find at hk
  refine lv_aload_n hx hb dX8_find_0 rfl (lv_at hl 0 rfl) ?_
  refine lv_aload_n hx hb dX8_find_1 rfl (lv_at hl 1 rfl) ?_
  refine lv_bipush (v := 63) hx hb dX8_find_2 (by decide) ?_
  obtain ⟨th2, tq1, hk⟩ := tr_okb hk
  refine tr_cvv (As := [.ref (tr_ad w tn1), .int 63]) (rest := []) C hP hS hl (c_X8_findRings l w tn1 htn1 63 h th2 tq1) mz_X8_findRings ml_X8_143 (by decide) rfl rfl rfl rfl ⟨Nat.le_of_ble_eq_true rfl, Nat.le_of_ble_eq_true rfl⟩ rfl rfl (Nat.le_of_ble_eq_true rfl) ⟨Nat.le_refl _, Nat.le_refl _⟩ dX8_find_4 (fun H locs hP hS => ?_)
  exact tr_vret C hP hS hr hlocks (tr_okS (P := (fun o => o = h0)) hk) dX8_find_7
abbrev r_X8_isPeriod : Room := { frames := 5, cells := 0, slots := 0, locals := 120 }
set_option maxHeartbeats 4000000 in
set_option maxRecDepth 100000 in
theorem c_X8_isPeriod (l : Launch) (w : tr_E) (tn1 : Nat) (htn1 : tr_pg tn1) (tv901 : Int32) (h : tr_H) (r0 : Int32) (h0 : tr_H) (hk : f_X8_isPeriod tn1 tv901 h = some (r0, h0)) : Met l yX8_isPeriod (Cond.code yX8_isPeriod cX8_isPeriod 3 (some .boolean) :: tr_T) r_X8_isPeriod (va_Pc [.ref (tr_ad w 0), .ref (tr_ad w tn1), .int tv901] (tr_Wo tr_M w h)) (tr_Qi tr_M w r0 h0) 0 0 (tr_R tr_M w) := by
  refine tr_start (by decide) (Nat.le_refl _) ?_
  intro p e s m args below meth c C hr hlocks hargs hP
  have hx := C.1
  have hb := C.2.1
  have hS : va_S (tr_R tr_M w) s.heap s.heap [] := va_S.rf
  have hl := lv_entry ([.ref (tr_ad w 0), .ref (tr_ad w tn1), .int tv901]) (n := 3) (Nat.le_of_ble_eq_true rfl)
  rw [lg_entry_eq]
  generalize (lg_sl ([.ref (tr_ad w 0), .ref (tr_ad w tn1), .int tv901]) ++ List.replicate (3 - (lg_sl ([.ref (tr_ad w 0), .ref (tr_ad w tn1), .int tv901])).length) Slot.unset).toArray = ls at hl ⊢
  have hl : lv_has ls 3 [(0, .ref (tr_ad w 0)), (1, .ref (tr_ad w tn1)), (2, .int tv901)] := hl
  replace hk : tr_ok (f_X8_isPeriod tn1 tv901 h) (fun o => o = (r0, h0)) := ⟨_, hk, rfl⟩
  unfold f_X8_isPeriod at hk
  refine lv_aload_n hx hb dX8_isPeriod_0 rfl (lv_at hl 0 rfl) ?_
  refine lv_aload_n hx hb dX8_isPeriod_1 rfl (lv_at hl 1 rfl) ?_
  obtain ⟨th2, tq1, hk⟩ := tr_okb hk
  refine tr_cvv (As := [.ref (tr_ad w tn1)]) (rest := []) C hP hS hl (c_X8_find l w tn1 htn1 h th2 tq1) mz_X8_find ml_X8_146 (by decide) rfl rfl rfl rfl ⟨Nat.le_of_ble_eq_true rfl, Nat.le_of_ble_eq_true rfl⟩ rfl rfl (Nat.le_of_ble_eq_true rfl) ⟨Nat.le_refl _, Nat.le_refl _⟩ dX8_isPeriod_2 (fun H locs hP hS => ?_)
  refine lv_aload_n hx hb dX8_isPeriod_5 rfl (lv_at hl 0 rfl) ?_
  refine gf_X8_116 C hP dX8_isPeriod_6 ?_
  refine lv_if_eq (tgt := 25) hx hb dX8_isPeriod_9 (by decide) (fun tc3 => ?_) (fun tc3 => ?_)
  · replace hk := tr_ift hk tc3
    refine lv_iconst (v := 1) hx hb dX8_isPeriod_25 (by decide) ?_
    refine lv_goto (tgt := 30) hx hb dX8_isPeriod_26 (by decide) ?_
    exact tr_zret C hP hS hr hlocks rfl (tr_okS (P := (fun o => o = (r0, h0))) hk) dX8_isPeriod_30
  · replace hk := tr_iff hk tc3
    refine lv_iload_n hx hb dX8_isPeriod_12 rfl (lv_at hl 2 rfl) ?_
    refine lv_aload_n hx hb dX8_isPeriod_13 rfl (lv_at hl 0 rfl) ?_
    refine gf_X8_116 C hP dX8_isPeriod_14 ?_
    refine lv_imul hx hb dX8_isPeriod_17 ?_
    refine lv_aload_n hx hb dX8_isPeriod_18 rfl (lv_at hl 0 rfl) ?_
    refine gf_X8_119 C hP dX8_isPeriod_19 ?_
    refine lv_icmp_lt (tgt := 29) hx hb dX8_isPeriod_22 (by decide) (fun tc4 => ?_) (fun tc4 => ?_)
    · replace hk := tr_ift hk tc4
      refine lv_iconst (v := 0) hx hb dX8_isPeriod_29 (by decide) ?_
      exact tr_zret C hP hS hr hlocks rfl (tr_okS (P := (fun o => o = (r0, h0))) hk) dX8_isPeriod_30
    · replace hk := tr_iff hk tc4
      refine lv_iconst (v := 1) hx hb dX8_isPeriod_25 (by decide) ?_
      refine lv_goto (tgt := 30) hx hb dX8_isPeriod_26 (by decide) ?_
      exact tr_zret C hP hS hr hlocks rfl (tr_okS (P := (fun o => o = (r0, h0))) hk) dX8_isPeriod_30
abbrev r_X8_leastPeriod : Room := { frames := 6, cells := 0, slots := 0, locals := 142 }
set_option maxHeartbeats 4000000 in
set_option maxRecDepth 100000 in
theorem c_X8_leastPeriod (l : Launch) (w : tr_E)  (h : tr_H) (r0 : Int32) (h0 : tr_H) (hk : f_X8_leastPeriod h = some (r0, h0)) : Met l yX8_leastPeriod (Cond.code yX8_leastPeriod cX8_leastPeriod 2 (some .int) :: tr_T) r_X8_leastPeriod (va_Pc [.ref (tr_ad w 0)] (tr_Wo tr_M w h)) (tr_Qi tr_M w r0 h0) 0 0 (tr_R tr_M w) := by
  refine tr_start (by decide) (Nat.le_refl _) ?_
  intro p e s m args below meth c C hr hlocks hargs hP
  have hx := C.1
  have hb := C.2.1
  have hS : va_S (tr_R tr_M w) s.heap s.heap [] := va_S.rf
  have hl := lv_entry ([.ref (tr_ad w 0)]) (n := 2) (Nat.le_of_ble_eq_true rfl)
  rw [lg_entry_eq]
  generalize (lg_sl ([.ref (tr_ad w 0)]) ++ List.replicate (2 - (lg_sl ([.ref (tr_ad w 0)])).length) Slot.unset).toArray = ls at hl ⊢
  have hl : lv_has ls 2 [(0, .ref (tr_ad w 0))] := hl
  replace hk : tr_ok (f_X8_leastPeriod h) (fun o => o = (r0, h0)) := ⟨_, hk, rfl⟩
  unfold f_X8_leastPeriod at hk
  refine lv_iconst (v := 0) hx hb dX8_leastPeriod_0 (by decide) ?_
  refine lv_istore_n (lv' := [(1, .int 0), (0, .ref (tr_ad w 0))]) hx hb dX8_leastPeriod_1 rfl hl (by decide) rfl (fun ls hl => ?_)
  have j20_2 : ∀ (tv1 : Int32) (th2 : tr_H), tr_ok (f_X8_leastPeriod_E20 tv1 th2) (fun o => o = (r0, h0)) → tr_Wd p l e r_X8_leastPeriod s m args below meth c (MQ below (tr_Qi tr_M w r0 h0) args s 0 0 (tr_R tr_M w)) tr_M w 2 20 [(1, .int tv1)] [] th2 := by
    intro tv1 th2 hk H locs ls hP hS hl
    unfold f_X8_leastPeriod_E20 at hk
    refine lv_iload_n hx hb dX8_leastPeriod_20 rfl (lv_at hl 0 rfl) ?_
    exact tr_iret C hP hS hr hlocks (tr_okS (P := (fun o => o = (r0, h0))) hk) dX8_leastPeriod_21
  refine tr_loop (fun q => tr_Wd p l e r_X8_leastPeriod s m args below meth c (MQ below (tr_Qi tr_M w r0 h0) args s 0 0 (tr_R tr_M w)) tr_M w 2 2 [(0, .ref (tr_ad w 0)), (1, .int q.1)] [] q.2) hk ?_ _ _ _ hP hS (lv_sub hl [1, 0] rfl)
  intro P2 hin2 hex2 q hk
  obtain ⟨tv3, th4⟩ := q
  intro H locs ls hP hS hl
  replace hk : tr_ok (f_X8_leastPeriod_L2 tv3 th4) P2 := hk
  unfold f_X8_leastPeriod_L2 at hk
  refine lv_aload_n hx hb dX8_leastPeriod_2 rfl (lv_at hl 0 rfl) ?_
  refine lv_aload_n hx hb dX8_leastPeriod_3 rfl (lv_at hl 0 rfl) ?_
  refine gf_X8_16 C hP dX8_leastPeriod_4 ?_
  refine lv_iload_n hx hb dX8_leastPeriod_7 rfl (lv_at hl 1 rfl) ?_
  obtain ⟨tv6, th7, tq5, hk⟩ := tr_okb2 hk
  refine tr_cvi (As := [.ref (tr_ad w 3), .int tv3]) (rest := []) C hP hS hl (c_X8_isPeriod l w 3 tr_pg_3 tv3 th4 tv6 th7 tq5) mz_X8_isPeriod ml_X8_150 (by decide) rfl rfl rfl rfl ⟨Nat.le_of_ble_eq_true rfl, Nat.le_of_ble_eq_true rfl⟩ rfl rfl (Nat.le_of_ble_eq_true rfl) ⟨Nat.le_refl _, Nat.le_refl _⟩ dX8_leastPeriod_8 (fun H locs hP hS => ?_)
  refine lv_if_ne (tgt := 20) hx hb dX8_leastPeriod_11 (by decide) (fun tc8 => ?_) (fun tc8 => ?_)
  · replace hk := tr_iff hk tc8
    replace hk := hex2 _ (tr_okS hk)
    replace hk : tr_ok (f_X8_leastPeriod_E20 tv3 th7) (fun o => o = (r0, h0)) := hk
    exact j20_2 tv3 th7 hk _ _ _ hP hS (lv_sub hl [1] rfl)
  · replace hk := tr_ift hk tc8
    obtain ⟨tv9, etv9, hk⟩ := tr_okd hk
    refine lv_iinc (v := tv9) (lv' := [(1, .int tv9), (0, .ref (tr_ad w 0))]) hx hb dX8_leastPeriod_14 hl (k := 1) rfl (by rw [etv9]; rfl) (by decide) rfl (fun ls hl => ?_)
    refine lv_goto (tgt := 2) hx hb dX8_leastPeriod_17 (by decide) ?_
    exact hin2 _ (tr_okS hk) _ _ _ hP hS (lv_sub hl [1, 0] rfl)
abbrev r_X8_about : Room := { frames := 7, cells := 0, slots := 0, locals := 163 }
set_option maxHeartbeats 4000000 in
set_option maxRecDepth 100000 in
theorem c_X8_about (l : Launch) (w : tr_E) (tv900 : Int32) (h : tr_H) (r0 : Int32) (h0 : tr_H) (hk : f_X8_about tv900 h = some (r0, h0)) : Met l yX8_about (Cond.code yX8_about cX8_about 2 (some .int) :: tr_T) r_X8_about (va_Pc [.ref (tr_ad w 0), .int tv900] (tr_Wo tr_M w h)) (tr_Qi tr_M w r0 h0) 0 0 (tr_R tr_M w) := by
  refine tr_start (by decide) (Nat.le_refl _) ?_
  intro p e s m args below meth c C hr hlocks hargs hP
  have hx := C.1
  have hb := C.2.1
  have hS : va_S (tr_R tr_M w) s.heap s.heap [] := va_S.rf
  have hl := lv_entry ([.ref (tr_ad w 0), .int tv900]) (n := 2) (Nat.le_of_ble_eq_true rfl)
  rw [lg_entry_eq]
  generalize (lg_sl ([.ref (tr_ad w 0), .int tv900]) ++ List.replicate (2 - (lg_sl ([.ref (tr_ad w 0), .int tv900])).length) Slot.unset).toArray = ls at hl ⊢
  have hl : lv_has ls 2 [(0, .ref (tr_ad w 0)), (1, .int tv900)] := hl
  replace hk : tr_ok (f_X8_about tv900 h) (fun o => o = (r0, h0)) := ⟨_, hk, rfl⟩
  unfold f_X8_about at hk
  refine lv_aload_n hx hb dX8_about_0 rfl (lv_at hl 0 rfl) ?_
  refine lv_iconst (v := 0) hx hb dX8_about_1 (by decide) ?_
  refine pf_X8_59 C hP hS dX8_about_2 (fun H locs hP hS => ?_)
  refine tr_th hk hP (fun th1 hk hP => ?_)
  refine lv_aload_n hx hb dX8_about_5 rfl (lv_at hl 0 rfl) ?_
  refine lv_aload_n hx hb dX8_about_6 rfl (lv_at hl 0 rfl) ?_
  refine gf_X8_16 C hP dX8_about_7 ?_
  obtain ⟨th3, tq2, hk⟩ := tr_okb hk
  refine tr_cvv (As := [.ref (tr_ad w 3)]) (rest := []) C hP hS hl (c_X8_find l w 3 tr_pg_3 th1 th3 tq2) mz_X8_find ml_X8_146 (by decide) rfl rfl rfl rfl ⟨Nat.le_of_ble_eq_true rfl, Nat.le_of_ble_eq_true rfl⟩ rfl rfl (Nat.le_of_ble_eq_true rfl) ⟨Nat.le_refl _, Nat.le_refl _⟩ dX8_about_10 (fun H locs hP hS => ?_)
  refine lv_iload_n hx hb dX8_about_13 rfl (lv_at hl 1 rfl) ?_
  rcases Decidable.em (tv900 = 0) with tc4 | tc4
  · replace hk := tr_ift hk tc4
    refine lv_tableIn (tgt := 68) hx hb dX8_about_14 (by rw [tc4]; decide) (by rw [tc4]; decide) (by rw [tc4]; rfl) (by decide) ?_
    refine lv_aload_n hx hb dX8_about_68 rfl (lv_at hl 0 rfl) ?_
    refine gf_X8_16 C hP dX8_about_69 ?_
    refine lv_iconst (v := 0) hx hb dX8_about_72 (by decide) ?_
    refine tr_ial C hP (ar_M_3 w) (show ¬ ((0 : Int32) < 0 ∨ 37 ≤ (0 : Int32).toNatClampNeg) by decide) dX8_about_73 ?_
    exact tr_iret C hP hS hr hlocks (tr_okS (P := (fun o => o = (r0, h0))) hk) dX8_about_74
  replace hk := tr_iff hk tc4
  rcases Decidable.em (tv900 = 1) with tc5 | tc5
  · replace hk := tr_ift hk tc5
    refine lv_tableIn (tgt := 75) hx hb dX8_about_14 (by rw [tc5]; decide) (by rw [tc5]; decide) (by rw [tc5]; rfl) (by decide) ?_
    refine lv_aload_n hx hb dX8_about_75 rfl (lv_at hl 0 rfl) ?_
    refine gf_X8_16 C hP dX8_about_76 ?_
    obtain ⟨tv7, tq6, hk⟩ := tr_okb hk
    refine tr_csi (As := [.ref (tr_ad w 3)]) (rest := []) C hP hS hl (c_X8_waits l w 3 tr_pg_3 th3 tv7 tq6) mz_X8_waits ml_X8_105 rfl rfl ⟨Nat.le_of_ble_eq_true rfl, Nat.le_of_ble_eq_true rfl⟩ rfl rfl (Nat.le_of_ble_eq_true rfl) ⟨Nat.le_refl _, Nat.le_refl _⟩ dX8_about_79 (fun H locs hP hS => ?_)
    exact tr_iret C hP hS hr hlocks (tr_okS (P := (fun o => o = (r0, h0))) hk) dX8_about_82
  replace hk := tr_iff hk tc5
  rcases Decidable.em (tv900 = 2) with tc8 | tc8
  · replace hk := tr_ift hk tc8
    refine lv_tableIn (tgt := 83) hx hb dX8_about_14 (by rw [tc8]; decide) (by rw [tc8]; decide) (by rw [tc8]; rfl) (by decide) ?_
    refine lv_aload_n hx hb dX8_about_83 rfl (lv_at hl 0 rfl) ?_
    refine gf_X8_109 C hP dX8_about_84 ?_
    exact tr_iret C hP hS hr hlocks (tr_okS (P := (fun o => o = (r0, h0))) hk) dX8_about_87
  replace hk := tr_iff hk tc8
  rcases Decidable.em (tv900 = 3) with tc9 | tc9
  · replace hk := tr_ift hk tc9
    refine lv_tableIn (tgt := 88) hx hb dX8_about_14 (by rw [tc9]; decide) (by rw [tc9]; decide) (by rw [tc9]; rfl) (by decide) ?_
    refine lv_aload_n hx hb dX8_about_88 rfl (lv_at hl 0 rfl) ?_
    refine gf_X8_16 C hP dX8_about_89 ?_
    obtain ⟨tv11, tq10, hk⟩ := tr_okb hk
    refine tr_csi (As := [.ref (tr_ad w 3)]) (rest := []) C hP hS hl (c_X8_waits l w 3 tr_pg_3 th3 tv11 tq10) mz_X8_waits ml_X8_105 rfl rfl ⟨Nat.le_of_ble_eq_true rfl, Nat.le_of_ble_eq_true rfl⟩ rfl rfl (Nat.le_of_ble_eq_true rfl) ⟨Nat.le_refl _, Nat.le_refl _⟩ dX8_about_92 (fun H locs hP hS => ?_)
    refine lv_aload_n hx hb dX8_about_95 rfl (lv_at hl 0 rfl) ?_
    refine gf_X8_112 C hP dX8_about_96 ?_
    obtain ⟨tv13, tq12, hk⟩ := tr_okb hk
    refine tr_csi (As := [.long (th3.2 0 22)]) (rest := [.int tv11]) C hP hS hl (c_X8_many l w (th3.2 0 22) th3 tv13 tq12) mz_X8_many ml_X8_154 rfl rfl ⟨Nat.le_of_ble_eq_true rfl, Nat.le_of_ble_eq_true rfl⟩ rfl rfl (Nat.le_of_ble_eq_true rfl) ⟨Nat.le_refl _, Nat.le_refl _⟩ dX8_about_99 (fun H locs hP hS => ?_)
    refine lv_isub hx hb dX8_about_102 ?_
    exact tr_iret C hP hS hr hlocks (tr_okS (P := (fun o => o = (r0, h0))) hk) dX8_about_103
  replace hk := tr_iff hk tc9
  rcases Decidable.em (tv900 = 4) with tc14 | tc14
  · replace hk := tr_ift hk tc14
    refine lv_tableIn (tgt := 104) hx hb dX8_about_14 (by rw [tc14]; decide) (by rw [tc14]; decide) (by rw [tc14]; rfl) (by decide) ?_
    refine lv_aload_n hx hb dX8_about_104 rfl (lv_at hl 0 rfl) ?_
    refine gf_X8_122 C hP dX8_about_105 ?_
    obtain ⟨tv16, tq15, hk⟩ := tr_okb hk
    refine tr_csi (As := [.long (th3.2 0 20)]) (rest := []) C hP hS hl (c_X8_many l w (th3.2 0 20) th3 tv16 tq15) mz_X8_many ml_X8_154 rfl rfl ⟨Nat.le_of_ble_eq_true rfl, Nat.le_of_ble_eq_true rfl⟩ rfl rfl (Nat.le_of_ble_eq_true rfl) ⟨Nat.le_refl _, Nat.le_refl _⟩ dX8_about_108 (fun H locs hP hS => ?_)
    exact tr_iret C hP hS hr hlocks (tr_okS (P := (fun o => o = (r0, h0))) hk) dX8_about_111
  replace hk := tr_iff hk tc14
  rcases Decidable.em (tv900 = 5) with tc17 | tc17
  · replace hk := tr_ift hk tc17
    refine lv_tableIn (tgt := 112) hx hb dX8_about_14 (by rw [tc17]; decide) (by rw [tc17]; decide) (by rw [tc17]; rfl) (by decide) ?_
    refine lv_aload_n hx hb dX8_about_112 rfl (lv_at hl 0 rfl) ?_
    refine gf_X8_125 C hP dX8_about_113 ?_
    exact tr_iret C hP hS hr hlocks (tr_okS (P := (fun o => o = (r0, h0))) hk) dX8_about_116
  replace hk := tr_iff hk tc17
  rcases Decidable.em (tv900 = 6) with tc18 | tc18
  · replace hk := tr_ift hk tc18
    refine lv_tableIn (tgt := 117) hx hb dX8_about_14 (by rw [tc18]; decide) (by rw [tc18]; decide) (by rw [tc18]; rfl) (by decide) ?_
    refine lv_aload_n hx hb dX8_about_117 rfl (lv_at hl 0 rfl) ?_
    obtain ⟨tv20, th21, tq19, hk⟩ := tr_okb2 hk
    refine tr_cvi (As := []) (rest := []) C hP hS hl (c_X8_leastPeriod l w th3 tv20 th21 tq19) mz_X8_leastPeriod ml_X8_158 (by decide) rfl rfl rfl rfl ⟨Nat.le_of_ble_eq_true rfl, Nat.le_of_ble_eq_true rfl⟩ rfl rfl (Nat.le_of_ble_eq_true rfl) ⟨Nat.le_refl _, Nat.le_refl _⟩ dX8_about_118 (fun H locs hP hS => ?_)
    exact tr_iret C hP hS hr hlocks (tr_okS (P := (fun o => o = (r0, h0))) hk) dX8_about_121
  replace hk := tr_iff hk tc18
  rcases Decidable.em (tv900 = 7) with tc22 | tc22
  · replace hk := tr_ift hk tc22
    refine lv_tableIn (tgt := 122) hx hb dX8_about_14 (by rw [tc22]; decide) (by rw [tc22]; decide) (by rw [tc22]; rfl) (by decide) ?_
    refine lv_aload_n hx hb dX8_about_122 rfl (lv_at hl 0 rfl) ?_
    refine gf_X8_102 C hP dX8_about_123 ?_
    exact tr_iret C hP hS hr hlocks (tr_okS (P := (fun o => o = (r0, h0))) hk) dX8_about_126
  replace hk := tr_iff hk tc22
  rcases Decidable.em (tv900 = 8) with tc23 | tc23
  · replace hk := tr_ift hk tc23
    refine lv_tableIn (tgt := 127) hx hb dX8_about_14 (by rw [tc23]; decide) (by rw [tc23]; decide) (by rw [tc23]; rfl) (by decide) ?_
    refine lv_aload_n hx hb dX8_about_127 rfl (lv_at hl 0 rfl) ?_
    refine gf_X8_161 C hP dX8_about_128 ?_
    exact tr_iret C hP hS hr hlocks (tr_okS (P := (fun o => o = (r0, h0))) hk) dX8_about_131
  replace hk := tr_iff hk tc23
  rcases Decidable.em (tv900 = 9) with tc24 | tc24
  · replace hk := tr_ift hk tc24
    refine lv_tableIn (tgt := 132) hx hb dX8_about_14 (by rw [tc24]; decide) (by rw [tc24]; decide) (by rw [tc24]; rfl) (by decide) ?_
    refine lv_aload_n hx hb dX8_about_132 rfl (lv_at hl 0 rfl) ?_
    refine gf_X8_73 C hP dX8_about_133 ?_
    exact tr_iret C hP hS hr hlocks (tr_okS (P := (fun o => o = (r0, h0))) hk) dX8_about_136
  replace hk := tr_iff hk tc24
  refine lv_tableOut (tgt := 137) hx hb dX8_about_14 (tr_tso (fun k h1 h2 => by
    rcases (show k = 0 ∨ k = 1 ∨ k = 2 ∨ k = 3 ∨ k = 4 ∨ k = 5 ∨ k = 6 ∨ k = 7 ∨ k = 8 ∨ k = 9 by omega) with rfl | rfl | rfl | rfl | rfl | rfl | rfl | rfl | rfl | rfl
    · exact tc4
    · exact tc5
    · exact tc8
    · exact tc9
    · exact tc14
    · exact tc17
    · exact tc18
    · exact tc22
    · exact tc23
    · exact tc24)) (by decide) ?_
  refine lv_bipush (v := (-2)) hx hb dX8_about_137 (by decide) ?_
  exact tr_iret C hP hS hr hlocks (tr_okS (P := (fun o => o = (r0, h0))) hk) dX8_about_139
abbrev r_X8_minutes : Room := { frames := 2, cells := 0, slots := 0, locals := 46 }
set_option maxHeartbeats 4000000 in
set_option maxRecDepth 100000 in
theorem c_X8_minutes (l : Launch) (w : tr_E) (tv900 : Int32) (tv901 : Int32) (h : tr_H) (r0 : Int32) (h0 : tr_H) (hk : f_X8_minutes tv900 tv901 h = some (r0, h0)) : Met l yX8_minutes (Cond.code yX8_minutes cX8_minutes 3 (some .int) :: tr_T) r_X8_minutes (va_Pc [.ref (tr_ad w 0), .int tv900, .int tv901] (tr_Wo tr_M w h)) (tr_Qi tr_M w r0 h0) 0 0 (tr_R tr_M w) := by
  refine tr_start (by decide) (Nat.le_refl _) ?_
  intro p e s m args below meth c C hr hlocks hargs hP
  have hx := C.1
  have hb := C.2.1
  have hS : va_S (tr_R tr_M w) s.heap s.heap [] := va_S.rf
  have hl := lv_entry ([.ref (tr_ad w 0), .int tv900, .int tv901]) (n := 3) (Nat.le_of_ble_eq_true rfl)
  rw [lg_entry_eq]
  generalize (lg_sl ([.ref (tr_ad w 0), .int tv900, .int tv901]) ++ List.replicate (3 - (lg_sl ([.ref (tr_ad w 0), .int tv900, .int tv901])).length) Slot.unset).toArray = ls at hl ⊢
  have hl : lv_has ls 3 [(0, .ref (tr_ad w 0)), (1, .int tv900), (2, .int tv901)] := hl
  replace hk : tr_ok (f_X8_minutes tv900 tv901 h) (fun o => o = (r0, h0)) := ⟨_, hk, rfl⟩
  unfold f_X8_minutes at hk
  refine lv_aload_n hx hb dX8_minutes_0 rfl (lv_at hl 0 rfl) ?_
  refine lv_iconst (v := 0) hx hb dX8_minutes_1 (by decide) ?_
  refine pf_X8_59 C hP hS dX8_minutes_2 (fun H locs hP hS => ?_)
  refine tr_th hk hP (fun th1 hk hP => ?_)
  refine lv_aload_n hx hb dX8_minutes_5 rfl (lv_at hl 0 rfl) ?_
  refine lv_iload_n hx hb dX8_minutes_6 rfl (lv_at hl 1 rfl) ?_
  obtain ⟨tv3, tq2, hk⟩ := tr_okb hk
  refine tr_cvi (As := [.int tv900]) (rest := []) C hP hS hl (c_X8_noDeparture l w tv900 th1 tv3 tq2) mz_X8_noDeparture ml_X8_164 (by decide) rfl rfl rfl rfl ⟨Nat.le_of_ble_eq_true rfl, Nat.le_of_ble_eq_true rfl⟩ rfl rfl (Nat.le_of_ble_eq_true rfl) ⟨Nat.le_refl _, Nat.le_refl _⟩ dX8_minutes_7 (fun H locs hP hS => ?_)
  refine lv_if_ne (tgt := 21) hx hb dX8_minutes_10 (by decide) (fun tc4 => ?_) (fun tc4 => ?_)
  · replace hk := tr_iff hk tc4
    refine lv_iconst (v := (-1)) hx hb dX8_minutes_21 (by decide) ?_
    exact tr_iret C hP hS hr hlocks (tr_okS (P := (fun o => o = (r0, h0))) hk) dX8_minutes_22
  · replace hk := tr_ift hk tc4
    refine lv_aload_n hx hb dX8_minutes_13 rfl (lv_at hl 0 rfl) ?_
    refine lv_iload_n hx hb dX8_minutes_14 rfl (lv_at hl 2 rfl) ?_
    obtain ⟨tv6, tq5, hk⟩ := tr_okb hk
    refine tr_cvi (As := [.int tv901]) (rest := []) C hP hS hl (c_X8_noDeparture l w tv901 th1 tv6 tq5) mz_X8_noDeparture ml_X8_164 (by decide) rfl rfl rfl rfl ⟨Nat.le_of_ble_eq_true rfl, Nat.le_of_ble_eq_true rfl⟩ rfl rfl (Nat.le_of_ble_eq_true rfl) ⟨Nat.le_refl _, Nat.le_refl _⟩ dX8_minutes_15 (fun H locs hP hS => ?_)
    refine lv_if_eq (tgt := 23) hx hb dX8_minutes_18 (by decide) (fun tc7 => ?_) (fun tc7 => ?_)
    · replace hk := tr_ift hk tc7
      refine lv_aload_n hx hb dX8_minutes_23 rfl (lv_at hl 0 rfl) ?_
      refine gf_X8_16 C hP dX8_minutes_24 ?_
      refine lv_iload_n hx hb dX8_minutes_27 rfl (lv_at hl 1 rfl) ?_
      refine lv_iload_n hx hb dX8_minutes_28 rfl (lv_at hl 2 rfl) ?_
      obtain ⟨tv9, tq8, hk⟩ := tr_okb hk
      refine tr_csi (As := [.ref (tr_ad w 3), .int tv900, .int tv901]) (rest := []) C hP hS hl (c_X8_isThere l w 3 tr_pg_3 tv900 tv901 th1 tv9 tq8) mz_X8_isThere ml_X8_79 rfl rfl ⟨Nat.le_of_ble_eq_true rfl, Nat.le_of_ble_eq_true rfl⟩ rfl rfl (Nat.le_of_ble_eq_true rfl) ⟨Nat.le_refl _, Nat.le_refl _⟩ dX8_minutes_29 (fun H locs hP hS => ?_)
      refine lv_if_eq (tgt := 47) hx hb dX8_minutes_32 (by decide) (fun tc10 => ?_) (fun tc10 => ?_)
      · replace hk := tr_ift hk tc10
        refine lv_bipush (v := (-9)) hx hb dX8_minutes_47 (by decide) ?_
        exact tr_iret C hP hS hr hlocks (tr_okS (P := (fun o => o = (r0, h0))) hk) dX8_minutes_49
      · replace hk := tr_iff hk tc10
        refine lv_aload_n hx hb dX8_minutes_35 rfl (lv_at hl 0 rfl) ?_
        refine gf_X8_16 C hP dX8_minutes_36 ?_
        refine lv_iload_n hx hb dX8_minutes_39 rfl (lv_at hl 1 rfl) ?_
        refine lv_iload_n hx hb dX8_minutes_40 rfl (lv_at hl 2 rfl) ?_
        obtain ⟨tv12, tq11, hk⟩ := tr_okb hk
        refine tr_csi (As := [.ref (tr_ad w 3), .int tv900, .int tv901]) (rest := []) C hP hS hl (c_X8_minutesOf l w 3 tr_pg_3 tv900 tv901 th1 tv12 tq11) mz_X8_minutesOf ml_X8_67 rfl rfl ⟨Nat.le_of_ble_eq_true rfl, Nat.le_of_ble_eq_true rfl⟩ rfl rfl (Nat.le_of_ble_eq_true rfl) ⟨Nat.le_refl _, Nat.le_refl _⟩ dX8_minutes_41 (fun H locs hP hS => ?_)
        refine lv_goto (tgt := 49) hx hb dX8_minutes_44 (by decide) ?_
        exact tr_iret C hP hS hr hlocks (tr_okS (P := (fun o => o = (r0, h0))) hk) dX8_minutes_49
    · replace hk := tr_iff hk tc7
      refine lv_iconst (v := (-1)) hx hb dX8_minutes_21 (by decide) ?_
      exact tr_iret C hP hS hr hlocks (tr_okS (P := (fun o => o = (r0, h0))) hk) dX8_minutes_22
abbrev r_X8_note : Room := { frames := 0, cells := 0, slots := 0, locals := 0 }
set_option maxHeartbeats 4000000 in
set_option maxRecDepth 100000 in
theorem c_X8_note (l : Launch) (w : tr_E)  (h : tr_H) (h0 : tr_H) (hk : f_X8_note h = some h0) : Met l yX8_note (Cond.code yX8_note cX8_note 2 none :: tr_T) r_X8_note (va_Pc [.ref (tr_ad w 0)] (tr_Wo tr_M w h)) (tr_Qv tr_M w h0) 0 0 (tr_R tr_M w) := by
  refine tr_start (by decide) (Nat.le_refl _) ?_
  intro p e s m args below meth c C hr hlocks hargs hP
  have hx := C.1
  have hb := C.2.1
  have hS : va_S (tr_R tr_M w) s.heap s.heap [] := va_S.rf
  have hl := lv_entry ([.ref (tr_ad w 0)]) (n := 2) (Nat.le_of_ble_eq_true rfl)
  rw [lg_entry_eq]
  generalize (lg_sl ([.ref (tr_ad w 0)]) ++ List.replicate (2 - (lg_sl ([.ref (tr_ad w 0)])).length) Slot.unset).toArray = ls at hl ⊢
  have hl : lv_has ls 2 [(0, .ref (tr_ad w 0))] := hl
  replace hk : tr_ok (f_X8_note h) (fun o => o = h0) := ⟨_, hk, rfl⟩
  unfold f_X8_note at hk
  refine lv_aload_n hx hb dX8_note_0 rfl (lv_at hl 0 rfl) ?_
  refine gf_X8_102 C hP dX8_note_1 ?_
  refine lv_bipush (v := 14) hx hb dX8_note_4 (by decide) ?_
  have j49 : ∀ (th1 : tr_H), tr_ok (f_X8_note_J49 th1) (fun o => o = h0) → tr_Wd p l e r_X8_note s m args below meth c (MQ below (tr_Qv tr_M w h0) args s 0 0 (tr_R tr_M w)) tr_M w 2 49 [(0, .ref (tr_ad w 0))] [] th1 := by
    intro th1 hk H locs ls hP hS hl
    unfold f_X8_note_J49 at hk
    refine lv_iconst (v := 0) hx hb dX8_note_49 (by decide) ?_
    refine lv_istore_n (lv' := [(1, .int 0), (0, .ref (tr_ad w 0))]) hx hb dX8_note_50 rfl hl (by decide) rfl (fun ls hl => ?_)
    have j83_51 : ∀ (th2 : tr_H), tr_ok (f_X8_note_E83 th2) (fun o => o = h0) → tr_Wd p l e r_X8_note s m args below meth c (MQ below (tr_Qv tr_M w h0) args s 0 0 (tr_R tr_M w)) tr_M w 2 83 [(0, .ref (tr_ad w 0))] [] th2 := by
      intro th2 hk H locs ls hP hS hl
      unfold f_X8_note_E83 at hk
      refine lv_aload_n hx hb dX8_note_83 rfl (lv_at hl 0 rfl) ?_
      refine lv_dup hx hb dX8_note_84 rfl ?_
      refine gf_X8_102 C hP dX8_note_85 ?_
      refine lv_iconst (v := 1) hx hb dX8_note_88 (by decide) ?_
      refine lv_iadd hx hb dX8_note_89 ?_
      refine pf_X8_102 C hP hS dX8_note_90 (fun H locs hP hS => ?_)
      refine tr_th hk hP (fun th3 hk hP => ?_)
      exact tr_vret C hP hS hr hlocks (tr_okS (P := (fun o => o = h0)) hk) dX8_note_93
    refine tr_loop (fun q => tr_Wd p l e r_X8_note s m args below meth c (MQ below (tr_Qv tr_M w h0) args s 0 0 (tr_R tr_M w)) tr_M w 2 51 [(0, .ref (tr_ad w 0)), (1, .int q.1)] [] q.2) hk ?_ _ _ _ hP hS (lv_sub hl [1, 0] rfl)
    intro P51 hin51 hex51 q hk
    obtain ⟨tv4, th5⟩ := q
    intro H locs ls hP hS hl
    replace hk : tr_ok (f_X8_note_L51 tv4 th5) P51 := hk
    unfold f_X8_note_L51 at hk
    refine lv_iload_n hx hb dX8_note_51 rfl (lv_at hl 1 rfl) ?_
    refine lv_bipush (v := 37) hx hb dX8_note_52 (by decide) ?_
    refine lv_icmp_ge (tgt := 83) hx hb dX8_note_54 (by decide) (fun tc6 => ?_) (fun tc6 => ?_)
    · replace hk := tr_ift hk tc6
      replace hk := hex51 _ (tr_okS hk)
      replace hk : tr_ok (f_X8_note_E83 th5) (fun o => o = h0) := hk
      exact j83_51 th5 hk _ _ _ hP hS (lv_sub hl [0] rfl)
    · replace hk := tr_iff hk tc6
      refine lv_aload_n hx hb dX8_note_57 rfl (lv_at hl 0 rfl) ?_
      refine gf_X8_22 C hP dX8_note_58 ?_
      refine lv_bipush (v := 37) hx hb dX8_note_61 (by decide) ?_
      refine lv_aload_n hx hb dX8_note_63 rfl (lv_at hl 0 rfl) ?_
      refine gf_X8_102 C hP dX8_note_64 ?_
      refine lv_imul hx hb dX8_note_67 ?_
      refine lv_iload_n hx hb dX8_note_68 rfl (lv_at hl 1 rfl) ?_
      refine lv_iadd hx hb dX8_note_69 ?_
      refine lv_aload_n hx hb dX8_note_70 rfl (lv_at hl 0 rfl) ?_
      refine gf_X8_16 C hP dX8_note_71 ?_
      refine lv_iload_n hx hb dX8_note_74 rfl (lv_at hl 1 rfl) ?_
      obtain ⟨tg7, hk⟩ := tr_okg hk
      refine tr_ial C hP (ar_M_3 w) tg7 dX8_note_75 ?_
      obtain ⟨tv8, etv8, hk⟩ := tr_okd hk
      rw [← etv8]
      obtain ⟨tg9, hk⟩ := tr_okg hk
      refine tr_ias C hP hS (ar_M_5 w) tg9 dX8_note_76 (fun H locs hP hS => ?_)
      refine tr_th hk hP (fun th10 hk hP => ?_)
      obtain ⟨tv11, etv11, hk⟩ := tr_okd hk
      refine lv_iinc (v := tv11) (lv' := [(1, .int tv11), (0, .ref (tr_ad w 0))]) hx hb dX8_note_77 hl (k := 1) rfl (by rw [etv11]; rfl) (by decide) rfl (fun ls hl => ?_)
      refine lv_goto (tgt := 51) hx hb dX8_note_80 (by decide) ?_
      exact hin51 _ (tr_okS hk) _ _ _ hP hS (lv_sub hl [1, 0] rfl)
  refine lv_icmp_ne (tgt := 49) hx hb dX8_note_6 (by decide) (fun tc12 => ?_) (fun tc12 => ?_)
  · replace hk := tr_iff hk tc12
    exact j49 h hk _ _ _ hP hS (lv_sub hl [0] rfl)
  · replace hk := tr_ift hk tc12
    refine lv_iconst (v := 0) hx hb dX8_note_9 (by decide) ?_
    refine lv_istore_n (lv' := [(1, .int 0), (0, .ref (tr_ad w 0))]) hx hb dX8_note_10 rfl hl (by decide) rfl (fun ls hl => ?_)
    have j39_11 : ∀ (th13 : tr_H), tr_ok (f_X8_note_E39 th13) (fun o => o = h0) → tr_Wd p l e r_X8_note s m args below meth c (MQ below (tr_Qv tr_M w h0) args s 0 0 (tr_R tr_M w)) tr_M w 2 39 [(0, .ref (tr_ad w 0))] [] th13 := by
      intro th13 hk H locs ls hP hS hl
      unfold f_X8_note_E39 at hk
      refine lv_aload_n hx hb dX8_note_39 rfl (lv_at hl 0 rfl) ?_
      refine lv_dup hx hb dX8_note_40 rfl ?_
      refine gf_X8_102 C hP dX8_note_41 ?_
      refine lv_iconst (v := 1) hx hb dX8_note_44 (by decide) ?_
      refine lv_isub hx hb dX8_note_45 ?_
      refine pf_X8_102 C hP hS dX8_note_46 (fun H locs hP hS => ?_)
      refine tr_th hk hP (fun th14 hk hP => ?_)
      exact j49 th14 hk _ _ _ hP hS (lv_sub hl [0] rfl)
    refine tr_loop (fun q => tr_Wd p l e r_X8_note s m args below meth c (MQ below (tr_Qv tr_M w h0) args s 0 0 (tr_R tr_M w)) tr_M w 2 11 [(0, .ref (tr_ad w 0)), (1, .int q.1)] [] q.2) hk ?_ _ _ _ hP hS (lv_sub hl [1, 0] rfl)
    intro P11 hin11 hex11 q hk
    obtain ⟨tv15, th16⟩ := q
    intro H locs ls hP hS hl
    replace hk : tr_ok (f_X8_note_L11 tv15 th16) P11 := hk
    unfold f_X8_note_L11 at hk
    refine lv_iload_n hx hb dX8_note_11 rfl (lv_at hl 1 rfl) ?_
    refine lv_sipush (v := 481) hx hb dX8_note_12 (by decide) ?_
    refine lv_icmp_ge (tgt := 39) hx hb dX8_note_15 (by decide) (fun tc17 => ?_) (fun tc17 => ?_)
    · replace hk := tr_ift hk tc17
      replace hk := hex11 _ (tr_okS hk)
      replace hk : tr_ok (f_X8_note_E39 th16) (fun o => o = h0) := hk
      exact j39_11 th16 hk _ _ _ hP hS (lv_sub hl [0] rfl)
    · replace hk := tr_iff hk tc17
      refine lv_aload_n hx hb dX8_note_18 rfl (lv_at hl 0 rfl) ?_
      refine gf_X8_22 C hP dX8_note_19 ?_
      refine lv_iload_n hx hb dX8_note_22 rfl (lv_at hl 1 rfl) ?_
      refine lv_aload_n hx hb dX8_note_23 rfl (lv_at hl 0 rfl) ?_
      refine gf_X8_22 C hP dX8_note_24 ?_
      refine lv_iload_n hx hb dX8_note_27 rfl (lv_at hl 1 rfl) ?_
      refine lv_bipush (v := 37) hx hb dX8_note_28 (by decide) ?_
      refine lv_iadd hx hb dX8_note_30 ?_
      refine tr_ti hk (fun tv18 hk => ?_)
      obtain ⟨tg19, hk⟩ := tr_okg hk
      refine tr_ial C hP (ar_M_5 w) tg19 dX8_note_31 ?_
      obtain ⟨tg20, hk⟩ := tr_okg hk
      refine tr_ias C hP hS (ar_M_5 w) tg20 dX8_note_32 (fun H locs hP hS => ?_)
      refine tr_th hk hP (fun th21 hk hP => ?_)
      obtain ⟨tv22, etv22, hk⟩ := tr_okd hk
      refine lv_iinc (v := tv22) (lv' := [(1, .int tv22), (0, .ref (tr_ad w 0))]) hx hb dX8_note_33 hl (k := 1) rfl (by rw [etv22]; rfl) (by decide) rfl (fun ls hl => ?_)
      refine lv_goto (tgt := 11) hx hb dX8_note_36 (by decide) ?_
      exact hin11 _ (tr_okS hk) _ _ _ hP hS (lv_sub hl [1, 0] rfl)
abbrev r_X8_put : Room := { frames := 2, cells := 0, slots := 0, locals := 46 }
set_option maxHeartbeats 4000000 in
set_option maxRecDepth 100000 in
theorem c_X8_put (l : Launch) (w : tr_E) (tv900 : Int32) (tv901 : Int32) (tv902 : Int32) (h : tr_H) (r0 : Int32) (h0 : tr_H) (hk : f_X8_put tv900 tv901 tv902 h = some (r0, h0)) : Met l yX8_put (Cond.code yX8_put cX8_put 4 (some .int) :: tr_T) r_X8_put (va_Pc [.ref (tr_ad w 0), .int tv900, .int tv901, .int tv902] (tr_Wo tr_M w h)) (tr_Qi tr_M w r0 h0) 0 0 (tr_R tr_M w) := by
  refine tr_start (by decide) (Nat.le_refl _) ?_
  intro p e s m args below meth c C hr hlocks hargs hP
  have hx := C.1
  have hb := C.2.1
  have hS : va_S (tr_R tr_M w) s.heap s.heap [] := va_S.rf
  have hl := lv_entry ([.ref (tr_ad w 0), .int tv900, .int tv901, .int tv902]) (n := 4) (Nat.le_of_ble_eq_true rfl)
  rw [lg_entry_eq]
  generalize (lg_sl ([.ref (tr_ad w 0), .int tv900, .int tv901, .int tv902]) ++ List.replicate (4 - (lg_sl ([.ref (tr_ad w 0), .int tv900, .int tv901, .int tv902])).length) Slot.unset).toArray = ls at hl ⊢
  have hl : lv_has ls 4 [(0, .ref (tr_ad w 0)), (1, .int tv900), (2, .int tv901), (3, .int tv902)] := hl
  replace hk : tr_ok (f_X8_put tv900 tv901 tv902 h) (fun o => o = (r0, h0)) := ⟨_, hk, rfl⟩
  unfold f_X8_put at hk
  refine lv_aload_n hx hb dX8_put_0 rfl (lv_at hl 0 rfl) ?_
  refine lv_iconst (v := 0) hx hb dX8_put_1 (by decide) ?_
  refine pf_X8_59 C hP hS dX8_put_2 (fun H locs hP hS => ?_)
  refine tr_th hk hP (fun th1 hk hP => ?_)
  refine lv_aload_n hx hb dX8_put_5 rfl (lv_at hl 0 rfl) ?_
  refine lv_iload_n hx hb dX8_put_6 rfl (lv_at hl 1 rfl) ?_
  obtain ⟨tv3, tq2, hk⟩ := tr_okb hk
  refine tr_cvi (As := [.int tv900]) (rest := []) C hP hS hl (c_X8_noDeparture l w tv900 th1 tv3 tq2) mz_X8_noDeparture ml_X8_164 (by decide) rfl rfl rfl rfl ⟨Nat.le_of_ble_eq_true rfl, Nat.le_of_ble_eq_true rfl⟩ rfl rfl (Nat.le_of_ble_eq_true rfl) ⟨Nat.le_refl _, Nat.le_refl _⟩ dX8_put_7 (fun H locs hP hS => ?_)
  refine lv_if_ne (tgt := 21) hx hb dX8_put_10 (by decide) (fun tc4 => ?_) (fun tc4 => ?_)
  · replace hk := tr_iff hk tc4
    refine lv_iconst (v := (-1)) hx hb dX8_put_21 (by decide) ?_
    exact tr_iret C hP hS hr hlocks (tr_okS (P := (fun o => o = (r0, h0))) hk) dX8_put_22
  · replace hk := tr_ift hk tc4
    refine lv_aload_n hx hb dX8_put_13 rfl (lv_at hl 0 rfl) ?_
    refine lv_iload_n hx hb dX8_put_14 rfl (lv_at hl 2 rfl) ?_
    obtain ⟨tv6, tq5, hk⟩ := tr_okb hk
    refine tr_cvi (As := [.int tv901]) (rest := []) C hP hS hl (c_X8_noDeparture l w tv901 th1 tv6 tq5) mz_X8_noDeparture ml_X8_164 (by decide) rfl rfl rfl rfl ⟨Nat.le_of_ble_eq_true rfl, Nat.le_of_ble_eq_true rfl⟩ rfl rfl (Nat.le_of_ble_eq_true rfl) ⟨Nat.le_refl _, Nat.le_refl _⟩ dX8_put_15 (fun H locs hP hS => ?_)
    refine lv_if_eq (tgt := 23) hx hb dX8_put_18 (by decide) (fun tc7 => ?_) (fun tc7 => ?_)
    · replace hk := tr_ift hk tc7
      refine lv_iload_n hx hb dX8_put_23 rfl (lv_at hl 3 rfl) ?_
      refine lv_i2l hx hb dX8_put_24 rfl ?_
      refine lv_lconst (v := 0) hx hb dX8_put_25 (by decide) ?_
      refine lv_ldc2 (v := 9) hx hb C.2.2.2.1 (C.2.2.2.2.1 _ mc_X8_168) dX8_put_26 ?_
      obtain ⟨tv9, tq8, hk⟩ := tr_okb hk
      refine tr_csi (As := [.long ((tv902 : Int32).toInt64), .long 0, .long 9]) (rest := []) C hP hS hl (c_X8_in l w ((tv902 : Int32).toInt64) 0 9 th1 tv9 tq8) mz_X8_in ml_X8_63 rfl rfl ⟨Nat.le_of_ble_eq_true rfl, Nat.le_of_ble_eq_true rfl⟩ rfl rfl (Nat.le_of_ble_eq_true rfl) ⟨Nat.le_refl _, Nat.le_refl _⟩ dX8_put_29 (fun H locs hP hS => ?_)
      refine lv_if_ne (tgt := 38) hx hb dX8_put_32 (by decide) (fun tc10 => ?_) (fun tc10 => ?_)
      · replace hk := tr_iff hk tc10
        refine lv_aload_n hx hb dX8_put_38 rfl (lv_at hl 0 rfl) ?_
        refine gf_X8_16 C hP dX8_put_39 ?_
        refine lv_iload_n hx hb dX8_put_42 rfl (lv_at hl 1 rfl) ?_
        refine lv_iload_n hx hb dX8_put_43 rfl (lv_at hl 2 rfl) ?_
        obtain ⟨tv12, tq11, hk⟩ := tr_okb hk
        refine tr_csi (As := [.ref (tr_ad w 3), .int tv900, .int tv901]) (rest := []) C hP hS hl (c_X8_isThere l w 3 tr_pg_3 tv900 tv901 th1 tv12 tq11) mz_X8_isThere ml_X8_79 rfl rfl ⟨Nat.le_of_ble_eq_true rfl, Nat.le_of_ble_eq_true rfl⟩ rfl rfl (Nat.le_of_ble_eq_true rfl) ⟨Nat.le_refl _, Nat.le_refl _⟩ dX8_put_44 (fun H locs hP hS => ?_)
        refine lv_if_eq (tgt := 53) hx hb dX8_put_47 (by decide) (fun tc13 => ?_) (fun tc13 => ?_)
        · replace hk := tr_ift hk tc13
          refine lv_aload_n hx hb dX8_put_53 rfl (lv_at hl 0 rfl) ?_
          obtain ⟨th15, tq14, hk⟩ := tr_okb hk
          refine tr_cvv (As := []) (rest := []) C hP hS hl (c_X8_note l w th1 th15 tq14) mz_X8_note ml_X8_170 (by decide) rfl rfl rfl rfl ⟨Nat.le_of_ble_eq_true rfl, Nat.le_of_ble_eq_true rfl⟩ rfl rfl (Nat.le_of_ble_eq_true rfl) ⟨Nat.le_refl _, Nat.le_refl _⟩ dX8_put_54 (fun H locs hP hS => ?_)
          refine lv_aload_n hx hb dX8_put_57 rfl (lv_at hl 0 rfl) ?_
          refine gf_X8_16 C hP dX8_put_58 ?_
          refine lv_iconst (v := 1) hx hb dX8_put_61 (by decide) ?_
          refine lv_bipush (v := 6) hx hb dX8_put_62 (by decide) ?_
          refine lv_iload_n hx hb dX8_put_64 rfl (lv_at hl 1 rfl) ?_
          refine lv_imul hx hb dX8_put_65 ?_
          refine lv_iadd hx hb dX8_put_66 ?_
          refine lv_iload_n hx hb dX8_put_67 rfl (lv_at hl 2 rfl) ?_
          refine lv_iadd hx hb dX8_put_68 ?_
          refine lv_iload_n hx hb dX8_put_69 rfl (lv_at hl 3 rfl) ?_
          refine lv_iconst (v := 1) hx hb dX8_put_70 (by decide) ?_
          refine lv_iadd hx hb dX8_put_71 ?_
          obtain ⟨tv16, etv16, hk⟩ := tr_okd hk
          rw [← etv16]
          obtain ⟨tg17, hk⟩ := tr_okg hk
          refine tr_ias C hP hS (ar_M_3 w) tg17 dX8_put_72 (fun H locs hP hS => ?_)
          refine tr_th hk hP (fun th18 hk hP => ?_)
          refine lv_aload_n hx hb dX8_put_73 rfl (lv_at hl 0 rfl) ?_
          refine gf_X8_16 C hP dX8_put_74 ?_
          obtain ⟨tv20, tq19, hk⟩ := tr_okb hk
          refine tr_csi (As := [.ref (tr_ad w 3)]) (rest := []) C hP hS hl (c_X8_waits l w 3 tr_pg_3 th18 tv20 tq19) mz_X8_waits ml_X8_105 rfl rfl ⟨Nat.le_of_ble_eq_true rfl, Nat.le_of_ble_eq_true rfl⟩ rfl rfl (Nat.le_of_ble_eq_true rfl) ⟨Nat.le_refl _, Nat.le_refl _⟩ dX8_put_77 (fun H locs hP hS => ?_)
          exact tr_iret C hP hS hr hlocks (tr_okS (P := (fun o => o = (r0, h0))) hk) dX8_put_80
        · replace hk := tr_iff hk tc13
          refine lv_bipush (v := (-3)) hx hb dX8_put_50 (by decide) ?_
          exact tr_iret C hP hS hr hlocks (tr_okS (P := (fun o => o = (r0, h0))) hk) dX8_put_52
      · replace hk := tr_ift hk tc10
        refine lv_bipush (v := (-2)) hx hb dX8_put_35 (by decide) ?_
        exact tr_iret C hP hS hr hlocks (tr_okS (P := (fun o => o = (r0, h0))) hk) dX8_put_37
    · replace hk := tr_iff hk tc7
      refine lv_iconst (v := (-1)) hx hb dX8_put_21 (by decide) ?_
      exact tr_iret C hP hS hr hlocks (tr_okS (P := (fun o => o = (r0, h0))) hk) dX8_put_22
abbrev r_X8_cut : Room := { frames := 2, cells := 0, slots := 0, locals := 46 }
set_option maxHeartbeats 4000000 in
set_option maxRecDepth 100000 in
theorem c_X8_cut (l : Launch) (w : tr_E) (tv900 : Int32) (tv901 : Int32) (h : tr_H) (r0 : Int32) (h0 : tr_H) (hk : f_X8_cut tv900 tv901 h = some (r0, h0)) : Met l yX8_cut (Cond.code yX8_cut cX8_cut 4 (some .int) :: tr_T) r_X8_cut (va_Pc [.ref (tr_ad w 0), .int tv900, .int tv901] (tr_Wo tr_M w h)) (tr_Qi tr_M w r0 h0) 0 0 (tr_R tr_M w) := by
  refine tr_start (by decide) (Nat.le_refl _) ?_
  intro p e s m args below meth c C hr hlocks hargs hP
  have hx := C.1
  have hb := C.2.1
  have hS : va_S (tr_R tr_M w) s.heap s.heap [] := va_S.rf
  have hl := lv_entry ([.ref (tr_ad w 0), .int tv900, .int tv901]) (n := 4) (Nat.le_of_ble_eq_true rfl)
  rw [lg_entry_eq]
  generalize (lg_sl ([.ref (tr_ad w 0), .int tv900, .int tv901]) ++ List.replicate (4 - (lg_sl ([.ref (tr_ad w 0), .int tv900, .int tv901])).length) Slot.unset).toArray = ls at hl ⊢
  have hl : lv_has ls 4 [(0, .ref (tr_ad w 0)), (1, .int tv900), (2, .int tv901)] := hl
  replace hk : tr_ok (f_X8_cut tv900 tv901 h) (fun o => o = (r0, h0)) := ⟨_, hk, rfl⟩
  unfold f_X8_cut at hk
  refine lv_aload_n hx hb dX8_cut_0 rfl (lv_at hl 0 rfl) ?_
  refine lv_iconst (v := 0) hx hb dX8_cut_1 (by decide) ?_
  refine pf_X8_59 C hP hS dX8_cut_2 (fun H locs hP hS => ?_)
  refine tr_th hk hP (fun th1 hk hP => ?_)
  refine lv_aload_n hx hb dX8_cut_5 rfl (lv_at hl 0 rfl) ?_
  refine lv_iload_n hx hb dX8_cut_6 rfl (lv_at hl 1 rfl) ?_
  obtain ⟨tv3, tq2, hk⟩ := tr_okb hk
  refine tr_cvi (As := [.int tv900]) (rest := []) C hP hS hl (c_X8_noDeparture l w tv900 th1 tv3 tq2) mz_X8_noDeparture ml_X8_164 (by decide) rfl rfl rfl rfl ⟨Nat.le_of_ble_eq_true rfl, Nat.le_of_ble_eq_true rfl⟩ rfl rfl (Nat.le_of_ble_eq_true rfl) ⟨Nat.le_refl _, Nat.le_refl _⟩ dX8_cut_7 (fun H locs hP hS => ?_)
  refine lv_if_ne (tgt := 21) hx hb dX8_cut_10 (by decide) (fun tc4 => ?_) (fun tc4 => ?_)
  · replace hk := tr_iff hk tc4
    refine lv_iconst (v := (-1)) hx hb dX8_cut_21 (by decide) ?_
    exact tr_iret C hP hS hr hlocks (tr_okS (P := (fun o => o = (r0, h0))) hk) dX8_cut_22
  · replace hk := tr_ift hk tc4
    refine lv_aload_n hx hb dX8_cut_13 rfl (lv_at hl 0 rfl) ?_
    refine lv_iload_n hx hb dX8_cut_14 rfl (lv_at hl 2 rfl) ?_
    obtain ⟨tv6, tq5, hk⟩ := tr_okb hk
    refine tr_cvi (As := [.int tv901]) (rest := []) C hP hS hl (c_X8_noDeparture l w tv901 th1 tv6 tq5) mz_X8_noDeparture ml_X8_164 (by decide) rfl rfl rfl rfl ⟨Nat.le_of_ble_eq_true rfl, Nat.le_of_ble_eq_true rfl⟩ rfl rfl (Nat.le_of_ble_eq_true rfl) ⟨Nat.le_refl _, Nat.le_refl _⟩ dX8_cut_15 (fun H locs hP hS => ?_)
    refine lv_if_eq (tgt := 23) hx hb dX8_cut_18 (by decide) (fun tc7 => ?_) (fun tc7 => ?_)
    · replace hk := tr_ift hk tc7
      refine lv_aload_n hx hb dX8_cut_23 rfl (lv_at hl 0 rfl) ?_
      refine gf_X8_16 C hP dX8_cut_24 ?_
      refine lv_iload_n hx hb dX8_cut_27 rfl (lv_at hl 1 rfl) ?_
      refine lv_iload_n hx hb dX8_cut_28 rfl (lv_at hl 2 rfl) ?_
      obtain ⟨tv9, tq8, hk⟩ := tr_okb hk
      refine tr_csi (As := [.ref (tr_ad w 3), .int tv900, .int tv901]) (rest := []) C hP hS hl (c_X8_isThere l w 3 tr_pg_3 tv900 tv901 th1 tv9 tq8) mz_X8_isThere ml_X8_79 rfl rfl ⟨Nat.le_of_ble_eq_true rfl, Nat.le_of_ble_eq_true rfl⟩ rfl rfl (Nat.le_of_ble_eq_true rfl) ⟨Nat.le_refl _, Nat.le_refl _⟩ dX8_cut_29 (fun H locs hP hS => ?_)
      refine lv_if_ne (tgt := 38) hx hb dX8_cut_32 (by decide) (fun tc10 => ?_) (fun tc10 => ?_)
      · replace hk := tr_iff hk tc10
        refine lv_aload_n hx hb dX8_cut_38 rfl (lv_at hl 0 rfl) ?_
        obtain ⟨th12, tq11, hk⟩ := tr_okb hk
        refine tr_cvv (As := []) (rest := []) C hP hS hl (c_X8_note l w th1 th12 tq11) mz_X8_note ml_X8_170 (by decide) rfl rfl rfl rfl ⟨Nat.le_of_ble_eq_true rfl, Nat.le_of_ble_eq_true rfl⟩ rfl rfl (Nat.le_of_ble_eq_true rfl) ⟨Nat.le_refl _, Nat.le_refl _⟩ dX8_cut_39 (fun H locs hP hS => ?_)
        refine lv_aload_n hx hb dX8_cut_42 rfl (lv_at hl 0 rfl) ?_
        refine gf_X8_16 C hP dX8_cut_43 ?_
        refine lv_iload_n hx hb dX8_cut_46 rfl (lv_at hl 1 rfl) ?_
        refine lv_iload_n hx hb dX8_cut_47 rfl (lv_at hl 2 rfl) ?_
        obtain ⟨tv14, tq13, hk⟩ := tr_okb hk
        refine tr_csi (As := [.ref (tr_ad w 3), .int tv900, .int tv901]) (rest := []) C hP hS hl (c_X8_minutesOf l w 3 tr_pg_3 tv900 tv901 th12 tv14 tq13) mz_X8_minutesOf ml_X8_67 rfl rfl ⟨Nat.le_of_ble_eq_true rfl, Nat.le_of_ble_eq_true rfl⟩ rfl rfl (Nat.le_of_ble_eq_true rfl) ⟨Nat.le_refl _, Nat.le_refl _⟩ dX8_cut_48 (fun H locs hP hS => ?_)
        refine lv_istore_n (lv' := [(3, .int tv14), (0, .ref (tr_ad w 0)), (1, .int tv900), (2, .int tv901)]) hx hb dX8_cut_51 rfl hl (by decide) rfl (fun ls hl => ?_)
        refine lv_aload_n hx hb dX8_cut_52 rfl (lv_at hl 1 rfl) ?_
        refine gf_X8_16 C hP dX8_cut_53 ?_
        refine lv_iconst (v := 1) hx hb dX8_cut_56 (by decide) ?_
        refine lv_bipush (v := 6) hx hb dX8_cut_57 (by decide) ?_
        refine lv_iload_n hx hb dX8_cut_59 rfl (lv_at hl 2 rfl) ?_
        refine lv_imul hx hb dX8_cut_60 ?_
        refine lv_iadd hx hb dX8_cut_61 ?_
        refine lv_iload_n hx hb dX8_cut_62 rfl (lv_at hl 3 rfl) ?_
        refine lv_iadd hx hb dX8_cut_63 ?_
        refine lv_iconst (v := 0) hx hb dX8_cut_64 (by decide) ?_
        obtain ⟨tv15, etv15, hk⟩ := tr_okd hk
        rw [← etv15]
        obtain ⟨tg16, hk⟩ := tr_okg hk
        refine tr_ias C hP hS (ar_M_3 w) tg16 dX8_cut_65 (fun H locs hP hS => ?_)
        refine tr_th hk hP (fun th17 hk hP => ?_)
        refine lv_iload_n hx hb dX8_cut_66 rfl (lv_at hl 0 rfl) ?_
        exact tr_iret C hP hS hr hlocks (tr_okS (P := (fun o => o = (r0, h0))) hk) dX8_cut_67
      · replace hk := tr_ift hk tc10
        refine lv_bipush (v := (-3)) hx hb dX8_cut_35 (by decide) ?_
        exact tr_iret C hP hS hr hlocks (tr_okS (P := (fun o => o = (r0, h0))) hk) dX8_cut_37
    · replace hk := tr_iff hk tc7
      refine lv_iconst (v := (-1)) hx hb dX8_cut_21 (by decide) ?_
      exact tr_iret C hP hS hr hlocks (tr_okS (P := (fun o => o = (r0, h0))) hk) dX8_cut_22
abbrev r_X8_time : Room := { frames := 2, cells := 0, slots := 0, locals := 46 }
set_option maxHeartbeats 4000000 in
set_option maxRecDepth 100000 in
theorem c_X8_time (l : Launch) (w : tr_E) (tv900 : Int32) (tv901 : Int32) (tv902 : Int32) (h : tr_H) (r0 : Int32) (h0 : tr_H) (hk : f_X8_time tv900 tv901 tv902 h = some (r0, h0)) : Met l yX8_time (Cond.code yX8_time cX8_time 5 (some .int) :: tr_T) r_X8_time (va_Pc [.ref (tr_ad w 0), .int tv900, .int tv901, .int tv902] (tr_Wo tr_M w h)) (tr_Qi tr_M w r0 h0) 0 0 (tr_R tr_M w) := by
  refine tr_start (by decide) (Nat.le_refl _) ?_
  intro p e s m args below meth c C hr hlocks hargs hP
  have hx := C.1
  have hb := C.2.1
  have hS : va_S (tr_R tr_M w) s.heap s.heap [] := va_S.rf
  have hl := lv_entry ([.ref (tr_ad w 0), .int tv900, .int tv901, .int tv902]) (n := 5) (Nat.le_of_ble_eq_true rfl)
  rw [lg_entry_eq]
  generalize (lg_sl ([.ref (tr_ad w 0), .int tv900, .int tv901, .int tv902]) ++ List.replicate (5 - (lg_sl ([.ref (tr_ad w 0), .int tv900, .int tv901, .int tv902])).length) Slot.unset).toArray = ls at hl ⊢
  have hl : lv_has ls 5 [(0, .ref (tr_ad w 0)), (1, .int tv900), (2, .int tv901), (3, .int tv902)] := hl
  replace hk : tr_ok (f_X8_time tv900 tv901 tv902 h) (fun o => o = (r0, h0)) := ⟨_, hk, rfl⟩
  unfold f_X8_time at hk
  refine lv_aload_n hx hb dX8_time_0 rfl (lv_at hl 0 rfl) ?_
  refine lv_iconst (v := 0) hx hb dX8_time_1 (by decide) ?_
  refine pf_X8_59 C hP hS dX8_time_2 (fun H locs hP hS => ?_)
  refine tr_th hk hP (fun th1 hk hP => ?_)
  refine lv_aload_n hx hb dX8_time_5 rfl (lv_at hl 0 rfl) ?_
  refine lv_iload_n hx hb dX8_time_6 rfl (lv_at hl 1 rfl) ?_
  obtain ⟨tv3, tq2, hk⟩ := tr_okb hk
  refine tr_cvi (As := [.int tv900]) (rest := []) C hP hS hl (c_X8_noDeparture l w tv900 th1 tv3 tq2) mz_X8_noDeparture ml_X8_164 (by decide) rfl rfl rfl rfl ⟨Nat.le_of_ble_eq_true rfl, Nat.le_of_ble_eq_true rfl⟩ rfl rfl (Nat.le_of_ble_eq_true rfl) ⟨Nat.le_refl _, Nat.le_refl _⟩ dX8_time_7 (fun H locs hP hS => ?_)
  refine lv_if_ne (tgt := 21) hx hb dX8_time_10 (by decide) (fun tc4 => ?_) (fun tc4 => ?_)
  · replace hk := tr_iff hk tc4
    refine lv_iconst (v := (-1)) hx hb dX8_time_21 (by decide) ?_
    exact tr_iret C hP hS hr hlocks (tr_okS (P := (fun o => o = (r0, h0))) hk) dX8_time_22
  · replace hk := tr_ift hk tc4
    refine lv_aload_n hx hb dX8_time_13 rfl (lv_at hl 0 rfl) ?_
    refine lv_iload_n hx hb dX8_time_14 rfl (lv_at hl 2 rfl) ?_
    obtain ⟨tv6, tq5, hk⟩ := tr_okb hk
    refine tr_cvi (As := [.int tv901]) (rest := []) C hP hS hl (c_X8_noDeparture l w tv901 th1 tv6 tq5) mz_X8_noDeparture ml_X8_164 (by decide) rfl rfl rfl rfl ⟨Nat.le_of_ble_eq_true rfl, Nat.le_of_ble_eq_true rfl⟩ rfl rfl (Nat.le_of_ble_eq_true rfl) ⟨Nat.le_refl _, Nat.le_refl _⟩ dX8_time_15 (fun H locs hP hS => ?_)
    refine lv_if_eq (tgt := 23) hx hb dX8_time_18 (by decide) (fun tc7 => ?_) (fun tc7 => ?_)
    · replace hk := tr_ift hk tc7
      refine lv_iload_n hx hb dX8_time_23 rfl (lv_at hl 3 rfl) ?_
      refine lv_i2l hx hb dX8_time_24 rfl ?_
      refine lv_lconst (v := 0) hx hb dX8_time_25 (by decide) ?_
      refine lv_ldc2 (v := 9) hx hb C.2.2.2.1 (C.2.2.2.2.1 _ mc_X8_168) dX8_time_26 ?_
      obtain ⟨tv9, tq8, hk⟩ := tr_okb hk
      refine tr_csi (As := [.long ((tv902 : Int32).toInt64), .long 0, .long 9]) (rest := []) C hP hS hl (c_X8_in l w ((tv902 : Int32).toInt64) 0 9 th1 tv9 tq8) mz_X8_in ml_X8_63 rfl rfl ⟨Nat.le_of_ble_eq_true rfl, Nat.le_of_ble_eq_true rfl⟩ rfl rfl (Nat.le_of_ble_eq_true rfl) ⟨Nat.le_refl _, Nat.le_refl _⟩ dX8_time_29 (fun H locs hP hS => ?_)
      refine lv_if_ne (tgt := 38) hx hb dX8_time_32 (by decide) (fun tc10 => ?_) (fun tc10 => ?_)
      · replace hk := tr_iff hk tc10
        refine lv_aload_n hx hb dX8_time_38 rfl (lv_at hl 0 rfl) ?_
        refine gf_X8_16 C hP dX8_time_39 ?_
        refine lv_iload_n hx hb dX8_time_42 rfl (lv_at hl 1 rfl) ?_
        refine lv_iload_n hx hb dX8_time_43 rfl (lv_at hl 2 rfl) ?_
        obtain ⟨tv12, tq11, hk⟩ := tr_okb hk
        refine tr_csi (As := [.ref (tr_ad w 3), .int tv900, .int tv901]) (rest := []) C hP hS hl (c_X8_isThere l w 3 tr_pg_3 tv900 tv901 th1 tv12 tq11) mz_X8_isThere ml_X8_79 rfl rfl ⟨Nat.le_of_ble_eq_true rfl, Nat.le_of_ble_eq_true rfl⟩ rfl rfl (Nat.le_of_ble_eq_true rfl) ⟨Nat.le_refl _, Nat.le_refl _⟩ dX8_time_44 (fun H locs hP hS => ?_)
        refine lv_if_ne (tgt := 53) hx hb dX8_time_47 (by decide) (fun tc13 => ?_) (fun tc13 => ?_)
        · replace hk := tr_iff hk tc13
          refine lv_aload_n hx hb dX8_time_53 rfl (lv_at hl 0 rfl) ?_
          obtain ⟨th15, tq14, hk⟩ := tr_okb hk
          refine tr_cvv (As := []) (rest := []) C hP hS hl (c_X8_note l w th1 th15 tq14) mz_X8_note ml_X8_170 (by decide) rfl rfl rfl rfl ⟨Nat.le_of_ble_eq_true rfl, Nat.le_of_ble_eq_true rfl⟩ rfl rfl (Nat.le_of_ble_eq_true rfl) ⟨Nat.le_refl _, Nat.le_refl _⟩ dX8_time_54 (fun H locs hP hS => ?_)
          refine lv_aload_n hx hb dX8_time_57 rfl (lv_at hl 0 rfl) ?_
          refine gf_X8_16 C hP dX8_time_58 ?_
          refine lv_iload_n hx hb dX8_time_61 rfl (lv_at hl 1 rfl) ?_
          refine lv_iload_n hx hb dX8_time_62 rfl (lv_at hl 2 rfl) ?_
          obtain ⟨tv17, tq16, hk⟩ := tr_okb hk
          refine tr_csi (As := [.ref (tr_ad w 3), .int tv900, .int tv901]) (rest := []) C hP hS hl (c_X8_minutesOf l w 3 tr_pg_3 tv900 tv901 th15 tv17 tq16) mz_X8_minutesOf ml_X8_67 rfl rfl ⟨Nat.le_of_ble_eq_true rfl, Nat.le_of_ble_eq_true rfl⟩ rfl rfl (Nat.le_of_ble_eq_true rfl) ⟨Nat.le_refl _, Nat.le_refl _⟩ dX8_time_63 (fun H locs hP hS => ?_)
          refine lv_istore (lv' := [(4, .int tv17), (0, .ref (tr_ad w 0)), (1, .int tv900), (2, .int tv901), (3, .int tv902)]) hx hb dX8_time_66 hl (by decide) rfl (fun ls hl => ?_)
          refine lv_aload_n hx hb dX8_time_68 rfl (lv_at hl 1 rfl) ?_
          refine gf_X8_16 C hP dX8_time_69 ?_
          refine lv_iconst (v := 1) hx hb dX8_time_72 (by decide) ?_
          refine lv_bipush (v := 6) hx hb dX8_time_73 (by decide) ?_
          refine lv_iload_n hx hb dX8_time_75 rfl (lv_at hl 2 rfl) ?_
          refine lv_imul hx hb dX8_time_76 ?_
          refine lv_iadd hx hb dX8_time_77 ?_
          refine lv_iload_n hx hb dX8_time_78 rfl (lv_at hl 3 rfl) ?_
          refine lv_iadd hx hb dX8_time_79 ?_
          refine lv_iload_n hx hb dX8_time_80 rfl (lv_at hl 4 rfl) ?_
          refine lv_iconst (v := 1) hx hb dX8_time_81 (by decide) ?_
          refine lv_iadd hx hb dX8_time_82 ?_
          obtain ⟨tv18, etv18, hk⟩ := tr_okd hk
          rw [← etv18]
          obtain ⟨tg19, hk⟩ := tr_okg hk
          refine tr_ias C hP hS (ar_M_3 w) tg19 dX8_time_83 (fun H locs hP hS => ?_)
          refine tr_th hk hP (fun th20 hk hP => ?_)
          refine lv_iload hx hb dX8_time_84 (lv_at hl 0 rfl) ?_
          exact tr_iret C hP hS hr hlocks (tr_okS (P := (fun o => o = (r0, h0))) hk) dX8_time_86
        · replace hk := tr_ift hk tc13
          refine lv_bipush (v := (-3)) hx hb dX8_time_50 (by decide) ?_
          exact tr_iret C hP hS hr hlocks (tr_okS (P := (fun o => o = (r0, h0))) hk) dX8_time_52
      · replace hk := tr_ift hk tc10
        refine lv_bipush (v := (-2)) hx hb dX8_time_35 (by decide) ?_
        exact tr_iret C hP hS hr hlocks (tr_okS (P := (fun o => o = (r0, h0))) hk) dX8_time_37
    · replace hk := tr_iff hk tc7
      refine lv_iconst (v := (-1)) hx hb dX8_time_21 (by decide) ?_
      exact tr_iret C hP hS hr hlocks (tr_okS (P := (fun o => o = (r0, h0))) hk) dX8_time_22
abbrev r_X8_undo : Room := { frames := 0, cells := 0, slots := 0, locals := 0 }
set_option maxHeartbeats 4000000 in
set_option maxRecDepth 100000 in
theorem c_X8_undo (l : Launch) (w : tr_E)  (h : tr_H) (r0 : Int32) (h0 : tr_H) (hk : f_X8_undo h = some (r0, h0)) : Met l yX8_undo (Cond.code yX8_undo cX8_undo 2 (some .int) :: tr_T) r_X8_undo (va_Pc [.ref (tr_ad w 0)] (tr_Wo tr_M w h)) (tr_Qi tr_M w r0 h0) 0 0 (tr_R tr_M w) := by
  refine tr_start (by decide) (Nat.le_refl _) ?_
  intro p e s m args below meth c C hr hlocks hargs hP
  have hx := C.1
  have hb := C.2.1
  have hS : va_S (tr_R tr_M w) s.heap s.heap [] := va_S.rf
  have hl := lv_entry ([.ref (tr_ad w 0)]) (n := 2) (Nat.le_of_ble_eq_true rfl)
  rw [lg_entry_eq]
  generalize (lg_sl ([.ref (tr_ad w 0)]) ++ List.replicate (2 - (lg_sl ([.ref (tr_ad w 0)])).length) Slot.unset).toArray = ls at hl ⊢
  have hl : lv_has ls 2 [(0, .ref (tr_ad w 0))] := hl
  replace hk : tr_ok (f_X8_undo h) (fun o => o = (r0, h0)) := ⟨_, hk, rfl⟩
  unfold f_X8_undo at hk
  refine lv_aload_n hx hb dX8_undo_0 rfl (lv_at hl 0 rfl) ?_
  refine lv_iconst (v := 0) hx hb dX8_undo_1 (by decide) ?_
  refine pf_X8_59 C hP hS dX8_undo_2 (fun H locs hP hS => ?_)
  refine tr_th hk hP (fun th1 hk hP => ?_)
  refine lv_aload_n hx hb dX8_undo_5 rfl (lv_at hl 0 rfl) ?_
  refine gf_X8_102 C hP dX8_undo_6 ?_
  refine lv_if_ne (tgt := 15) hx hb dX8_undo_9 (by decide) (fun tc2 => ?_) (fun tc2 => ?_)
  · replace hk := tr_iff hk tc2
    refine lv_aload_n hx hb dX8_undo_15 rfl (lv_at hl 0 rfl) ?_
    refine lv_dup hx hb dX8_undo_16 rfl ?_
    refine gf_X8_102 C hP dX8_undo_17 ?_
    refine lv_iconst (v := 1) hx hb dX8_undo_20 (by decide) ?_
    refine lv_isub hx hb dX8_undo_21 ?_
    refine pf_X8_102 C hP hS dX8_undo_22 (fun H locs hP hS => ?_)
    refine tr_th hk hP (fun th3 hk hP => ?_)
    refine lv_iconst (v := 0) hx hb dX8_undo_25 (by decide) ?_
    refine lv_istore_n (lv' := [(1, .int 0), (0, .ref (tr_ad w 0))]) hx hb dX8_undo_26 rfl hl (by decide) rfl (fun ls hl => ?_)
    have j59_27 : ∀ (th4 : tr_H), tr_ok (f_X8_undo_E59 th4) (fun o => o = (r0, h0)) → tr_Wd p l e r_X8_undo s m args below meth c (MQ below (tr_Qi tr_M w r0 h0) args s 0 0 (tr_R tr_M w)) tr_M w 2 59 [(0, .ref (tr_ad w 0))] [] th4 := by
      intro th4 hk H locs ls hP hS hl
      unfold f_X8_undo_E59 at hk
      refine lv_aload_n hx hb dX8_undo_59 rfl (lv_at hl 0 rfl) ?_
      refine gf_X8_102 C hP dX8_undo_60 ?_
      exact tr_iret C hP hS hr hlocks (tr_okS (P := (fun o => o = (r0, h0))) hk) dX8_undo_63
    refine tr_loop (fun q => tr_Wd p l e r_X8_undo s m args below meth c (MQ below (tr_Qi tr_M w r0 h0) args s 0 0 (tr_R tr_M w)) tr_M w 2 27 [(0, .ref (tr_ad w 0)), (1, .int q.1)] [] q.2) hk ?_ _ _ _ hP hS (lv_sub hl [1, 0] rfl)
    intro P27 hin27 hex27 q hk
    obtain ⟨tv5, th6⟩ := q
    intro H locs ls hP hS hl
    replace hk : tr_ok (f_X8_undo_L27 tv5 th6) P27 := hk
    unfold f_X8_undo_L27 at hk
    refine lv_iload_n hx hb dX8_undo_27 rfl (lv_at hl 1 rfl) ?_
    refine lv_bipush (v := 37) hx hb dX8_undo_28 (by decide) ?_
    refine lv_icmp_ge (tgt := 59) hx hb dX8_undo_30 (by decide) (fun tc7 => ?_) (fun tc7 => ?_)
    · replace hk := tr_ift hk tc7
      replace hk := hex27 _ (tr_okS hk)
      replace hk : tr_ok (f_X8_undo_E59 th6) (fun o => o = (r0, h0)) := hk
      exact j59_27 th6 hk _ _ _ hP hS (lv_sub hl [0] rfl)
    · replace hk := tr_iff hk tc7
      refine lv_aload_n hx hb dX8_undo_33 rfl (lv_at hl 0 rfl) ?_
      refine gf_X8_16 C hP dX8_undo_34 ?_
      refine lv_iload_n hx hb dX8_undo_37 rfl (lv_at hl 1 rfl) ?_
      refine lv_aload_n hx hb dX8_undo_38 rfl (lv_at hl 0 rfl) ?_
      refine gf_X8_22 C hP dX8_undo_39 ?_
      refine lv_bipush (v := 37) hx hb dX8_undo_42 (by decide) ?_
      refine lv_aload_n hx hb dX8_undo_44 rfl (lv_at hl 0 rfl) ?_
      refine gf_X8_102 C hP dX8_undo_45 ?_
      refine lv_imul hx hb dX8_undo_48 ?_
      refine lv_iload_n hx hb dX8_undo_49 rfl (lv_at hl 1 rfl) ?_
      refine lv_iadd hx hb dX8_undo_50 ?_
      refine tr_ti hk (fun tv8 hk => ?_)
      obtain ⟨tg9, hk⟩ := tr_okg hk
      refine tr_ial C hP (ar_M_5 w) tg9 dX8_undo_51 ?_
      obtain ⟨tg10, hk⟩ := tr_okg hk
      refine tr_ias C hP hS (ar_M_3 w) tg10 dX8_undo_52 (fun H locs hP hS => ?_)
      refine tr_th hk hP (fun th11 hk hP => ?_)
      obtain ⟨tv12, etv12, hk⟩ := tr_okd hk
      refine lv_iinc (v := tv12) (lv' := [(1, .int tv12), (0, .ref (tr_ad w 0))]) hx hb dX8_undo_53 hl (k := 1) rfl (by rw [etv12]; rfl) (by decide) rfl (fun ls hl => ?_)
      refine lv_goto (tgt := 27) hx hb dX8_undo_56 (by decide) ?_
      exact hin27 _ (tr_okS hk) _ _ _ hP hS (lv_sub hl [1, 0] rfl)
  · replace hk := tr_ift hk tc2
    refine lv_bipush (v := (-3)) hx hb dX8_undo_12 (by decide) ?_
    exact tr_iret C hP hS hr hlocks (tr_okS (P := (fun o => o = (r0, h0))) hk) dX8_undo_14
abbrev r_X8_divisor : Room := { frames := 0, cells := 0, slots := 0, locals := 0 }
set_option maxHeartbeats 4000000 in
set_option maxRecDepth 100000 in
theorem c_X8_divisor (l : Launch) (w : tr_E) (tv900 : Int32) (tv901 : Int32) (h : tr_H) (r0 : Int32) (hk : f_X8_divisor tv900 tv901 = some r0) : Met l yX8_divisor (Cond.code yX8_divisor cX8_divisor 5 (some .int) :: tr_T) r_X8_divisor (va_Pc [.int tv900, .int tv901] (tr_Wo tr_M w h)) (tr_Qi tr_M w r0 h) 0 0 (tr_R tr_M w) := by
  refine tr_start (by decide) (Nat.le_refl _) ?_
  intro p e s m args below meth c C hr hlocks hargs hP
  have hx := C.1
  have hb := C.2.1
  have hS : va_S (tr_R tr_M w) s.heap s.heap [] := va_S.rf
  have hl := lv_entry ([.int tv900, .int tv901]) (n := 5) (Nat.le_of_ble_eq_true rfl)
  rw [lg_entry_eq]
  generalize (lg_sl ([.int tv900, .int tv901]) ++ List.replicate (5 - (lg_sl ([.int tv900, .int tv901])).length) Slot.unset).toArray = ls at hl ⊢
  have hl : lv_has ls 5 [(0, .int tv900), (1, .int tv901)] := hl
  replace hk : tr_ok (f_X8_divisor tv900 tv901) (fun o => o = r0) := ⟨_, hk, rfl⟩
  unfold f_X8_divisor at hk
  refine lv_iload_n hx hb dX8_divisor_0 rfl (lv_at hl 0 rfl) ?_
  have j10 : ∀ (tv1 : Int32), tr_ok (f_X8_divisor_J10 tv901 tv1) (fun o => o = r0) → tr_Wd p l e r_X8_divisor s m args below meth c (MQ below (tr_Qi tr_M w r0 h) args s 0 0 (tr_R tr_M w)) tr_M w 5 10 [(1, .int tv901)] [.int tv1] h := by
    intro tv1 hk H locs ls hP hS hl
    unfold f_X8_divisor_J10 at hk
    refine lv_istore_n (lv' := [(2, .int tv1), (1, .int tv901)]) hx hb dX8_divisor_10 rfl hl (by decide) rfl (fun ls hl => ?_)
    refine lv_iload_n hx hb dX8_divisor_11 rfl (lv_at hl 1 rfl) ?_
    refine lv_istore_n (lv' := [(3, .int tv901), (2, .int tv1), (1, .int tv901)]) hx hb dX8_divisor_12 rfl hl (by decide) rfl (fun ls hl => ?_)
    have j30_13 : ∀ (tv2 : Int32), tr_ok (f_X8_divisor_E30 tv2) (fun o => o = r0) → tr_Wd p l e r_X8_divisor s m args below meth c (MQ below (tr_Qi tr_M w r0 h) args s 0 0 (tr_R tr_M w)) tr_M w 5 30 [(2, .int tv2)] [] h := by
      intro tv2 hk H locs ls hP hS hl
      unfold f_X8_divisor_E30 at hk
      refine lv_iload_n hx hb dX8_divisor_30 rfl (lv_at hl 0 rfl) ?_
      exact tr_iret C hP hS hr hlocks (congrArg (fun x => (x, h)) (tr_okS (P := (fun o => o = r0)) hk)) dX8_divisor_31
    refine tr_loop (fun q => tr_Wd p l e r_X8_divisor s m args below meth c (MQ below (tr_Qi tr_M w r0 h) args s 0 0 (tr_R tr_M w)) tr_M w 5 13 [(2, .int q.1), (3, .int q.2)] [] h) hk ?_ _ _ _ hP hS (lv_sub hl [1, 0] rfl)
    intro P13 hin13 hex13 q hk
    obtain ⟨tv3, tv4⟩ := q
    intro H locs ls hP hS hl
    replace hk : tr_ok (f_X8_divisor_L13 tv3 tv4) P13 := hk
    unfold f_X8_divisor_L13 at hk
    refine lv_iload_n hx hb dX8_divisor_13 rfl (lv_at hl 1 rfl) ?_
    refine lv_if_eq (tgt := 30) hx hb dX8_divisor_14 (by decide) (fun tc5 => ?_) (fun tc5 => ?_)
    · replace hk := tr_ift hk tc5
      replace hk := hex13 _ (tr_okS hk)
      replace hk : tr_ok (f_X8_divisor_E30 tv3) (fun o => o = r0) := hk
      exact j30_13 tv3 hk _ _ _ hP hS (lv_sub hl [0] rfl)
    · replace hk := tr_iff hk tc5
      refine lv_iload_n hx hb dX8_divisor_17 rfl (lv_at hl 0 rfl) ?_
      refine lv_iload_n hx hb dX8_divisor_18 rfl (lv_at hl 1 rfl) ?_
      obtain ⟨tg6, hk⟩ := tr_okn hk
      refine lv_irem hx hb dX8_divisor_19 tg6 ?_
      refine tr_ti hk (fun tv7 hk => ?_)
      refine lv_istore (lv' := [(4, .int tv7), (2, .int tv3), (3, .int tv4)]) hx hb dX8_divisor_20 hl (by decide) rfl (fun ls hl => ?_)
      refine lv_iload_n hx hb dX8_divisor_22 rfl (lv_at hl 2 rfl) ?_
      refine lv_istore_n (lv' := [(2, .int tv4), (4, .int tv7), (3, .int tv4)]) hx hb dX8_divisor_23 rfl hl (by decide) rfl (fun ls hl => ?_)
      refine lv_iload hx hb dX8_divisor_24 (lv_at hl 1 rfl) ?_
      refine lv_istore_n (lv' := [(3, .int tv7), (2, .int tv4), (4, .int tv7)]) hx hb dX8_divisor_26 rfl hl (by decide) rfl (fun ls hl => ?_)
      refine lv_goto (tgt := 13) hx hb dX8_divisor_27 (by decide) ?_
      exact hin13 _ (tr_okS hk) _ _ _ hP hS (lv_sub hl [1, 0] rfl)
  refine lv_if_ge (tgt := 9) hx hb dX8_divisor_1 (by decide) (fun tc8 => ?_) (fun tc8 => ?_)
  · replace hk := tr_ift hk tc8
    refine lv_iload_n hx hb dX8_divisor_9 rfl (lv_at hl 0 rfl) ?_
    exact j10 tv900 hk _ _ _ hP hS (lv_sub hl [1] rfl)
  · replace hk := tr_iff hk tc8
    refine lv_iload_n hx hb dX8_divisor_4 rfl (lv_at hl 0 rfl) ?_
    refine lv_ineg hx hb dX8_divisor_5 ?_
    refine lv_goto (tgt := 10) hx hb dX8_divisor_6 (by decide) ?_
    exact j10 (-tv900) hk _ _ _ hP hS (lv_sub hl [1] rfl)
abbrev r_X8_fraction : Room := { frames := 1, cells := 0, slots := 0, locals := 24 }
set_option maxHeartbeats 4000000 in
set_option maxRecDepth 100000 in
theorem c_X8_fraction (l : Launch) (w : tr_E) (tv900 : Int32) (tv901 : Int32) (tv902 : Int32) (h : tr_H) (r0 : Int32) (hk : f_X8_fraction tv900 tv901 tv902 = some r0) : Met l yX8_fraction (Cond.code yX8_fraction cX8_fraction 4 (some .int) :: tr_T) r_X8_fraction (va_Pc [.int tv900, .int tv901, .int tv902] (tr_Wo tr_M w h)) (tr_Qi tr_M w r0 h) 0 0 (tr_R tr_M w) := by
  refine tr_start (by decide) (Nat.le_refl _) ?_
  intro p e s m args below meth c C hr hlocks hargs hP
  have hx := C.1
  have hb := C.2.1
  have hS : va_S (tr_R tr_M w) s.heap s.heap [] := va_S.rf
  have hl := lv_entry ([.int tv900, .int tv901, .int tv902]) (n := 4) (Nat.le_of_ble_eq_true rfl)
  rw [lg_entry_eq]
  generalize (lg_sl ([.int tv900, .int tv901, .int tv902]) ++ List.replicate (4 - (lg_sl ([.int tv900, .int tv901, .int tv902])).length) Slot.unset).toArray = ls at hl ⊢
  have hl : lv_has ls 4 [(0, .int tv900), (1, .int tv901), (2, .int tv902)] := hl
  replace hk : tr_ok (f_X8_fraction tv900 tv901 tv902) (fun o => o = r0) := ⟨_, hk, rfl⟩
  unfold f_X8_fraction at hk
  refine lv_iload_n hx hb dX8_fraction_0 rfl (lv_at hl 0 rfl) ?_
  refine lv_iload_n hx hb dX8_fraction_1 rfl (lv_at hl 1 rfl) ?_
  obtain ⟨tv2, tq1, hk⟩ := tr_okb hk
  refine tr_csi (As := [.int tv900, .int tv901]) (rest := []) C hP hS hl (c_X8_divisor l w tv900 tv901 h tv2 tq1) mz_X8_divisor ml_X8_173 rfl rfl ⟨Nat.le_of_ble_eq_true rfl, Nat.le_of_ble_eq_true rfl⟩ rfl rfl (Nat.le_of_ble_eq_true rfl) ⟨Nat.le_refl _, Nat.le_refl _⟩ dX8_fraction_2 (fun H locs hP hS => ?_)
  refine lv_istore_n (lv' := [(3, .int tv2), (0, .int tv900), (1, .int tv901), (2, .int tv902)]) hx hb dX8_fraction_5 rfl hl (by decide) rfl (fun ls hl => ?_)
  refine lv_iload_n hx hb dX8_fraction_6 rfl (lv_at hl 3 rfl) ?_
  refine lv_if_eq (tgt := 16) hx hb dX8_fraction_7 (by decide) (fun tc3 => ?_) (fun tc3 => ?_)
  · replace hk := tr_ift hk tc3
    refine lv_iload_n hx hb dX8_fraction_16 rfl (lv_at hl 2 rfl) ?_
    refine lv_iload_n hx hb dX8_fraction_17 rfl (lv_at hl 0 rfl) ?_
    obtain ⟨tg4, hk⟩ := tr_okn hk
    refine lv_idiv hx hb dX8_fraction_18 tg4 ?_
    exact tr_iret C hP hS hr hlocks (congrArg (fun x => (x, h)) (tr_okS (P := (fun o => o = r0)) hk)) dX8_fraction_19
  · replace hk := tr_iff hk tc3
    refine lv_iload_n hx hb dX8_fraction_10 rfl (lv_at hl 1 rfl) ?_
    refine lv_iload_n hx hb dX8_fraction_11 rfl (lv_at hl 0 rfl) ?_
    obtain ⟨tg5, hk⟩ := tr_okn hk
    refine lv_idiv hx hb dX8_fraction_12 tg5 ?_
    refine lv_goto (tgt := 19) hx hb dX8_fraction_13 (by decide) ?_
    exact tr_iret C hP hS hr hlocks (congrArg (fun x => (x, h)) (tr_okS (P := (fun o => o = r0)) hk)) dX8_fraction_19
abbrev r_X8_pace : Room := { frames := 5, cells := 0, slots := 0, locals := 120 }
set_option maxHeartbeats 4000000 in
set_option maxRecDepth 100000 in
theorem c_X8_pace (l : Launch) (w : tr_E) (tv900 : Int32) (h : tr_H) (r0 : Int32) (h0 : tr_H) (hk : f_X8_pace tv900 h = some (r0, h0)) : Met l yX8_pace (Cond.code yX8_pace cX8_pace 2 (some .int) :: tr_T) r_X8_pace (va_Pc [.ref (tr_ad w 0), .int tv900] (tr_Wo tr_M w h)) (tr_Qi tr_M w r0 h0) 0 0 (tr_R tr_M w) := by
  refine tr_start (by decide) (Nat.le_refl _) ?_
  intro p e s m args below meth c C hr hlocks hargs hP
  have hx := C.1
  have hb := C.2.1
  have hS : va_S (tr_R tr_M w) s.heap s.heap [] := va_S.rf
  have hl := lv_entry ([.ref (tr_ad w 0), .int tv900]) (n := 2) (Nat.le_of_ble_eq_true rfl)
  rw [lg_entry_eq]
  generalize (lg_sl ([.ref (tr_ad w 0), .int tv900]) ++ List.replicate (2 - (lg_sl ([.ref (tr_ad w 0), .int tv900])).length) Slot.unset).toArray = ls at hl ⊢
  have hl : lv_has ls 2 [(0, .ref (tr_ad w 0)), (1, .int tv900)] := hl
  replace hk : tr_ok (f_X8_pace tv900 h) (fun o => o = (r0, h0)) := ⟨_, hk, rfl⟩
  unfold f_X8_pace at hk
  refine lv_aload_n hx hb dX8_pace_0 rfl (lv_at hl 0 rfl) ?_
  refine lv_iconst (v := 0) hx hb dX8_pace_1 (by decide) ?_
  refine pf_X8_59 C hP hS dX8_pace_2 (fun H locs hP hS => ?_)
  refine tr_th hk hP (fun th1 hk hP => ?_)
  refine lv_aload_n hx hb dX8_pace_5 rfl (lv_at hl 0 rfl) ?_
  refine lv_aload_n hx hb dX8_pace_6 rfl (lv_at hl 0 rfl) ?_
  refine gf_X8_16 C hP dX8_pace_7 ?_
  obtain ⟨th3, tq2, hk⟩ := tr_okb hk
  refine tr_cvv (As := [.ref (tr_ad w 3)]) (rest := []) C hP hS hl (c_X8_find l w 3 tr_pg_3 th1 th3 tq2) mz_X8_find ml_X8_146 (by decide) rfl rfl rfl rfl ⟨Nat.le_of_ble_eq_true rfl, Nat.le_of_ble_eq_true rfl⟩ rfl rfl (Nat.le_of_ble_eq_true rfl) ⟨Nat.le_refl _, Nat.le_refl _⟩ dX8_pace_10 (fun H locs hP hS => ?_)
  refine lv_aload_n hx hb dX8_pace_13 rfl (lv_at hl 0 rfl) ?_
  refine gf_X8_116 C hP dX8_pace_14 ?_
  refine lv_if_ne (tgt := 25) hx hb dX8_pace_17 (by decide) (fun tc4 => ?_) (fun tc4 => ?_)
  · replace hk := tr_iff hk tc4
    refine lv_aload_n hx hb dX8_pace_25 rfl (lv_at hl 0 rfl) ?_
    refine gf_X8_119 C hP dX8_pace_26 ?_
    refine lv_aload_n hx hb dX8_pace_29 rfl (lv_at hl 0 rfl) ?_
    refine gf_X8_116 C hP dX8_pace_30 ?_
    refine lv_iload_n hx hb dX8_pace_33 rfl (lv_at hl 1 rfl) ?_
    obtain ⟨tv6, tq5, hk⟩ := tr_okb hk
    refine tr_csi (As := [.int (th3.1 0 18), .int (th3.1 0 19), .int tv900]) (rest := []) C hP hS hl (c_X8_fraction l w (th3.1 0 18) (th3.1 0 19) tv900 th3 tv6 tq5) mz_X8_fraction ml_X8_177 rfl rfl ⟨Nat.le_of_ble_eq_true rfl, Nat.le_of_ble_eq_true rfl⟩ rfl rfl (Nat.le_of_ble_eq_true rfl) ⟨Nat.le_refl _, Nat.le_refl _⟩ dX8_pace_34 (fun H locs hP hS => ?_)
    exact tr_iret C hP hS hr hlocks (tr_okS (P := (fun o => o = (r0, h0))) hk) dX8_pace_37
  · replace hk := tr_ift hk tc4
    refine lv_bipush (v := (-9)) hx hb dX8_pace_20 (by decide) ?_
    refine lv_goto (tgt := 37) hx hb dX8_pace_22 (by decide) ?_
    exact tr_iret C hP hS hr hlocks (tr_okS (P := (fun o => o = (r0, h0))) hk) dX8_pace_37
abbrev r_X8_critical : Room := { frames := 5, cells := 0, slots := 0, locals := 120 }
set_option maxHeartbeats 4000000 in
set_option maxRecDepth 100000 in
theorem c_X8_critical (l : Launch) (w : tr_E) (tv900 : Int32) (tv901 : Int32) (h : tr_H) (r0 : Int32) (h0 : tr_H) (hk : f_X8_critical tv900 tv901 h = some (r0, h0)) : Met l yX8_critical (Cond.code yX8_critical cX8_critical 3 (some .int) :: tr_T) r_X8_critical (va_Pc [.ref (tr_ad w 0), .int tv900, .int tv901] (tr_Wo tr_M w h)) (tr_Qi tr_M w r0 h0) 0 0 (tr_R tr_M w) := by
  refine tr_start (by decide) (Nat.le_refl _) ?_
  intro p e s m args below meth c C hr hlocks hargs hP
  have hx := C.1
  have hb := C.2.1
  have hS : va_S (tr_R tr_M w) s.heap s.heap [] := va_S.rf
  have hl := lv_entry ([.ref (tr_ad w 0), .int tv900, .int tv901]) (n := 3) (Nat.le_of_ble_eq_true rfl)
  rw [lg_entry_eq]
  generalize (lg_sl ([.ref (tr_ad w 0), .int tv900, .int tv901]) ++ List.replicate (3 - (lg_sl ([.ref (tr_ad w 0), .int tv900, .int tv901])).length) Slot.unset).toArray = ls at hl ⊢
  have hl : lv_has ls 3 [(0, .ref (tr_ad w 0)), (1, .int tv900), (2, .int tv901)] := hl
  replace hk : tr_ok (f_X8_critical tv900 tv901 h) (fun o => o = (r0, h0)) := ⟨_, hk, rfl⟩
  unfold f_X8_critical at hk
  refine lv_aload_n hx hb dX8_critical_0 rfl (lv_at hl 0 rfl) ?_
  refine lv_iconst (v := 0) hx hb dX8_critical_1 (by decide) ?_
  refine pf_X8_59 C hP hS dX8_critical_2 (fun H locs hP hS => ?_)
  refine tr_th hk hP (fun th1 hk hP => ?_)
  refine lv_aload_n hx hb dX8_critical_5 rfl (lv_at hl 0 rfl) ?_
  refine lv_iload_n hx hb dX8_critical_6 rfl (lv_at hl 1 rfl) ?_
  obtain ⟨tv3, tq2, hk⟩ := tr_okb hk
  refine tr_cvi (As := [.int tv900]) (rest := []) C hP hS hl (c_X8_noDeparture l w tv900 th1 tv3 tq2) mz_X8_noDeparture ml_X8_164 (by decide) rfl rfl rfl rfl ⟨Nat.le_of_ble_eq_true rfl, Nat.le_of_ble_eq_true rfl⟩ rfl rfl (Nat.le_of_ble_eq_true rfl) ⟨Nat.le_refl _, Nat.le_refl _⟩ dX8_critical_7 (fun H locs hP hS => ?_)
  refine lv_if_ne (tgt := 21) hx hb dX8_critical_10 (by decide) (fun tc4 => ?_) (fun tc4 => ?_)
  · replace hk := tr_iff hk tc4
    refine lv_iconst (v := (-1)) hx hb dX8_critical_21 (by decide) ?_
    exact tr_iret C hP hS hr hlocks (tr_okS (P := (fun o => o = (r0, h0))) hk) dX8_critical_22
  · replace hk := tr_ift hk tc4
    refine lv_aload_n hx hb dX8_critical_13 rfl (lv_at hl 0 rfl) ?_
    refine lv_iload_n hx hb dX8_critical_14 rfl (lv_at hl 2 rfl) ?_
    obtain ⟨tv6, tq5, hk⟩ := tr_okb hk
    refine tr_cvi (As := [.int tv901]) (rest := []) C hP hS hl (c_X8_noDeparture l w tv901 th1 tv6 tq5) mz_X8_noDeparture ml_X8_164 (by decide) rfl rfl rfl rfl ⟨Nat.le_of_ble_eq_true rfl, Nat.le_of_ble_eq_true rfl⟩ rfl rfl (Nat.le_of_ble_eq_true rfl) ⟨Nat.le_refl _, Nat.le_refl _⟩ dX8_critical_15 (fun H locs hP hS => ?_)
    refine lv_if_eq (tgt := 23) hx hb dX8_critical_18 (by decide) (fun tc7 => ?_) (fun tc7 => ?_)
    · replace hk := tr_ift hk tc7
      refine lv_aload_n hx hb dX8_critical_23 rfl (lv_at hl 0 rfl) ?_
      refine gf_X8_16 C hP dX8_critical_24 ?_
      refine lv_iload_n hx hb dX8_critical_27 rfl (lv_at hl 1 rfl) ?_
      refine lv_iload_n hx hb dX8_critical_28 rfl (lv_at hl 2 rfl) ?_
      obtain ⟨tv9, tq8, hk⟩ := tr_okb hk
      refine tr_csi (As := [.ref (tr_ad w 3), .int tv900, .int tv901]) (rest := []) C hP hS hl (c_X8_isThere l w 3 tr_pg_3 tv900 tv901 th1 tv9 tq8) mz_X8_isThere ml_X8_79 rfl rfl ⟨Nat.le_of_ble_eq_true rfl, Nat.le_of_ble_eq_true rfl⟩ rfl rfl (Nat.le_of_ble_eq_true rfl) ⟨Nat.le_refl _, Nat.le_refl _⟩ dX8_critical_29 (fun H locs hP hS => ?_)
      refine lv_if_ne (tgt := 38) hx hb dX8_critical_32 (by decide) (fun tc10 => ?_) (fun tc10 => ?_)
      · replace hk := tr_iff hk tc10
        refine lv_aload_n hx hb dX8_critical_38 rfl (lv_at hl 0 rfl) ?_
        refine lv_aload_n hx hb dX8_critical_39 rfl (lv_at hl 0 rfl) ?_
        refine gf_X8_16 C hP dX8_critical_40 ?_
        obtain ⟨th12, tq11, hk⟩ := tr_okb hk
        refine tr_cvv (As := [.ref (tr_ad w 3)]) (rest := []) C hP hS hl (c_X8_find l w 3 tr_pg_3 th1 th12 tq11) mz_X8_find ml_X8_146 (by decide) rfl rfl rfl rfl ⟨Nat.le_of_ble_eq_true rfl, Nat.le_of_ble_eq_true rfl⟩ rfl rfl (Nat.le_of_ble_eq_true rfl) ⟨Nat.le_refl _, Nat.le_refl _⟩ dX8_critical_43 (fun H locs hP hS => ?_)
        refine lv_aload_n hx hb dX8_critical_46 rfl (lv_at hl 0 rfl) ?_
        refine gf_X8_122 C hP dX8_critical_47 ?_
        refine lv_bipush (v := 6) hx hb dX8_critical_50 (by decide) ?_
        refine lv_iload_n hx hb dX8_critical_52 rfl (lv_at hl 1 rfl) ?_
        refine lv_imul hx hb dX8_critical_53 ?_
        refine lv_iload_n hx hb dX8_critical_54 rfl (lv_at hl 2 rfl) ?_
        refine lv_iadd hx hb dX8_critical_55 ?_
        refine lv_lshr hx hb dX8_critical_56 rfl ?_
        refine lv_lconst (v := 1) hx hb dX8_critical_57 (by decide) ?_
        refine lv_land hx hb dX8_critical_58 ?_
        refine lv_l2i hx hb dX8_critical_59 rfl ?_
        exact tr_iret C hP hS hr hlocks (tr_okS (P := (fun o => o = (r0, h0))) hk) dX8_critical_60
      · replace hk := tr_ift hk tc10
        refine lv_bipush (v := (-3)) hx hb dX8_critical_35 (by decide) ?_
        exact tr_iret C hP hS hr hlocks (tr_okS (P := (fun o => o = (r0, h0))) hk) dX8_critical_37
    · replace hk := tr_iff hk tc7
      refine lv_iconst (v := (-1)) hx hb dX8_critical_21 (by decide) ?_
      exact tr_iret C hP hS hr hlocks (tr_okS (P := (fun o => o = (r0, h0))) hk) dX8_critical_22
