abbrev r_J7_fill_53178 : Room := { frames := 0, cells := 0, slots := 0, locals := 0 }
set_option maxHeartbeats 4000000 in
set_option maxRecDepth 100000 in
theorem c_J7_fill_53178 (l : Launch) (w : tr_E) (tn1 tj1 : Nat) (htn1 : tr_Ar tr_X w tn1 tj1) (tv901 : Int32) (h : tr_H) (h0 : tr_H) (hk : f_J7_fill_53178 tn1 tj1 tv901 h = some h0) : Met l yJ7_fill_53178 (Cond.code yJ7_fill_53178 cJ7_fill_53178 4 none :: tr_T) r_J7_fill_53178 (va_Pc [.ref (tr_ad w tn1), .int tv901] (tr_Wo tr_X w h)) (tr_Qv tr_X w h0) 0 0 (tr_R tr_X w) := by
  refine tr_start (by decide) (Nat.le_refl _) ?_
  intro p e s m args below meth c C hr hlocks hargs hP
  have hx := C.1
  have hb := C.2.1
  have hS : va_S (tr_R tr_X w) s.heap s.heap [] := va_S.rf
  have hl := lv_entry ([.ref (tr_ad w tn1), .int tv901]) (n := 4) (Nat.le_of_ble_eq_true rfl)
  rw [lg_entry_eq]
  generalize (lg_sl ([.ref (tr_ad w tn1), .int tv901]) ++ List.replicate (4 - (lg_sl ([.ref (tr_ad w tn1), .int tv901])).length) Slot.unset).toArray = ls at hl ⊢
  have hl : lv_has ls 4 [(0, .ref (tr_ad w tn1)), (1, .int tv901)] := hl
  replace hk : tr_ok (f_J7_fill_53178 tn1 tj1 tv901 h) (fun o => o = h0) := ⟨_, hk, rfl⟩
  unfold f_J7_fill_53178 at hk
  refine lv_iconst (v := 0) hx hb dJ7_fill_53178_0 (by decide) ?_
  refine lv_istore_n (lv' := [(2, .int 0), (0, .ref (tr_ad w tn1)), (1, .int tv901)]) hx hb dJ7_fill_53178_1 rfl hl (by decide) rfl (fun ls hl => ?_)
  refine lv_aload_n hx hb dJ7_fill_53178_2 rfl (lv_at hl 1 rfl) ?_
  refine tr_alen (v := Int32.ofNat tj1) C hP htn1 rfl dJ7_fill_53178_3 ?_
  refine tr_ti hk (fun tv1 hk => ?_)
  refine lv_istore_n (lv' := [(3, .int tv1), (2, .int 0), (0, .ref (tr_ad w tn1)), (1, .int tv901)]) hx hb dJ7_fill_53178_4 rfl hl (by decide) rfl (fun ls hl => ?_)
  have j20_5 : ∀ (th2 : tr_H), tr_ok (f_J7_fill_53178_E20 th2) (fun o => o = h0) → tr_Wd p l e r_J7_fill_53178 s m args below meth c (MQ below (tr_Qv tr_X w h0) args s 0 0 (tr_R tr_X w)) tr_X w 4 20 [] [] th2 := by
    intro th2 hk H locs ls hP hS hl
    unfold f_J7_fill_53178_E20 at hk
    exact tr_vret C hP hS hr hlocks (tr_okS (P := (fun o => o = h0)) hk) dJ7_fill_53178_20
  refine tr_loop (fun q => tr_Wd p l e r_J7_fill_53178 s m args below meth c (MQ below (tr_Qv tr_X w h0) args s 0 0 (tr_R tr_X w)) tr_X w 4 5 [(0, .ref (tr_ad w tn1)), (1, .int tv901), (2, .int q.1), (3, .int tv1)] [] q.2) hk ?_ _ _ _ hP hS (lv_sub hl [2, 3, 1, 0] rfl)
  intro P5 hin5 hex5 q hk
  obtain ⟨tv3, th4⟩ := q
  intro H locs ls hP hS hl
  replace hk : tr_ok (f_J7_fill_53178_L5 tv1 tj1 tn1 tv901 tv3 th4) P5 := hk
  unfold f_J7_fill_53178_L5 at hk
  refine lv_iload_n hx hb dJ7_fill_53178_5 rfl (lv_at hl 2 rfl) ?_
  refine lv_iload_n hx hb dJ7_fill_53178_6 rfl (lv_at hl 3 rfl) ?_
  refine lv_icmp_ge (tgt := 20) hx hb dJ7_fill_53178_7 (by decide) (fun tc5 => ?_) (fun tc5 => ?_)
  · replace hk := tr_ift hk tc5
    replace hk := hex5 _ (tr_okS hk)
    replace hk : tr_ok (f_J7_fill_53178_E20 th4) (fun o => o = h0) := hk
    exact j20_5 th4 hk _ _ _ hP hS (lv_sub hl [] rfl)
  · replace hk := tr_iff hk tc5
    refine lv_aload_n hx hb dJ7_fill_53178_10 rfl (lv_at hl 0 rfl) ?_
    refine lv_iload_n hx hb dJ7_fill_53178_11 rfl (lv_at hl 2 rfl) ?_
    refine lv_iload_n hx hb dJ7_fill_53178_12 rfl (lv_at hl 1 rfl) ?_
    obtain ⟨tg6, hk⟩ := tr_okg hk
    refine tr_ias C hP hS htn1 tg6 dJ7_fill_53178_13 (fun H locs hP hS => ?_)
    refine tr_th hk hP (fun th7 hk hP => ?_)
    obtain ⟨tv8, etv8, hk⟩ := tr_okd hk
    refine lv_iinc (v := tv8) (lv' := [(2, .int tv8), (0, .ref (tr_ad w tn1)), (1, .int tv901), (3, .int tv1)]) hx hb dJ7_fill_53178_14 hl (k := 2) rfl (by rw [etv8]; rfl) (by decide) rfl (fun ls hl => ?_)
    refine lv_goto (tgt := 5) hx hb dJ7_fill_53178_17 (by decide) ?_
    exact hin5 _ (tr_okS hk) _ _ _ hP hS (lv_sub hl [1, 2, 0, 3] rfl)
abbrev r_X2_of : Room := { frames := 0, cells := 0, slots := 0, locals := 0 }
set_option maxHeartbeats 4000000 in
set_option maxRecDepth 100000 in
theorem c_X2_of (l : Launch) (w : tr_E) (tn0 : Nat) (htn0 : tr_net tn0) (tv900 : Int32) (tv901 : Int32) (h : tr_H) (r0 : Int32) (hk : f_X2_of tn0 tv900 tv901 h = some r0) : Met l yX2_of (Cond.code yX2_of cX2_of 3 (some .int) :: tr_T) r_X2_of (va_Pc [.ref (tr_ad w tn0), .int tv900, .int tv901] (tr_Wo tr_X w h)) (tr_Qi tr_X w r0 h) 0 0 (tr_R tr_X w) := by
  refine tr_start (by decide) (Nat.le_refl _) ?_
  intro p e s m args below meth c C hr hlocks hargs hP
  have hx := C.1
  have hb := C.2.1
  have hS : va_S (tr_R tr_X w) s.heap s.heap [] := va_S.rf
  have hl := lv_entry ([.ref (tr_ad w tn0), .int tv900, .int tv901]) (n := 3) (Nat.le_of_ble_eq_true rfl)
  rw [lg_entry_eq]
  generalize (lg_sl ([.ref (tr_ad w tn0), .int tv900, .int tv901]) ++ List.replicate (3 - (lg_sl ([.ref (tr_ad w tn0), .int tv900, .int tv901])).length) Slot.unset).toArray = ls at hl ⊢
  have hl : lv_has ls 3 [(0, .ref (tr_ad w tn0)), (1, .int tv900), (2, .int tv901)] := hl
  replace hk : tr_ok (f_X2_of tn0 tv900 tv901 h) (fun o => o = r0) := ⟨_, hk, rfl⟩
  unfold f_X2_of at hk
  refine lv_iload_n hx hb dX2_of_0 rfl (lv_at hl 1 rfl) ?_
  refine lv_if_lt (tgt := 24) hx hb dX2_of_1 (by decide) (fun tc1 => ?_) (fun tc1 => ?_)
  · replace hk := tr_ift hk tc1
    refine lv_bipush (v := (-9)) hx hb dX2_of_24 (by decide) ?_
    exact tr_iret C hP hS hr hlocks (congrArg (fun x => (x, h)) (tr_okS (P := (fun o => o = r0)) hk)) dX2_of_26
  · replace hk := tr_iff hk tc1
    refine lv_iload_n hx hb dX2_of_4 rfl (lv_at hl 1 rfl) ?_
    refine lv_aload_n hx hb dX2_of_5 rfl (lv_at hl 0 rfl) ?_
    refine gf_X2_15 htn0 C hP dX2_of_6 ?_
    refine lv_icmp_ge (tgt := 24) hx hb dX2_of_9 (by decide) (fun tc2 => ?_) (fun tc2 => ?_)
    · replace hk := tr_ift hk tc2
      refine lv_bipush (v := (-9)) hx hb dX2_of_24 (by decide) ?_
      exact tr_iret C hP hS hr hlocks (congrArg (fun x => (x, h)) (tr_okS (P := (fun o => o = r0)) hk)) dX2_of_26
    · replace hk := tr_iff hk tc2
      refine lv_iload_n hx hb dX2_of_12 rfl (lv_at hl 2 rfl) ?_
      refine lv_if_lt (tgt := 24) hx hb dX2_of_13 (by decide) (fun tc3 => ?_) (fun tc3 => ?_)
      · replace hk := tr_ift hk tc3
        refine lv_bipush (v := (-9)) hx hb dX2_of_24 (by decide) ?_
        exact tr_iret C hP hS hr hlocks (congrArg (fun x => (x, h)) (tr_okS (P := (fun o => o = r0)) hk)) dX2_of_26
      · replace hk := tr_iff hk tc3
        refine lv_iload_n hx hb dX2_of_16 rfl (lv_at hl 2 rfl) ?_
        refine lv_aload_n hx hb dX2_of_17 rfl (lv_at hl 0 rfl) ?_
        refine gf_X2_15 htn0 C hP dX2_of_18 ?_
        refine lv_icmp_lt (tgt := 27) hx hb dX2_of_21 (by decide) (fun tc4 => ?_) (fun tc4 => ?_)
        · replace hk := tr_ift hk tc4
          refine lv_aload_n hx hb dX2_of_27 rfl (lv_at hl 0 rfl) ?_
          refine gf_X2_9 htn0 C hP dX2_of_28 ?_
          refine lv_iload_n hx hb dX2_of_31 rfl (lv_at hl 1 rfl) ?_
          refine lv_bipush (v := 6) hx hb dX2_of_32 (by decide) ?_
          refine lv_imul hx hb dX2_of_34 ?_
          refine lv_iload_n hx hb dX2_of_35 rfl (lv_at hl 2 rfl) ?_
          refine lv_iadd hx hb dX2_of_36 ?_
          refine tr_ti hk (fun tv5 hk => ?_)
          obtain ⟨tg6, hk⟩ := tr_okg hk
          refine tr_ial C hP (tr_net_ar htn0 w) tg6 dX2_of_37 ?_
          exact tr_iret C hP hS hr hlocks (congrArg (fun x => (x, h)) (tr_okS (P := (fun o => o = r0)) hk)) dX2_of_38
        · replace hk := tr_iff hk tc4
          refine lv_bipush (v := (-9)) hx hb dX2_of_24 (by decide) ?_
          exact tr_iret C hP hS hr hlocks (congrArg (fun x => (x, h)) (tr_okS (P := (fun o => o = r0)) hk)) dX2_of_26
abbrev r_X2_has : Room := { frames := 0, cells := 0, slots := 0, locals := 0 }
set_option maxHeartbeats 4000000 in
set_option maxRecDepth 100000 in
theorem c_X2_has (l : Launch) (w : tr_E) (tn0 : Nat) (htn0 : tr_net tn0) (tv900 : Int32) (h : tr_H) (r0 : Int32) (hk : f_X2_has tn0 tv900 h = some r0) : Met l yX2_has (Cond.code yX2_has cX2_has 2 (some .boolean) :: tr_T) r_X2_has (va_Pc [.ref (tr_ad w tn0), .int tv900] (tr_Wo tr_X w h)) (tr_Qi tr_X w r0 h) 0 0 (tr_R tr_X w) := by
  refine tr_start (by decide) (Nat.le_refl _) ?_
  intro p e s m args below meth c C hr hlocks hargs hP
  have hx := C.1
  have hb := C.2.1
  have hS : va_S (tr_R tr_X w) s.heap s.heap [] := va_S.rf
  have hl := lv_entry ([.ref (tr_ad w tn0), .int tv900]) (n := 2) (Nat.le_of_ble_eq_true rfl)
  rw [lg_entry_eq]
  generalize (lg_sl ([.ref (tr_ad w tn0), .int tv900]) ++ List.replicate (2 - (lg_sl ([.ref (tr_ad w tn0), .int tv900])).length) Slot.unset).toArray = ls at hl ⊢
  have hl : lv_has ls 2 [(0, .ref (tr_ad w tn0)), (1, .int tv900)] := hl
  replace hk : tr_ok (f_X2_has tn0 tv900 h) (fun o => o = r0) := ⟨_, hk, rfl⟩
  unfold f_X2_has at hk
  refine lv_iload_n hx hb dX2_has_0 rfl (lv_at hl 1 rfl) ?_
  refine lv_if_lt (tgt := 16) hx hb dX2_has_1 (by decide) (fun tc1 => ?_) (fun tc1 => ?_)
  · replace hk := tr_ift hk tc1
    refine lv_iconst (v := 0) hx hb dX2_has_16 (by decide) ?_
    exact tr_zret C hP hS hr hlocks rfl (congrArg (fun x => (x, h)) (tr_okS (P := (fun o => o = r0)) hk)) dX2_has_17
  · replace hk := tr_iff hk tc1
    refine lv_iload_n hx hb dX2_has_4 rfl (lv_at hl 1 rfl) ?_
    refine lv_aload_n hx hb dX2_has_5 rfl (lv_at hl 0 rfl) ?_
    refine gf_X2_15 htn0 C hP dX2_has_6 ?_
    refine lv_icmp_ge (tgt := 16) hx hb dX2_has_9 (by decide) (fun tc2 => ?_) (fun tc2 => ?_)
    · replace hk := tr_ift hk tc2
      refine lv_iconst (v := 0) hx hb dX2_has_16 (by decide) ?_
      exact tr_zret C hP hS hr hlocks rfl (congrArg (fun x => (x, h)) (tr_okS (P := (fun o => o = r0)) hk)) dX2_has_17
    · replace hk := tr_iff hk tc2
      refine lv_iconst (v := 1) hx hb dX2_has_12 (by decide) ?_
      refine lv_goto (tgt := 17) hx hb dX2_has_13 (by decide) ?_
      exact tr_zret C hP hS hr hlocks rfl (congrArg (fun x => (x, h)) (tr_okS (P := (fun o => o = r0)) hk)) dX2_has_17
abbrev r_X2_lay : Room := { frames := 1, cells := 0, slots := 0, locals := 21 }
set_option maxHeartbeats 4000000 in
set_option maxRecDepth 100000 in
theorem c_X2_lay (l : Launch) (w : tr_E) (tn0 : Nat) (htn0 : tr_net tn0) (tv900 : Int32) (tv901 : Int32) (tv902 : Int32) (h : tr_H) (r0 : Int32) (h0 : tr_H) (hk : f_X2_lay tn0 tv900 tv901 tv902 h = some (r0, h0)) : Met l yX2_lay (Cond.code yX2_lay cX2_lay 4 (some .boolean) :: tr_T) r_X2_lay (va_Pc [.ref (tr_ad w tn0), .int tv900, .int tv901, .int tv902] (tr_Wo tr_X w h)) (tr_Qi tr_X w r0 h0) 0 0 (tr_R tr_X w) := by
  refine tr_start (by decide) (Nat.le_refl _) ?_
  intro p e s m args below meth c C hr hlocks hargs hP
  have hx := C.1
  have hb := C.2.1
  have hS : va_S (tr_R tr_X w) s.heap s.heap [] := va_S.rf
  have hl := lv_entry ([.ref (tr_ad w tn0), .int tv900, .int tv901, .int tv902]) (n := 4) (Nat.le_of_ble_eq_true rfl)
  rw [lg_entry_eq]
  generalize (lg_sl ([.ref (tr_ad w tn0), .int tv900, .int tv901, .int tv902]) ++ List.replicate (4 - (lg_sl ([.ref (tr_ad w tn0), .int tv900, .int tv901, .int tv902])).length) Slot.unset).toArray = ls at hl ⊢
  have hl : lv_has ls 4 [(0, .ref (tr_ad w tn0)), (1, .int tv900), (2, .int tv901), (3, .int tv902)] := hl
  replace hk : tr_ok (f_X2_lay tn0 tv900 tv901 tv902 h) (fun o => o = (r0, h0)) := ⟨_, hk, rfl⟩
  unfold f_X2_lay at hk
  refine lv_aload_n hx hb dX2_lay_0 rfl (lv_at hl 0 rfl) ?_
  refine lv_iload_n hx hb dX2_lay_1 rfl (lv_at hl 1 rfl) ?_
  obtain ⟨tv2, tq1, hk⟩ := tr_okb hk
  refine tr_cvi (As := [.int tv900]) (rest := []) C hP hS hl (c_X2_has l w tn0 htn0 tv900 h tv2 tq1) mz_X2_has ml_X2_25 (tr_net_lt htn0) (tr_net_cx htn0 (tr_ad w) w.2.1 (h.1 tn0) (h.2 tn0)) rfl rfl rfl ⟨Nat.le_of_ble_eq_true rfl, Nat.le_of_ble_eq_true rfl⟩ rfl rfl (Nat.le_of_ble_eq_true rfl) ⟨Nat.le_refl _, Nat.le_refl _⟩ dX2_lay_2 (fun H locs hP hS => ?_)
  refine lv_if_eq (tgt := 16) hx hb dX2_lay_5 (by decide) (fun tc3 => ?_) (fun tc3 => ?_)
  · replace hk := tr_ift hk tc3
    refine lv_iconst (v := 0) hx hb dX2_lay_16 (by decide) ?_
    exact tr_zret C hP hS hr hlocks rfl (tr_okS (P := (fun o => o = (r0, h0))) hk) dX2_lay_17
  · replace hk := tr_iff hk tc3
    refine lv_aload_n hx hb dX2_lay_8 rfl (lv_at hl 0 rfl) ?_
    refine lv_iload_n hx hb dX2_lay_9 rfl (lv_at hl 2 rfl) ?_
    obtain ⟨tv5, tq4, hk⟩ := tr_okb hk
    refine tr_cvi (As := [.int tv901]) (rest := []) C hP hS hl (c_X2_has l w tn0 htn0 tv901 h tv5 tq4) mz_X2_has ml_X2_25 (tr_net_lt htn0) (tr_net_cx htn0 (tr_ad w) w.2.1 (h.1 tn0) (h.2 tn0)) rfl rfl rfl ⟨Nat.le_of_ble_eq_true rfl, Nat.le_of_ble_eq_true rfl⟩ rfl rfl (Nat.le_of_ble_eq_true rfl) ⟨Nat.le_refl _, Nat.le_refl _⟩ dX2_lay_10 (fun H locs hP hS => ?_)
    refine lv_if_ne (tgt := 18) hx hb dX2_lay_13 (by decide) (fun tc6 => ?_) (fun tc6 => ?_)
    · replace hk := tr_iff hk tc6
      refine lv_aload_n hx hb dX2_lay_18 rfl (lv_at hl 0 rfl) ?_
      refine gf_X2_9 htn0 C hP dX2_lay_19 ?_
      refine lv_iload_n hx hb dX2_lay_22 rfl (lv_at hl 1 rfl) ?_
      refine lv_bipush (v := 6) hx hb dX2_lay_23 (by decide) ?_
      refine lv_imul hx hb dX2_lay_25 ?_
      refine lv_iload_n hx hb dX2_lay_26 rfl (lv_at hl 2 rfl) ?_
      refine lv_iadd hx hb dX2_lay_27 ?_
      refine lv_iload_n hx hb dX2_lay_28 rfl (lv_at hl 3 rfl) ?_
      obtain ⟨tv7, etv7, hk⟩ := tr_okd hk
      rw [← etv7]
      obtain ⟨tg8, hk⟩ := tr_okg hk
      refine tr_ias C hP hS (tr_net_ar htn0 w) tg8 dX2_lay_29 (fun H locs hP hS => ?_)
      refine tr_th hk hP (fun th9 hk hP => ?_)
      refine lv_iconst (v := 1) hx hb dX2_lay_30 (by decide) ?_
      exact tr_zret C hP hS hr hlocks rfl (tr_okS (P := (fun o => o = (r0, h0))) hk) dX2_lay_31
    · replace hk := tr_ift hk tc6
      refine lv_iconst (v := 0) hx hb dX2_lay_16 (by decide) ?_
      exact tr_zret C hP hS hr hlocks rfl (tr_okS (P := (fun o => o = (r0, h0))) hk) dX2_lay_17
abbrev r_X2_leadsToAll : Room := { frames := 1, cells := 0, slots := 0, locals := 22 }
set_option maxHeartbeats 4000000 in
set_option maxRecDepth 100000 in
theorem c_X2_leadsToAll (l : Launch) (w : tr_E) (tn0 : Nat) (htn0 : tr_net tn0) (tv900 : Int32) (h : tr_H) (r0 : Int32) (hk : f_X2_leadsToAll tn0 tv900 h = some r0) : Met l yX2_leadsToAll (Cond.code yX2_leadsToAll cX2_leadsToAll 3 (some .boolean) :: tr_T) r_X2_leadsToAll (va_Pc [.ref (tr_ad w tn0), .int tv900] (tr_Wo tr_X w h)) (tr_Qi tr_X w r0 h) 0 0 (tr_R tr_X w) := by
  refine tr_start (by decide) (Nat.le_refl _) ?_
  intro p e s m args below meth c C hr hlocks hargs hP
  have hx := C.1
  have hb := C.2.1
  have hS : va_S (tr_R tr_X w) s.heap s.heap [] := va_S.rf
  have hl := lv_entry ([.ref (tr_ad w tn0), .int tv900]) (n := 3) (Nat.le_of_ble_eq_true rfl)
  rw [lg_entry_eq]
  generalize (lg_sl ([.ref (tr_ad w tn0), .int tv900]) ++ List.replicate (3 - (lg_sl ([.ref (tr_ad w tn0), .int tv900])).length) Slot.unset).toArray = ls at hl ⊢
  have hl : lv_has ls 3 [(0, .ref (tr_ad w tn0)), (1, .int tv900)] := hl
  replace hk : tr_ok (f_X2_leadsToAll tn0 tv900 h) (fun o => o = r0) := ⟨_, hk, rfl⟩
  unfold f_X2_leadsToAll at hk
  refine lv_iconst (v := 0) hx hb dX2_leadsToAll_0 (by decide) ?_
  refine lv_istore_n (lv' := [(2, .int 0), (0, .ref (tr_ad w tn0)), (1, .int tv900)]) hx hb dX2_leadsToAll_1 rfl hl (by decide) rfl (fun ls hl => ?_)
  have j29_2 : tr_ok (f_X2_leadsToAll_E29) (fun o => o = r0) → tr_Wd p l e r_X2_leadsToAll s m args below meth c (MQ below (tr_Qi tr_X w r0 h) args s 0 0 (tr_R tr_X w)) tr_X w 3 29 [] [] h := by
    intro  hk H locs ls hP hS hl
    unfold f_X2_leadsToAll_E29 at hk
    refine lv_iconst (v := 1) hx hb dX2_leadsToAll_29 (by decide) ?_
    exact tr_zret C hP hS hr hlocks rfl (congrArg (fun x => (x, h)) (tr_okS (P := (fun o => o = r0)) hk)) dX2_leadsToAll_30
  refine tr_loop (fun q => tr_Wd p l e r_X2_leadsToAll s m args below meth c (MQ below (tr_Qi tr_X w r0 h) args s 0 0 (tr_R tr_X w)) tr_X w 3 2 [(0, .ref (tr_ad w tn0)), (1, .int tv900), (2, .int q)] [] h) hk ?_ _ _ _ hP hS (lv_sub hl [1, 2, 0] rfl)
  intro P2 hin2 hex2 q hk
  generalize q = tv1 at hk ⊢
  intro H locs ls hP hS hl
  replace hk : tr_ok (f_X2_leadsToAll_L2 h tn0 tv900 tv1) P2 := hk
  unfold f_X2_leadsToAll_L2 at hk
  refine lv_iload_n hx hb dX2_leadsToAll_2 rfl (lv_at hl 2 rfl) ?_
  refine lv_aload_n hx hb dX2_leadsToAll_3 rfl (lv_at hl 0 rfl) ?_
  refine gf_X2_15 htn0 C hP dX2_leadsToAll_4 ?_
  refine lv_icmp_ge (tgt := 29) hx hb dX2_leadsToAll_7 (by decide) (fun tc2 => ?_) (fun tc2 => ?_)
  · replace hk := tr_ift hk tc2
    replace hk := hex2 _ (tr_okS hk)
    replace hk : tr_ok (f_X2_leadsToAll_E29) (fun o => o = r0) := hk
    exact j29_2 hk _ _ _ hP hS (lv_sub hl [] rfl)
  · replace hk := tr_iff hk tc2
    refine lv_aload_n hx hb dX2_leadsToAll_10 rfl (lv_at hl 0 rfl) ?_
    refine lv_iload_n hx hb dX2_leadsToAll_11 rfl (lv_at hl 1 rfl) ?_
    refine lv_iload_n hx hb dX2_leadsToAll_12 rfl (lv_at hl 2 rfl) ?_
    obtain ⟨tv4, tq3, hk⟩ := tr_okb hk
    refine tr_cvi (As := [.int tv900, .int tv1]) (rest := []) C hP hS hl (c_X2_of l w tn0 htn0 tv900 tv1 h tv4 tq3) mz_X2_of ml_X2_29 (tr_net_lt htn0) (tr_net_cx htn0 (tr_ad w) w.2.1 (h.1 tn0) (h.2 tn0)) rfl rfl rfl ⟨Nat.le_of_ble_eq_true rfl, Nat.le_of_ble_eq_true rfl⟩ rfl rfl (Nat.le_of_ble_eq_true rfl) ⟨Nat.le_refl _, Nat.le_refl _⟩ dX2_leadsToAll_13 (fun H locs hP hS => ?_)
    refine lv_bipush (v := (-9)) hx hb dX2_leadsToAll_16 (by decide) ?_
    refine lv_icmp_ne (tgt := 23) hx hb dX2_leadsToAll_18 (by decide) (fun tc5 => ?_) (fun tc5 => ?_)
    · replace hk := tr_iff hk tc5
      obtain ⟨tv6, etv6, hk⟩ := tr_okd hk
      refine lv_iinc (v := tv6) (lv' := [(2, .int tv6), (0, .ref (tr_ad w tn0)), (1, .int tv900)]) hx hb dX2_leadsToAll_23 hl (k := 2) rfl (by rw [etv6]; rfl) (by decide) rfl (fun ls hl => ?_)
      refine lv_goto (tgt := 2) hx hb dX2_leadsToAll_26 (by decide) ?_
      exact hin2 _ (tr_okS hk) _ _ _ hP hS (lv_sub hl [1, 2, 0] rfl)
    · replace hk := tr_ift hk tc5
      refine lv_iconst (v := 0) hx hb dX2_leadsToAll_21 (by decide) ?_
      replace hk := hex2 _ (tr_okS hk)
      replace hk : tr_ok (some 0) (fun o => o = r0) := hk
      exact tr_zret C hP hS hr hlocks rfl (congrArg (fun x => (x, h)) (tr_okS (P := (fun o => o = r0)) hk)) dX2_leadsToAll_22
abbrev r_X2_waits : Room := { frames := 0, cells := 0, slots := 0, locals := 0 }
set_option maxHeartbeats 4000000 in
set_option maxRecDepth 100000 in
theorem c_X2_waits (l : Launch) (w : tr_E) (tn0 : Nat) (htn0 : tr_net tn0) (h : tr_H) (r0 : Int32) (hk : f_X2_waits tn0 h = some r0) : Met l yX2_waits (Cond.code yX2_waits cX2_waits 3 (some .int) :: tr_T) r_X2_waits (va_Pc [.ref (tr_ad w tn0)] (tr_Wo tr_X w h)) (tr_Qi tr_X w r0 h) 0 0 (tr_R tr_X w) := by
  refine tr_start (by decide) (Nat.le_refl _) ?_
  intro p e s m args below meth c C hr hlocks hargs hP
  have hx := C.1
  have hb := C.2.1
  have hS : va_S (tr_R tr_X w) s.heap s.heap [] := va_S.rf
  have hl := lv_entry ([.ref (tr_ad w tn0)]) (n := 3) (Nat.le_of_ble_eq_true rfl)
  rw [lg_entry_eq]
  generalize (lg_sl ([.ref (tr_ad w tn0)]) ++ List.replicate (3 - (lg_sl ([.ref (tr_ad w tn0)])).length) Slot.unset).toArray = ls at hl ⊢
  have hl : lv_has ls 3 [(0, .ref (tr_ad w tn0))] := hl
  replace hk : tr_ok (f_X2_waits tn0 h) (fun o => o = r0) := ⟨_, hk, rfl⟩
  unfold f_X2_waits at hk
  refine lv_iconst (v := 0) hx hb dX2_waits_0 (by decide) ?_
  refine lv_istore_n (lv' := [(1, .int 0), (0, .ref (tr_ad w tn0))]) hx hb dX2_waits_1 rfl hl (by decide) rfl (fun ls hl => ?_)
  refine lv_iconst (v := 0) hx hb dX2_waits_2 (by decide) ?_
  refine lv_istore_n (lv' := [(2, .int 0), (1, .int 0), (0, .ref (tr_ad w tn0))]) hx hb dX2_waits_3 rfl hl (by decide) rfl (fun ls hl => ?_)
  have j30_4 : ∀ (tv1 : Int32), tr_ok (f_X2_waits_E30 tv1) (fun o => o = r0) → tr_Wd p l e r_X2_waits s m args below meth c (MQ below (tr_Qi tr_X w r0 h) args s 0 0 (tr_R tr_X w)) tr_X w 3 30 [(1, .int tv1)] [] h := by
    intro tv1 hk H locs ls hP hS hl
    unfold f_X2_waits_E30 at hk
    refine lv_iload_n hx hb dX2_waits_30 rfl (lv_at hl 0 rfl) ?_
    exact tr_iret C hP hS hr hlocks (congrArg (fun x => (x, h)) (tr_okS (P := (fun o => o = r0)) hk)) dX2_waits_31
  refine tr_loop (fun q => tr_Wd p l e r_X2_waits s m args below meth c (MQ below (tr_Qi tr_X w r0 h) args s 0 0 (tr_R tr_X w)) tr_X w 3 4 [(0, .ref (tr_ad w tn0)), (1, .int q.1), (2, .int q.2)] [] h) hk ?_ _ _ _ hP hS (lv_sub hl [2, 1, 0] rfl)
  intro P4 hin4 hex4 q hk
  obtain ⟨tv2, tv3⟩ := q
  intro H locs ls hP hS hl
  replace hk : tr_ok (f_X2_waits_L4 h tn0 tv2 tv3) P4 := hk
  unfold f_X2_waits_L4 at hk
  refine lv_iload_n hx hb dX2_waits_4 rfl (lv_at hl 2 rfl) ?_
  refine lv_bipush (v := 36) hx hb dX2_waits_5 (by decide) ?_
  refine lv_icmp_ge (tgt := 30) hx hb dX2_waits_7 (by decide) (fun tc4 => ?_) (fun tc4 => ?_)
  · replace hk := tr_ift hk tc4
    replace hk := hex4 _ (tr_okS hk)
    replace hk : tr_ok (f_X2_waits_E30 tv2) (fun o => o = r0) := hk
    exact j30_4 tv2 hk _ _ _ hP hS (lv_sub hl [1] rfl)
  · replace hk := tr_iff hk tc4
    refine lv_aload_n hx hb dX2_waits_10 rfl (lv_at hl 0 rfl) ?_
    refine gf_X2_9 htn0 C hP dX2_waits_11 ?_
    refine lv_iload_n hx hb dX2_waits_14 rfl (lv_at hl 2 rfl) ?_
    obtain ⟨tg5, hk⟩ := tr_okg hk
    refine tr_ial C hP (tr_net_ar htn0 w) tg5 dX2_waits_15 ?_
    refine lv_bipush (v := (-9)) hx hb dX2_waits_16 (by decide) ?_
    refine lv_icmp_eq (tgt := 24) hx hb dX2_waits_18 (by decide) (fun tc6 => ?_) (fun tc6 => ?_)
    · replace hk := tr_ift hk tc6
      obtain ⟨tv7, etv7, hk⟩ := tr_okd hk
      refine lv_iinc (v := tv7) (lv' := [(2, .int tv7), (0, .ref (tr_ad w tn0)), (1, .int tv2)]) hx hb dX2_waits_24 hl (k := 2) rfl (by rw [etv7]; rfl) (by decide) rfl (fun ls hl => ?_)
      refine lv_goto (tgt := 4) hx hb dX2_waits_27 (by decide) ?_
      exact hin4 _ (tr_okS hk) _ _ _ hP hS (lv_sub hl [1, 2, 0] rfl)
    · replace hk := tr_iff hk tc6
      obtain ⟨tv8, etv8, hk⟩ := tr_okd hk
      refine lv_iinc (v := tv8) (lv' := [(1, .int tv8), (0, .ref (tr_ad w tn0)), (2, .int tv3)]) hx hb dX2_waits_21 hl (k := 1) rfl (by rw [etv8]; rfl) (by decide) rfl (fun ls hl => ?_)
      obtain ⟨tv9, etv9, hk⟩ := tr_okd hk
      refine lv_iinc (v := tv9) (lv' := [(2, .int tv9), (1, .int tv8), (0, .ref (tr_ad w tn0))]) hx hb dX2_waits_24 hl (k := 2) rfl (by rw [etv9]; rfl) (by decide) rfl (fun ls hl => ?_)
      refine lv_goto (tgt := 4) hx hb dX2_waits_27 (by decide) ?_
      exact hin4 _ (tr_okS hk) _ _ _ hP hS (lv_sub hl [2, 1, 0] rfl)
abbrev r_X2_begin : Room := { frames := 1, cells := 0, slots := 0, locals := 23 }
set_option maxHeartbeats 4000000 in
set_option maxRecDepth 100000 in
theorem c_X2_begin (l : Launch) (w : tr_E) (tn0 : Nat) (htn0 : tr_net tn0) (tv900 : Int32) (h : tr_H) (h0 : tr_H) (hk : f_X2_begin tn0 tv900 h = some h0) : Met l yX2_begin (Cond.code yX2_begin cX2_begin 2 none :: tr_T) r_X2_begin (va_Pc [.ref (tr_ad w tn0), .int tv900] (tr_Wo tr_X w h)) (tr_Qv tr_X w h0) 0 0 (tr_R tr_X w) := by
  refine tr_start (by decide) (Nat.le_refl _) ?_
  intro p e s m args below meth c C hr hlocks hargs hP
  have hx := C.1
  have hb := C.2.1
  have hS : va_S (tr_R tr_X w) s.heap s.heap [] := va_S.rf
  have hl := lv_entry ([.ref (tr_ad w tn0), .int tv900]) (n := 2) (Nat.le_of_ble_eq_true rfl)
  rw [lg_entry_eq]
  generalize (lg_sl ([.ref (tr_ad w tn0), .int tv900]) ++ List.replicate (2 - (lg_sl ([.ref (tr_ad w tn0), .int tv900])).length) Slot.unset).toArray = ls at hl ⊢
  have hl : lv_has ls 2 [(0, .ref (tr_ad w tn0)), (1, .int tv900)] := hl
  replace hk : tr_ok (f_X2_begin tn0 tv900 h) (fun o => o = h0) := ⟨_, hk, rfl⟩
  unfold f_X2_begin at hk
  refine lv_aload_n hx hb dX2_begin_0 rfl (lv_at hl 0 rfl) ?_
  refine lv_iconst (v := 1) hx hb dX2_begin_1 (by decide) ?_
  refine lv_bipush (v := 6) hx hb dX2_begin_2 (by decide) ?_
  refine lv_iload_n hx hb dX2_begin_4 rfl (lv_at hl 1 rfl) ?_
  refine tr_mn C hl ml_X2_33 ⟨Nat.le_of_ble_eq_true rfl, Nat.le_of_ble_eq_true rfl⟩ ⟨Nat.le_refl _, Nat.le_refl _⟩ dX2_begin_5 ?_
  refine tr_mx C hl ml_X2_38 ⟨Nat.le_of_ble_eq_true rfl, Nat.le_of_ble_eq_true rfl⟩ ⟨Nat.le_refl _, Nat.le_refl _⟩ dX2_begin_8 ?_
  refine pf_X2_15 htn0 C hP hS dX2_begin_11 (fun H locs hP hS => ?_)
  refine tr_th hk hP (fun th1 hk hP => ?_)
  refine lv_aload_n hx hb dX2_begin_14 rfl (lv_at hl 0 rfl) ?_
  refine gf_X2_9 htn0 C hP dX2_begin_15 ?_
  refine lv_bipush (v := (-9)) hx hb dX2_begin_18 (by decide) ?_
  obtain ⟨th3, tq2, hk⟩ := tr_okb hk
  refine tr_csv (As := [.ref (tr_ad w (tn0 + 1)), .int (-9)]) (rest := []) C hP hS hl (c_J7_fill_53178 l w (tn0 + 1) 36 (tr_net_ar htn0 w) (-9) th1 th3 tq2) mz_J7_fill_53178 ml_X2_19 rfl rfl ⟨Nat.le_of_ble_eq_true rfl, Nat.le_of_ble_eq_true rfl⟩ rfl rfl (Nat.le_of_ble_eq_true rfl) ⟨Nat.le_refl _, Nat.le_refl _⟩ dX2_begin_20 (fun H locs hP hS => ?_)
  exact tr_vret C hP hS hr hlocks (tr_okS (P := (fun o => o = h0)) hk) dX2_begin_23
abbrev r_X2_copyFrom : Room := { frames := 1, cells := 0, slots := 0, locals := 26 }
set_option maxHeartbeats 4000000 in
set_option maxRecDepth 100000 in
theorem c_X2_copyFrom (l : Launch) (w : tr_E) (tn0 : Nat) (htn0 : tr_net tn0) (tn1 : Nat) (htn1 : tr_net tn1) (h : tr_H) (h0 : tr_H) (hk : f_X2_copyFrom tn0 tn1 h = some h0) : Met l yX2_copyFrom (Cond.code yX2_copyFrom cX2_copyFrom 2 none :: tr_T) r_X2_copyFrom (va_Pc [.ref (tr_ad w tn0), .ref (tr_ad w tn1)] (tr_Wo tr_X w h)) (tr_Qv tr_X w h0) 0 0 (tr_R tr_X w) := by
  refine tr_start (by decide) (Nat.le_refl _) ?_
  intro p e s m args below meth c C hr hlocks hargs hP
  have hx := C.1
  have hb := C.2.1
  have hS : va_S (tr_R tr_X w) s.heap s.heap [] := va_S.rf
  have hl := lv_entry ([.ref (tr_ad w tn0), .ref (tr_ad w tn1)]) (n := 2) (Nat.le_of_ble_eq_true rfl)
  rw [lg_entry_eq]
  generalize (lg_sl ([.ref (tr_ad w tn0), .ref (tr_ad w tn1)]) ++ List.replicate (2 - (lg_sl ([.ref (tr_ad w tn0), .ref (tr_ad w tn1)])).length) Slot.unset).toArray = ls at hl ⊢
  have hl : lv_has ls 2 [(0, .ref (tr_ad w tn0)), (1, .ref (tr_ad w tn1))] := hl
  replace hk : tr_ok (f_X2_copyFrom tn0 tn1 h) (fun o => o = h0) := ⟨_, hk, rfl⟩
  unfold f_X2_copyFrom at hk
  refine lv_aload_n hx hb dX2_copyFrom_0 rfl (lv_at hl 0 rfl) ?_
  refine lv_aload_n hx hb dX2_copyFrom_1 rfl (lv_at hl 1 rfl) ?_
  refine gf_X2_15 htn1 C hP dX2_copyFrom_2 ?_
  refine pf_X2_15 htn0 C hP hS dX2_copyFrom_5 (fun H locs hP hS => ?_)
  refine tr_th hk hP (fun th1 hk hP => ?_)
  refine lv_aload_n hx hb dX2_copyFrom_8 rfl (lv_at hl 1 rfl) ?_
  refine gf_X2_9 htn1 C hP dX2_copyFrom_9 ?_
  refine lv_iconst (v := 0) hx hb dX2_copyFrom_12 (by decide) ?_
  refine lv_aload_n hx hb dX2_copyFrom_13 rfl (lv_at hl 0 rfl) ?_
  refine gf_X2_9 htn0 C hP dX2_copyFrom_14 ?_
  refine lv_iconst (v := 0) hx hb dX2_copyFrom_17 (by decide) ?_
  refine lv_bipush (v := 36) hx hb dX2_copyFrom_18 (by decide) ?_
  refine tr_acp C hP hS hl (tr_net_ar htn1 w) (tr_net_ar htn0 w) ml_X2_41 ⟨Nat.le_of_ble_eq_true rfl, Nat.le_of_ble_eq_true rfl⟩ dX2_copyFrom_20 (fun H locs hP hS => ?_)
  refine tr_th hk hP (fun th2 hk hP => ?_)
  exact tr_vret C hP hS hr hlocks (tr_okS (P := (fun o => o = h0)) hk) dX2_copyFrom_23
