abbrev r_X7_write : Room := { frames := 0, cells := 0, slots := 0, locals := 0 }
set_option maxHeartbeats 4000000 in
set_option maxRecDepth 100000 in
theorem c_X7_write (l : Launch) (w : tr_E) (tv900 : Int32) (h : tr_H) (r0 : Int32) (h0 : tr_H) (hk : f_X7_write tv900 h = some (r0, h0)) : Met l yX7_write (Cond.code yX7_write cX7_write 2 (some .int) :: tr_T) r_X7_write (va_Pc [.ref (tr_ad w 0), .int tv900] (tr_Wo tr_X w h)) (tr_Qi tr_X w r0 h0) 0 0 (tr_R tr_X w) := by
  refine tr_start (by decide) (Nat.le_refl _) ?_
  intro p e s m args below meth c C hr hlocks hargs hP
  have hx := C.1
  have hb := C.2.1
  have hS : va_S (tr_R tr_X w) s.heap s.heap [] := va_S.rf
  have hl := lv_entry ([.ref (tr_ad w 0), .int tv900]) (n := 2) (Nat.le_of_ble_eq_true rfl)
  rw [lg_entry_eq]
  generalize (lg_sl ([.ref (tr_ad w 0), .int tv900]) ++ List.replicate (2 - (lg_sl ([.ref (tr_ad w 0), .int tv900])).length) Slot.unset).toArray = ls at hl ⊢
  have hl : lv_has ls 2 [(0, .ref (tr_ad w 0)), (1, .int tv900)] := hl
  replace hk : tr_ok (f_X7_write tv900 h) (fun o => o = (r0, h0)) := ⟨_, hk, rfl⟩
  unfold f_X7_write at hk
  refine lv_iload_n hx hb dX7_write_0 rfl (lv_at hl 1 rfl) ?_
  refine lv_if_lt (tgt := 11) hx hb dX7_write_1 (by decide) (fun tc1 => ?_) (fun tc1 => ?_)
  · replace hk := tr_ift hk tc1
    refine lv_bipush (v := (-2)) hx hb dX7_write_11 (by decide) ?_
    exact tr_iret C hP hS hr hlocks (tr_okS (P := (fun o => o = (r0, h0))) hk) dX7_write_13
  · replace hk := tr_iff hk tc1
    refine lv_iload_n hx hb dX7_write_4 rfl (lv_at hl 1 rfl) ?_
    refine lv_sipush (v := 255) hx hb dX7_write_5 (by decide) ?_
    refine lv_icmp_le (tgt := 14) hx hb dX7_write_8 (by decide) (fun tc2 => ?_) (fun tc2 => ?_)
    · replace hk := tr_ift hk tc2
      refine lv_aload_n hx hb dX7_write_14 rfl (lv_at hl 0 rfl) ?_
      refine gf_X7_73 C hP dX7_write_15 ?_
      refine lv_if_lt (tgt := 30) hx hb dX7_write_18 (by decide) (fun tc3 => ?_) (fun tc3 => ?_)
      · replace hk := tr_ift hk tc3
        refine lv_bipush (v := (-4)) hx hb dX7_write_30 (by decide) ?_
        exact tr_iret C hP hS hr hlocks (tr_okS (P := (fun o => o = (r0, h0))) hk) dX7_write_32
      · replace hk := tr_iff hk tc3
        refine lv_aload_n hx hb dX7_write_21 rfl (lv_at hl 0 rfl) ?_
        refine gf_X7_73 C hP dX7_write_22 ?_
        refine lv_bipush (v := 64) hx hb dX7_write_25 (by decide) ?_
        refine lv_icmp_lt (tgt := 33) hx hb dX7_write_27 (by decide) (fun tc4 => ?_) (fun tc4 => ?_)
        · replace hk := tr_ift hk tc4
          refine lv_aload_n hx hb dX7_write_33 rfl (lv_at hl 0 rfl) ?_
          refine gf_X7_9 C hP dX7_write_34 ?_
          refine lv_aload_n hx hb dX7_write_37 rfl (lv_at hl 0 rfl) ?_
          refine gf_X7_73 C hP dX7_write_38 ?_
          refine lv_iload_n hx hb dX7_write_41 rfl (lv_at hl 1 rfl) ?_
          obtain ⟨tv5, etv5, hk⟩ := tr_okd hk
          rw [← etv5]
          obtain ⟨tg6, hk⟩ := tr_okg hk
          refine tr_ias C hP hS (ar_X_1 w) tg6 dX7_write_42 (fun H locs hP hS => ?_)
          refine tr_th hk hP (fun th7 hk hP => ?_)
          refine lv_aload_n hx hb dX7_write_43 rfl (lv_at hl 0 rfl) ?_
          refine lv_dup hx hb dX7_write_44 rfl ?_
          refine gf_X7_73 C hP dX7_write_45 ?_
          refine lv_iconst (v := 1) hx hb dX7_write_48 (by decide) ?_
          refine lv_iadd hx hb dX7_write_49 ?_
          refine pf_X7_73 C hP hS dX7_write_50 (fun H locs hP hS => ?_)
          refine tr_th hk hP (fun th8 hk hP => ?_)
          refine lv_aload_n hx hb dX7_write_53 rfl (lv_at hl 0 rfl) ?_
          refine gf_X7_73 C hP dX7_write_54 ?_
          exact tr_iret C hP hS hr hlocks (tr_okS (P := (fun o => o = (r0, h0))) hk) dX7_write_57
        · replace hk := tr_iff hk tc4
          refine lv_bipush (v := (-4)) hx hb dX7_write_30 (by decide) ?_
          exact tr_iret C hP hS hr hlocks (tr_okS (P := (fun o => o = (r0, h0))) hk) dX7_write_32
    · replace hk := tr_iff hk tc2
      refine lv_bipush (v := (-2)) hx hb dX7_write_11 (by decide) ?_
      exact tr_iret C hP hS hr hlocks (tr_okS (P := (fun o => o = (r0, h0))) hk) dX7_write_13
abbrev r_X7_wipe : Room := { frames := 0, cells := 0, slots := 0, locals := 0 }
set_option maxHeartbeats 4000000 in
set_option maxRecDepth 100000 in
theorem c_X7_wipe (l : Launch) (w : tr_E)  (h : tr_H) (r0 : Int32) (h0 : tr_H) (hk : f_X7_wipe h = some (r0, h0)) : Met l yX7_wipe (Cond.code yX7_wipe cX7_wipe 2 (some .int) :: tr_T) r_X7_wipe (va_Pc [.ref (tr_ad w 0)] (tr_Wo tr_X w h)) (tr_Qi tr_X w r0 h0) 0 0 (tr_R tr_X w) := by
  refine tr_start (by decide) (Nat.le_refl _) ?_
  intro p e s m args below meth c C hr hlocks hargs hP
  have hx := C.1
  have hb := C.2.1
  have hS : va_S (tr_R tr_X w) s.heap s.heap [] := va_S.rf
  have hl := lv_entry ([.ref (tr_ad w 0)]) (n := 2) (Nat.le_of_ble_eq_true rfl)
  rw [lg_entry_eq]
  generalize (lg_sl ([.ref (tr_ad w 0)]) ++ List.replicate (2 - (lg_sl ([.ref (tr_ad w 0)])).length) Slot.unset).toArray = ls at hl ⊢
  have hl : lv_has ls 2 [(0, .ref (tr_ad w 0))] := hl
  replace hk : tr_ok (f_X7_wipe h) (fun o => o = (r0, h0)) := ⟨_, hk, rfl⟩
  unfold f_X7_wipe at hk
  refine lv_aload_n hx hb dX7_wipe_0 rfl (lv_at hl 0 rfl) ?_
  refine gf_X7_73 C hP dX7_wipe_1 ?_
  refine tr_ti hk (fun tv1 hk => ?_)
  refine lv_istore_n (lv' := [(1, .int tv1), (0, .ref (tr_ad w 0))]) hx hb dX7_wipe_4 rfl hl (by decide) rfl (fun ls hl => ?_)
  refine lv_aload_n hx hb dX7_wipe_5 rfl (lv_at hl 1 rfl) ?_
  refine lv_iconst (v := 0) hx hb dX7_wipe_6 (by decide) ?_
  refine pf_X7_73 C hP hS dX7_wipe_7 (fun H locs hP hS => ?_)
  refine tr_th hk hP (fun th2 hk hP => ?_)
  refine lv_iload_n hx hb dX7_wipe_10 rfl (lv_at hl 0 rfl) ?_
  exact tr_iret C hP hS hr hlocks (tr_okS (P := (fun o => o = (r0, h0))) hk) dX7_wipe_11
abbrev r_X7_fault : Room := { frames := 4, cells := 0, slots := 0, locals := 92 }
set_option maxHeartbeats 4000000 in
set_option maxRecDepth 100000 in
theorem c_X7_fault (l : Launch) (w : tr_E)  (h : tr_H) (r0 : Int32) (h0 : tr_H) (hk : f_X7_fault h = some (r0, h0)) : Met l yX7_fault (Cond.code yX7_fault cX7_fault 1 (some .int) :: tr_T) r_X7_fault (va_Pc [.ref (tr_ad w 0)] (tr_Wo tr_X w h)) (tr_Qi tr_X w r0 h0) 0 0 (tr_R tr_X w) := by
  refine tr_start (by decide) (Nat.le_refl _) ?_
  intro p e s m args below meth c C hr hlocks hargs hP
  have hx := C.1
  have hb := C.2.1
  have hS : va_S (tr_R tr_X w) s.heap s.heap [] := va_S.rf
  have hl := lv_entry ([.ref (tr_ad w 0)]) (n := 1) (Nat.le_of_ble_eq_true rfl)
  rw [lg_entry_eq]
  generalize (lg_sl ([.ref (tr_ad w 0)]) ++ List.replicate (1 - (lg_sl ([.ref (tr_ad w 0)])).length) Slot.unset).toArray = ls at hl ⊢
  have hl : lv_has ls 1 [(0, .ref (tr_ad w 0))] := hl
  replace hk : tr_ok (f_X7_fault h) (fun o => o = (r0, h0)) := ⟨_, hk, rfl⟩
  unfold f_X7_fault at hk
  refine lv_aload_n hx hb dX7_fault_0 rfl (lv_at hl 0 rfl) ?_
  refine gf_X7_34 C hP dX7_fault_1 ?_
  refine lv_aload_n hx hb dX7_fault_4 rfl (lv_at hl 0 rfl) ?_
  refine gf_X7_9 C hP dX7_fault_5 ?_
  refine lv_aload_n hx hb dX7_fault_8 rfl (lv_at hl 0 rfl) ?_
  refine gf_X7_73 C hP dX7_fault_9 ?_
  refine lv_aload_n hx hb dX7_fault_12 rfl (lv_at hl 0 rfl) ?_
  refine gf_X7_20 C hP dX7_fault_13 ?_
  obtain ⟨tv2, th3, tq1, hk⟩ := tr_okb2 hk
  refine tr_cvi (As := [.ref (tr_ad w 1), .int (h.1 0 11), .ref (tr_ad w 4)]) (rest := []) C hP hS hl (c_X3_read l w (h.1 0 11) 4 tr_net_4 h tv2 th3 tq1) mz_X3_read ml_X7_77 (by decide) rfl rfl rfl rfl ⟨Nat.le_of_ble_eq_true rfl, Nat.le_of_ble_eq_true rfl⟩ rfl rfl (Nat.le_of_ble_eq_true rfl) ⟨Nat.le_refl _, Nat.le_refl _⟩ dX7_fault_16 (fun H locs hP hS => ?_)
  exact tr_iret C hP hS hr hlocks (tr_okS (P := (fun o => o = (r0, h0))) hk) dX7_fault_19
abbrev r_X7_net : Room := { frames := 4, cells := 0, slots := 0, locals := 92 }
set_option maxHeartbeats 4000000 in
set_option maxRecDepth 100000 in
theorem c_X7_net (l : Launch) (w : tr_E)  (h : tr_H) (r0 : Int32) (h0 : tr_H) (hk : f_X7_net h = some (r0, h0)) : Met l yX7_net (Cond.code yX7_net cX7_net 2 (some .int) :: tr_T) r_X7_net (va_Pc [.ref (tr_ad w 0)] (tr_Wo tr_X w h)) (tr_Qi tr_X w r0 h0) 0 0 (tr_R tr_X w) := by
  refine tr_start (by decide) (Nat.le_refl _) ?_
  intro p e s m args below meth c C hr hlocks hargs hP
  have hx := C.1
  have hb := C.2.1
  have hS : va_S (tr_R tr_X w) s.heap s.heap [] := va_S.rf
  have hl := lv_entry ([.ref (tr_ad w 0)]) (n := 2) (Nat.le_of_ble_eq_true rfl)
  rw [lg_entry_eq]
  generalize (lg_sl ([.ref (tr_ad w 0)]) ++ List.replicate (2 - (lg_sl ([.ref (tr_ad w 0)])).length) Slot.unset).toArray = ls at hl ⊢
  have hl : lv_has ls 2 [(0, .ref (tr_ad w 0))] := hl
  replace hk : tr_ok (f_X7_net h) (fun o => o = (r0, h0)) := ⟨_, hk, rfl⟩
  unfold f_X7_net at hk
  refine lv_aload_n hx hb dX7_net_0 rfl (lv_at hl 0 rfl) ?_
  refine gf_X7_34 C hP dX7_net_1 ?_
  refine lv_aload_n hx hb dX7_net_4 rfl (lv_at hl 0 rfl) ?_
  refine gf_X7_9 C hP dX7_net_5 ?_
  refine lv_aload_n hx hb dX7_net_8 rfl (lv_at hl 0 rfl) ?_
  refine gf_X7_73 C hP dX7_net_9 ?_
  refine lv_aload_n hx hb dX7_net_12 rfl (lv_at hl 0 rfl) ?_
  refine gf_X7_20 C hP dX7_net_13 ?_
  obtain ⟨tv2, th3, tq1, hk⟩ := tr_okb2 hk
  refine tr_cvi (As := [.ref (tr_ad w 1), .int (h.1 0 11), .ref (tr_ad w 4)]) (rest := []) C hP hS hl (c_X3_read l w (h.1 0 11) 4 tr_net_4 h tv2 th3 tq1) mz_X3_read ml_X7_77 (by decide) rfl rfl rfl rfl ⟨Nat.le_of_ble_eq_true rfl, Nat.le_of_ble_eq_true rfl⟩ rfl rfl (Nat.le_of_ble_eq_true rfl) ⟨Nat.le_refl _, Nat.le_refl _⟩ dX7_net_16 (fun H locs hP hS => ?_)
  refine lv_bipush (v := (-9)) hx hb dX7_net_19 (by decide) ?_
  refine lv_icmp_eq (tgt := 27) hx hb dX7_net_21 (by decide) (fun tc4 => ?_) (fun tc4 => ?_)
  · replace hk := tr_ift hk tc4
    refine lv_aload_n hx hb dX7_net_27 rfl (lv_at hl 0 rfl) ?_
    refine gf_X7_16 C hP dX7_net_28 ?_
    refine lv_aload_n hx hb dX7_net_31 rfl (lv_at hl 0 rfl) ?_
    refine gf_X7_20 C hP dX7_net_32 ?_
    obtain ⟨th6, tq5, hk⟩ := tr_okb hk
    refine tr_cvv (As := [.ref (tr_ad w 4)]) (rest := []) C hP hS hl (c_X2_copyFrom l w 2 tr_net_2 4 tr_net_4 th3 th6 tq5) mz_X2_copyFrom ml_X7_81 (by decide) rfl rfl rfl rfl ⟨Nat.le_of_ble_eq_true rfl, Nat.le_of_ble_eq_true rfl⟩ rfl rfl (Nat.le_of_ble_eq_true rfl) ⟨Nat.le_refl _, Nat.le_refl _⟩ dX7_net_35 (fun H locs hP hS => ?_)
    refine lv_aload_n hx hb dX7_net_38 rfl (lv_at hl 0 rfl) ?_
    refine gf_X7_41 C hP dX7_net_39 ?_
    obtain ⟨th8, tq7, hk⟩ := tr_okb hk
    refine tr_cvv (As := []) (rest := []) C hP hS hl (c_X1_forget l w th6 th8 tq7) mz_X1_forget ml_X7_85 (by decide) rfl rfl rfl rfl ⟨Nat.le_of_ble_eq_true rfl, Nat.le_of_ble_eq_true rfl⟩ rfl rfl (Nat.le_of_ble_eq_true rfl) ⟨Nat.le_refl _, Nat.le_refl _⟩ dX7_net_42 (fun H locs hP hS => ?_)
    refine lv_iconst (v := 0) hx hb dX7_net_45 (by decide) ?_
    refine lv_istore_n (lv' := [(1, .int 0), (0, .ref (tr_ad w 0))]) hx hb dX7_net_46 rfl hl (by decide) rfl (fun ls hl => ?_)
    have j65_47 : ∀ (th9 : tr_H), tr_ok (f_X7_net_E65 th9) (fun o => o = (r0, h0)) → tr_Wd p l e r_X7_net s m args below meth c (MQ below (tr_Qi tr_X w r0 h0) args s 0 0 (tr_R tr_X w)) tr_X w 2 65 [(0, .ref (tr_ad w 0))] [] th9 := by
      intro th9 hk H locs ls hP hS hl
      unfold f_X7_net_E65 at hk
      refine lv_aload_n hx hb dX7_net_65 rfl (lv_at hl 0 rfl) ?_
      refine gf_X7_16 C hP dX7_net_66 ?_
      obtain ⟨tv11, tq10, hk⟩ := tr_okb hk
      refine tr_cvi (As := []) (rest := []) C hP hS hl (c_X2_waits l w 2 tr_net_2 th9 tv11 tq10) mz_X2_waits ml_X7_88 (by decide) rfl rfl rfl rfl ⟨Nat.le_of_ble_eq_true rfl, Nat.le_of_ble_eq_true rfl⟩ rfl rfl (Nat.le_of_ble_eq_true rfl) ⟨Nat.le_refl _, Nat.le_refl _⟩ dX7_net_69 (fun H locs hP hS => ?_)
      exact tr_iret C hP hS hr hlocks (tr_okS (P := (fun o => o = (r0, h0))) hk) dX7_net_72
    refine tr_loop (fun q => tr_Wd p l e r_X7_net s m args below meth c (MQ below (tr_Qi tr_X w r0 h0) args s 0 0 (tr_R tr_X w)) tr_X w 2 47 [(0, .ref (tr_ad w 0)), (1, .int q.1)] [] q.2) hk ?_ _ _ _ hP hS (lv_sub hl [1, 0] rfl)
    intro P47 hin47 hex47 q hk
    obtain ⟨tv12, th13⟩ := q
    intro H locs ls hP hS hl
    replace hk : tr_ok (f_X7_net_L47 tv12 th13) P47 := hk
    unfold f_X7_net_L47 at hk
    refine lv_iload_n hx hb dX7_net_47 rfl (lv_at hl 1 rfl) ?_
    refine lv_iconst (v := 2) hx hb dX7_net_48 (by decide) ?_
    refine lv_icmp_ge (tgt := 65) hx hb dX7_net_49 (by decide) (fun tc14 => ?_) (fun tc14 => ?_)
    · replace hk := tr_ift hk tc14
      replace hk := hex47 _ (tr_okS hk)
      replace hk : tr_ok (f_X7_net_E65 th13) (fun o => o = (r0, h0)) := hk
      exact j65_47 th13 hk _ _ _ hP hS (lv_sub hl [0] rfl)
    · replace hk := tr_iff hk tc14
      refine lv_aload_n hx hb dX7_net_52 rfl (lv_at hl 0 rfl) ?_
      refine gf_X7_27 C hP dX7_net_53 ?_
      refine lv_iload_n hx hb dX7_net_56 rfl (lv_at hl 1 rfl) ?_
      refine lv_iconst (v := 0) hx hb dX7_net_57 (by decide) ?_
      obtain ⟨tg15, hk⟩ := tr_okg hk
      refine tr_zas C hP hS (ar_X_11 w) tg15 rfl dX7_net_58 (fun H locs hP hS => ?_)
      refine tr_th hk hP (fun th16 hk hP => ?_)
      obtain ⟨tv17, etv17, hk⟩ := tr_okd hk
      refine lv_iinc (v := tv17) (lv' := [(1, .int tv17), (0, .ref (tr_ad w 0))]) hx hb dX7_net_59 hl (k := 1) rfl (by rw [etv17]; rfl) (by decide) rfl (fun ls hl => ?_)
      refine lv_goto (tgt := 47) hx hb dX7_net_62 (by decide) ?_
      exact hin47 _ (tr_okS hk) _ _ _ hP hS (lv_sub hl [1, 0] rfl)
  · replace hk := tr_iff hk tc4
    refine lv_bipush (v := (-3)) hx hb dX7_net_24 (by decide) ?_
    exact tr_iret C hP hS hr hlocks (tr_okS (P := (fun o => o = (r0, h0))) hk) dX7_net_26
abbrev r_X7_aboutEachWait : Room := { frames := 4, cells := 0, slots := 0, locals := 96 }
set_option maxHeartbeats 4000000 in
set_option maxRecDepth 100000 in
theorem c_X7_aboutEachWait (l : Launch) (w : tr_E) (tv900 : Int32) (h : tr_H) (r0 : Int32) (h0 : tr_H) (hk : f_X7_aboutEachWait tv900 h = some (r0, h0)) : Met l yX7_aboutEachWait (Cond.code yX7_aboutEachWait cX7_aboutEachWait 7 (some .int) :: tr_T) r_X7_aboutEachWait (va_Pc [.ref (tr_ad w 0), .int tv900] (tr_Wo tr_X w h)) (tr_Qi tr_X w r0 h0) 0 0 (tr_R tr_X w) := by
  refine tr_start (by decide) (Nat.le_refl _) ?_
  intro p e s m args below meth c C hr hlocks hargs hP
  have hx := C.1
  have hb := C.2.1
  have hS : va_S (tr_R tr_X w) s.heap s.heap [] := va_S.rf
  have hl := lv_entry ([.ref (tr_ad w 0), .int tv900]) (n := 7) (Nat.le_of_ble_eq_true rfl)
  rw [lg_entry_eq]
  generalize (lg_sl ([.ref (tr_ad w 0), .int tv900]) ++ List.replicate (7 - (lg_sl ([.ref (tr_ad w 0), .int tv900])).length) Slot.unset).toArray = ls at hl ⊢
  have hl : lv_has ls 7 [(0, .ref (tr_ad w 0)), (1, .int tv900)] := hl
  replace hk : tr_ok (f_X7_aboutEachWait tv900 h) (fun o => o = (r0, h0)) := ⟨_, hk, rfl⟩
  unfold f_X7_aboutEachWait at hk
  refine lv_aload_n hx hb dX7_aboutEachWait_0 rfl (lv_at hl 0 rfl) ?_
  refine gf_X7_55 C hP dX7_aboutEachWait_1 ?_
  refine lv_aload_n hx hb dX7_aboutEachWait_4 rfl (lv_at hl 0 rfl) ?_
  refine gf_X7_16 C hP dX7_aboutEachWait_5 ?_
  obtain ⟨th2, tq1, hk⟩ := tr_okb hk
  refine tr_cvv (As := [.ref (tr_ad w 2)]) (rest := []) C hP hS hl (c_X6_compare l w 2 tr_net_2 h th2 tq1) mz_X6_compare ml_X7_135 (by decide) rfl rfl rfl rfl ⟨Nat.le_of_ble_eq_true rfl, Nat.le_of_ble_eq_true rfl⟩ rfl rfl (Nat.le_of_ble_eq_true rfl) ⟨Nat.le_refl _, Nat.le_refl _⟩ dX7_aboutEachWait_8 (fun H locs hP hS => ?_)
  refine lv_iconst (v := 0) hx hb dX7_aboutEachWait_11 (by decide) ?_
  refine lv_istore_n (lv' := [(2, .int 0), (0, .ref (tr_ad w 0)), (1, .int tv900)]) hx hb dX7_aboutEachWait_12 rfl hl (by decide) rfl (fun ls hl => ?_)
  refine lv_iconst (v := 0) hx hb dX7_aboutEachWait_13 (by decide) ?_
  refine lv_istore_n (lv' := [(3, .int 0), (2, .int 0), (0, .ref (tr_ad w 0)), (1, .int tv900)]) hx hb dX7_aboutEachWait_14 rfl hl (by decide) rfl (fun ls hl => ?_)
  refine lv_iconst (v := 0) hx hb dX7_aboutEachWait_15 (by decide) ?_
  refine lv_istore (lv' := [(4, .int 0), (3, .int 0), (2, .int 0), (0, .ref (tr_ad w 0)), (1, .int tv900)]) hx hb dX7_aboutEachWait_16 hl (by decide) rfl (fun ls hl => ?_)
  refine lv_iconst (v := 0) hx hb dX7_aboutEachWait_18 (by decide) ?_
  refine lv_istore (lv' := [(5, .int 0), (4, .int 0), (3, .int 0), (2, .int 0), (0, .ref (tr_ad w 0)), (1, .int tv900)]) hx hb dX7_aboutEachWait_19 hl (by decide) rfl (fun ls hl => ?_)
  have j123_21 : ∀ (tv3 : Int32) (tv4 : Int32) (tv5 : Int32), tr_ok (f_X7_aboutEachWait_E123 tv900 th2 tv3 tv4 tv5) (fun o => o = (r0, h0)) → tr_Wd p l e r_X7_aboutEachWait s m args below meth c (MQ below (tr_Qi tr_X w r0 h0) args s 0 0 (tr_R tr_X w)) tr_X w 7 123 [(1, .int tv900), (2, .int tv3), (3, .int tv4), (4, .int tv5)] [] th2 := by
    intro tv3 tv4 tv5 hk H locs ls hP hS hl
    unfold f_X7_aboutEachWait_E123 at hk
    refine lv_iload_n hx hb dX7_aboutEachWait_123 rfl (lv_at hl 0 rfl) ?_
    refine lv_iconst (v := 3) hx hb dX7_aboutEachWait_124 (by decide) ?_
    refine lv_icmp_ne (tgt := 132) hx hb dX7_aboutEachWait_125 (by decide) (fun tc6 => ?_) (fun tc6 => ?_)
    · replace hk := tr_iff hk tc6
      refine lv_iload_n hx hb dX7_aboutEachWait_132 rfl (lv_at hl 0 rfl) ?_
      refine lv_iconst (v := 4) hx hb dX7_aboutEachWait_133 (by decide) ?_
      refine lv_icmp_ne (tgt := 141) hx hb dX7_aboutEachWait_134 (by decide) (fun tc7 => ?_) (fun tc7 => ?_)
      · replace hk := tr_iff hk tc7
        refine lv_iload hx hb dX7_aboutEachWait_141 (lv_at hl 3 rfl) ?_
        exact tr_iret C hP hS hr hlocks (tr_okS (P := (fun o => o = (r0, h0))) hk) dX7_aboutEachWait_143
      · replace hk := tr_ift hk tc7
        refine lv_iload_n hx hb dX7_aboutEachWait_137 rfl (lv_at hl 2 rfl) ?_
        refine lv_goto (tgt := 143) hx hb dX7_aboutEachWait_138 (by decide) ?_
        exact tr_iret C hP hS hr hlocks (tr_okS (P := (fun o => o = (r0, h0))) hk) dX7_aboutEachWait_143
    · replace hk := tr_ift hk tc6
      refine lv_iload_n hx hb dX7_aboutEachWait_128 rfl (lv_at hl 1 rfl) ?_
      refine lv_goto (tgt := 143) hx hb dX7_aboutEachWait_129 (by decide) ?_
      exact tr_iret C hP hS hr hlocks (tr_okS (P := (fun o => o = (r0, h0))) hk) dX7_aboutEachWait_143
  refine tr_loop (fun q => tr_Wd p l e r_X7_aboutEachWait s m args below meth c (MQ below (tr_Qi tr_X w r0 h0) args s 0 0 (tr_R tr_X w)) tr_X w 7 21 [(0, .ref (tr_ad w 0)), (1, .int tv900), (2, .int q.1), (3, .int q.2.1), (4, .int q.2.2.1), (5, .int q.2.2.2)] [] th2) hk ?_ _ _ _ hP hS (lv_sub hl [4, 5, 3, 2, 1, 0] rfl)
  intro P21 hin21 hex21 q hk
  obtain ⟨tv8, tv9, tv10, tv11⟩ := q
  intro H locs ls hP hS hl
  replace hk : tr_ok (f_X7_aboutEachWait_L21 th2 tv8 tv9 tv10 tv11) P21 := hk
  unfold f_X7_aboutEachWait_L21 at hk
  refine lv_iload hx hb dX7_aboutEachWait_21 (lv_at hl 5 rfl) ?_
  refine lv_aload_n hx hb dX7_aboutEachWait_23 rfl (lv_at hl 0 rfl) ?_
  refine gf_X7_16 C hP dX7_aboutEachWait_24 ?_
  refine gf_X7_92 tr_net_2 C hP dX7_aboutEachWait_27 ?_
  refine lv_icmp_ge (tgt := 123) hx hb dX7_aboutEachWait_30 (by decide) (fun tc12 => ?_) (fun tc12 => ?_)
  · replace hk := tr_ift hk tc12
    replace hk := hex21 _ (tr_okS hk)
    replace hk : tr_ok (f_X7_aboutEachWait_E123 tv900 th2 tv8 tv9 tv10) (fun o => o = (r0, h0)) := hk
    exact j123_21 tv8 tv9 tv10 hk _ _ _ hP hS (lv_sub hl [1, 2, 3, 4] rfl)
  · replace hk := tr_iff hk tc12
    refine lv_iconst (v := 0) hx hb dX7_aboutEachWait_33 (by decide) ?_
    refine lv_istore (lv' := [(6, .int 0), (0, .ref (tr_ad w 0)), (1, .int tv900), (2, .int tv8), (3, .int tv9), (4, .int tv10), (5, .int tv11)]) hx hb dX7_aboutEachWait_34 hl (by decide) rfl (fun ls hl => ?_)
    have j117_36 : ∀ (tv13 : Int32) (tv14 : Int32) (tv15 : Int32), tr_ok (f_X7_aboutEachWait_E117 tv11 tv13 tv14 tv15) P21 → tr_Wd p l e r_X7_aboutEachWait s m args below meth c (MQ below (tr_Qi tr_X w r0 h0) args s 0 0 (tr_R tr_X w)) tr_X w 7 117 [(0, .ref (tr_ad w 0)), (1, .int tv900), (2, .int tv13), (3, .int tv14), (4, .int tv15), (5, .int tv11)] [] th2 := by
      intro tv13 tv14 tv15 hk H locs ls hP hS hl
      unfold f_X7_aboutEachWait_E117 at hk
      obtain ⟨tv16, etv16, hk⟩ := tr_okd hk
      refine lv_iinc (v := tv16) (lv' := [(5, .int tv16), (0, .ref (tr_ad w 0)), (1, .int tv900), (2, .int tv13), (3, .int tv14), (4, .int tv15)]) hx hb dX7_aboutEachWait_117 hl (k := 5) rfl (by rw [etv16]; rfl) (by decide) rfl (fun ls hl => ?_)
      refine lv_goto (tgt := 21) hx hb dX7_aboutEachWait_120 (by decide) ?_
      exact hin21 _ (tr_okS hk) _ _ _ hP hS (lv_sub hl [1, 2, 3, 4, 5, 0] rfl)
    refine tr_loop (fun q => tr_Wd p l e r_X7_aboutEachWait s m args below meth c (MQ below (tr_Qi tr_X w r0 h0) args s 0 0 (tr_R tr_X w)) tr_X w 7 36 [(0, .ref (tr_ad w 0)), (1, .int tv900), (2, .int q.1), (3, .int q.2.1), (4, .int q.2.2.1), (5, .int tv11), (6, .int q.2.2.2)] [] th2) hk ?_ _ _ _ hP hS (lv_sub hl [1, 2, 3, 4, 5, 6, 0] rfl)
    intro P36 hin36 hex36 q hk
    obtain ⟨tv17, tv18, tv19, tv20⟩ := q
    intro H locs ls hP hS hl
    replace hk : tr_ok (f_X7_aboutEachWait_L36 th2 tv11 tv17 tv18 tv19 tv20) P36 := hk
    unfold f_X7_aboutEachWait_L36 at hk
    refine lv_iload hx hb dX7_aboutEachWait_36 (lv_at hl 6 rfl) ?_
    refine lv_aload_n hx hb dX7_aboutEachWait_38 rfl (lv_at hl 0 rfl) ?_
    refine gf_X7_16 C hP dX7_aboutEachWait_39 ?_
    refine gf_X7_92 tr_net_2 C hP dX7_aboutEachWait_42 ?_
    refine lv_icmp_ge (tgt := 117) hx hb dX7_aboutEachWait_45 (by decide) (fun tc21 => ?_) (fun tc21 => ?_)
    · replace hk := tr_ift hk tc21
      replace hk := hex36 _ (tr_okS hk)
      replace hk : tr_ok (f_X7_aboutEachWait_E117 tv11 tv17 tv18 tv19) P21 := hk
      exact j117_36 tv17 tv18 tv19 hk _ _ _ hP hS (lv_sub hl [0, 1, 2, 3, 4, 5] rfl)
    · replace hk := tr_iff hk tc21
      refine lv_aload_n hx hb dX7_aboutEachWait_48 rfl (lv_at hl 0 rfl) ?_
      refine gf_X7_16 C hP dX7_aboutEachWait_49 ?_
      refine lv_iload hx hb dX7_aboutEachWait_52 (lv_at hl 5 rfl) ?_
      refine lv_iload hx hb dX7_aboutEachWait_54 (lv_at hl 6 rfl) ?_
      obtain ⟨tv23, tq22, hk⟩ := tr_okb hk
      refine tr_cvi (As := [.int tv11, .int tv20]) (rest := []) C hP hS hl (c_X2_of l w 2 tr_net_2 tv11 tv20 th2 tv23 tq22) mz_X2_of ml_X7_116 (by decide) rfl rfl rfl rfl ⟨Nat.le_of_ble_eq_true rfl, Nat.le_of_ble_eq_true rfl⟩ rfl rfl (Nat.le_of_ble_eq_true rfl) ⟨Nat.le_refl _, Nat.le_refl _⟩ dX7_aboutEachWait_56 (fun H locs hP hS => ?_)
      refine lv_bipush (v := (-9)) hx hb dX7_aboutEachWait_59 (by decide) ?_
      have j81 : ∀ (tv24 : Int32), tr_ok (f_X7_aboutEachWait_J81 tv11 tv20 th2 tv18 tv19 tv24) P36 → tr_Wd p l e r_X7_aboutEachWait s m args below meth c (MQ below (tr_Qi tr_X w r0 h0) args s 0 0 (tr_R tr_X w)) tr_X w 7 81 [(0, .ref (tr_ad w 0)), (1, .int tv900), (2, .int tv24), (3, .int tv18), (4, .int tv19), (5, .int tv11), (6, .int tv20)] [] th2 := by
        intro tv24 hk H locs ls hP hS hl
        unfold f_X7_aboutEachWait_J81 at hk
        refine lv_aload_n hx hb dX7_aboutEachWait_81 rfl (lv_at hl 0 rfl) ?_
        refine gf_X7_55 C hP dX7_aboutEachWait_82 ?_
        refine lv_aload_n hx hb dX7_aboutEachWait_85 rfl (lv_at hl 0 rfl) ?_
        refine gf_X7_16 C hP dX7_aboutEachWait_86 ?_
        refine lv_iload hx hb dX7_aboutEachWait_89 (lv_at hl 5 rfl) ?_
        refine lv_iload hx hb dX7_aboutEachWait_91 (lv_at hl 6 rfl) ?_
        obtain ⟨tv26, tq25, hk⟩ := tr_okb hk
        refine tr_cvi (As := [.ref (tr_ad w 2), .int tv11, .int tv20]) (rest := []) C hP hS hl (c_X6_isCritical l w 2 tr_net_2 tv11 tv20 th2 tv26 tq25) mz_X6_isCritical ml_X7_138 (by decide) rfl rfl rfl rfl ⟨Nat.le_of_ble_eq_true rfl, Nat.le_of_ble_eq_true rfl⟩ rfl rfl (Nat.le_of_ble_eq_true rfl) ⟨Nat.le_refl _, Nat.le_refl _⟩ dX7_aboutEachWait_93 (fun H locs hP hS => ?_)
        refine lv_if_eq (tgt := 111) hx hb dX7_aboutEachWait_96 (by decide) (fun tc27 => ?_) (fun tc27 => ?_)
        · replace hk := tr_ift hk tc27
          obtain ⟨tv28, etv28, hk⟩ := tr_okd hk
          refine lv_iinc (v := tv28) (lv' := [(6, .int tv28), (0, .ref (tr_ad w 0)), (1, .int tv900), (2, .int tv24), (3, .int tv18), (4, .int tv19), (5, .int tv11)]) hx hb dX7_aboutEachWait_111 hl (k := 6) rfl (by rw [etv28]; rfl) (by decide) rfl (fun ls hl => ?_)
          refine lv_goto (tgt := 36) hx hb dX7_aboutEachWait_114 (by decide) ?_
          exact hin36 _ (tr_okS hk) _ _ _ hP hS (lv_sub hl [1, 2, 3, 4, 5, 6, 0] rfl)
        · replace hk := tr_iff hk tc27
          obtain ⟨tv29, etv29, hk⟩ := tr_okd hk
          refine lv_iinc (v := tv29) (lv' := [(3, .int tv29), (0, .ref (tr_ad w 0)), (1, .int tv900), (2, .int tv24), (4, .int tv19), (5, .int tv11), (6, .int tv20)]) hx hb dX7_aboutEachWait_99 hl (k := 3) rfl (by rw [etv29]; rfl) (by decide) rfl (fun ls hl => ?_)
          refine lv_iload hx hb dX7_aboutEachWait_102 (lv_at hl 4 rfl) ?_
          refine lv_iconst (v := 1) hx hb dX7_aboutEachWait_104 (by decide) ?_
          refine lv_iload hx hb dX7_aboutEachWait_105 (lv_at hl 5 rfl) ?_
          refine lv_ishl hx hb dX7_aboutEachWait_107 ?_
          refine lv_ior hx hb dX7_aboutEachWait_108 ?_
          refine tr_ti hk (fun tv30 hk => ?_)
          refine lv_istore (lv' := [(4, .int tv30), (3, .int tv29), (0, .ref (tr_ad w 0)), (1, .int tv900), (2, .int tv24), (5, .int tv11), (6, .int tv20)]) hx hb dX7_aboutEachWait_109 hl (by decide) rfl (fun ls hl => ?_)
          obtain ⟨tv31, etv31, hk⟩ := tr_okd hk
          refine lv_iinc (v := tv31) (lv' := [(6, .int tv31), (4, .int tv30), (3, .int tv29), (0, .ref (tr_ad w 0)), (1, .int tv900), (2, .int tv24), (5, .int tv11)]) hx hb dX7_aboutEachWait_111 hl (k := 6) rfl (by rw [etv31]; rfl) (by decide) rfl (fun ls hl => ?_)
          refine lv_goto (tgt := 36) hx hb dX7_aboutEachWait_114 (by decide) ?_
          exact hin36 _ (tr_okS hk) _ _ _ hP hS (lv_sub hl [3, 4, 5, 2, 1, 6, 0] rfl)
      refine lv_icmp_eq (tgt := 81) hx hb dX7_aboutEachWait_61 (by decide) (fun tc32 => ?_) (fun tc32 => ?_)
      · replace hk := tr_ift hk tc32
        exact j81 tv17 hk _ _ _ hP hS (lv_sub hl [0, 1, 2, 3, 4, 5, 6] rfl)
      · replace hk := tr_iff hk tc32
        refine lv_aload_n hx hb dX7_aboutEachWait_64 rfl (lv_at hl 0 rfl) ?_
        refine gf_X7_55 C hP dX7_aboutEachWait_65 ?_
        refine lv_iload hx hb dX7_aboutEachWait_68 (lv_at hl 5 rfl) ?_
        refine lv_iload hx hb dX7_aboutEachWait_70 (lv_at hl 6 rfl) ?_
        obtain ⟨tv34, tq33, hk⟩ := tr_okb hk
        refine tr_cvi (As := [.int tv11, .int tv20]) (rest := []) C hP hS hl (c_X6_comesBack l w tv11 tv20 th2 tv34 tq33) mz_X6_comesBack ml_X7_213 (by decide) rfl rfl rfl rfl ⟨Nat.le_of_ble_eq_true rfl, Nat.le_of_ble_eq_true rfl⟩ rfl rfl (Nat.le_of_ble_eq_true rfl) ⟨Nat.le_refl _, Nat.le_refl _⟩ dX7_aboutEachWait_72 (fun H locs hP hS => ?_)
        refine lv_if_ne (tgt := 81) hx hb dX7_aboutEachWait_75 (by decide) (fun tc35 => ?_) (fun tc35 => ?_)
        · replace hk := tr_iff hk tc35
          exact j81 tv17 hk _ _ _ hP hS (lv_sub hl [0, 1, 2, 3, 4, 5, 6] rfl)
        · replace hk := tr_ift hk tc35
          obtain ⟨tv36, etv36, hk⟩ := tr_okd hk
          refine lv_iinc (v := tv36) (lv' := [(2, .int tv36), (0, .ref (tr_ad w 0)), (1, .int tv900), (3, .int tv18), (4, .int tv19), (5, .int tv11), (6, .int tv20)]) hx hb dX7_aboutEachWait_78 hl (k := 2) rfl (by rw [etv36]; rfl) (by decide) rfl (fun ls hl => ?_)
          exact j81 tv36 hk _ _ _ hP hS (lv_sub hl [1, 2, 0, 3, 4, 5, 6] rfl)
abbrev r_X7_leastPeriod : Room := { frames := 3, cells := 0, slots := 0, locals := 72 }
set_option maxHeartbeats 4000000 in
set_option maxRecDepth 100000 in
theorem c_X7_leastPeriod (l : Launch) (w : tr_E)  (h : tr_H) (r0 : Int32) (h0 : tr_H) (hk : f_X7_leastPeriod h = some (r0, h0)) : Met l yX7_leastPeriod (Cond.code yX7_leastPeriod cX7_leastPeriod 2 (some .int) :: tr_T) r_X7_leastPeriod (va_Pc [.ref (tr_ad w 0)] (tr_Wo tr_X w h)) (tr_Qi tr_X w r0 h0) 0 0 (tr_R tr_X w) := by
  refine tr_start (by decide) (Nat.le_refl _) ?_
  intro p e s m args below meth c C hr hlocks hargs hP
  have hx := C.1
  have hb := C.2.1
  have hS : va_S (tr_R tr_X w) s.heap s.heap [] := va_S.rf
  have hl := lv_entry ([.ref (tr_ad w 0)]) (n := 2) (Nat.le_of_ble_eq_true rfl)
  rw [lg_entry_eq]
  generalize (lg_sl ([.ref (tr_ad w 0)]) ++ List.replicate (2 - (lg_sl ([.ref (tr_ad w 0)])).length) Slot.unset).toArray = ls at hl ⊢
  have hl : lv_has ls 2 [(0, .ref (tr_ad w 0))] := hl
  replace hk : tr_ok (f_X7_leastPeriod h) (fun o => o = (r0, h0)) := ⟨_, hk, rfl⟩
  unfold f_X7_leastPeriod at hk
  refine lv_iconst (v := 0) hx hb dX7_leastPeriod_0 (by decide) ?_
  refine lv_aload_n hx hb dX7_leastPeriod_1 rfl (lv_at hl 0 rfl) ?_
  refine gf_X7_55 C hP dX7_leastPeriod_2 ?_
  refine lv_aload_n hx hb dX7_leastPeriod_5 rfl (lv_at hl 0 rfl) ?_
  refine gf_X7_16 C hP dX7_leastPeriod_6 ?_
  obtain ⟨tv2, th3, tq1, hk⟩ := tr_okb2 hk
  refine tr_cvi (As := [.ref (tr_ad w 2)]) (rest := [.int 0]) C hP hS hl (c_X6_slowest l w 2 tr_net_2 h tv2 th3 tq1) mz_X6_slowest ml_X7_127 (by decide) rfl rfl rfl rfl ⟨Nat.le_of_ble_eq_true rfl, Nat.le_of_ble_eq_true rfl⟩ rfl rfl (Nat.le_of_ble_eq_true rfl) ⟨Nat.le_refl _, Nat.le_refl _⟩ dX7_leastPeriod_9 (fun H locs hP hS => ?_)
  refine tr_mx C hl ml_X7_205 ⟨Nat.le_of_ble_eq_true rfl, Nat.le_of_ble_eq_true rfl⟩ ⟨Nat.le_refl _, Nat.le_refl _⟩ dX7_leastPeriod_12 ?_
  refine tr_ti hk (fun tv4 hk => ?_)
  refine lv_istore_n (lv' := [(1, .int tv4), (0, .ref (tr_ad w 0))]) hx hb dX7_leastPeriod_15 rfl hl (by decide) rfl (fun ls hl => ?_)
  refine lv_iload_n hx hb dX7_leastPeriod_16 rfl (lv_at hl 0 rfl) ?_
  refine lv_bipush (v := 60) hx hb dX7_leastPeriod_17 (by decide) ?_
  refine lv_iadd hx hb dX7_leastPeriod_19 ?_
  refine lv_iconst (v := 1) hx hb dX7_leastPeriod_20 (by decide) ?_
  refine lv_isub hx hb dX7_leastPeriod_21 ?_
  refine lv_bipush (v := 60) hx hb dX7_leastPeriod_22 (by decide) ?_
  refine lv_idiv hx hb dX7_leastPeriod_24 (by decide) ?_
  exact tr_iret C hP hS hr hlocks (tr_okS (P := (fun o => o = (r0, h0))) hk) dX7_leastPeriod_25
abbrev r_X7_about : Room := { frames := 5, cells := 0, slots := 0, locals := 122 }
set_option maxHeartbeats 4000000 in
set_option maxRecDepth 100000 in
theorem c_X7_about (l : Launch) (w : tr_E) (tv900 : Int32) (h : tr_H) (r0 : Int32) (h0 : tr_H) (hk : f_X7_about tv900 h = some (r0, h0)) : Met l yX7_about (Cond.code yX7_about cX7_about 2 (some .int) :: tr_T) r_X7_about (va_Pc [.ref (tr_ad w 0), .int tv900] (tr_Wo tr_X w h)) (tr_Qi tr_X w r0 h0) 0 0 (tr_R tr_X w) := by
  refine tr_start (by decide) (Nat.le_refl _) ?_
  intro p e s m args below meth c C hr hlocks hargs hP
  have hx := C.1
  have hb := C.2.1
  have hS : va_S (tr_R tr_X w) s.heap s.heap [] := va_S.rf
  have hl := lv_entry ([.ref (tr_ad w 0), .int tv900]) (n := 2) (Nat.le_of_ble_eq_true rfl)
  rw [lg_entry_eq]
  generalize (lg_sl ([.ref (tr_ad w 0), .int tv900]) ++ List.replicate (2 - (lg_sl ([.ref (tr_ad w 0), .int tv900])).length) Slot.unset).toArray = ls at hl ⊢
  have hl : lv_has ls 2 [(0, .ref (tr_ad w 0)), (1, .int tv900)] := hl
  replace hk : tr_ok (f_X7_about tv900 h) (fun o => o = (r0, h0)) := ⟨_, hk, rfl⟩
  unfold f_X7_about at hk
  refine lv_iload_n hx hb dX7_about_0 rfl (lv_at hl 1 rfl) ?_
  rcases Decidable.em (tv900 = 0) with tc1 | tc1
  · replace hk := tr_ift hk tc1
    refine lv_tableIn (tgt := 56) hx hb dX7_about_1 (by rw [tc1]; decide) (by rw [tc1]; decide) (by rw [tc1]; rfl) (by decide) ?_
    refine lv_aload_n hx hb dX7_about_56 rfl (lv_at hl 0 rfl) ?_
    refine gf_X7_16 C hP dX7_about_57 ?_
    refine gf_X7_92 tr_net_2 C hP dX7_about_60 ?_
    exact tr_iret C hP hS hr hlocks (tr_okS (P := (fun o => o = (r0, h0))) hk) dX7_about_63
  replace hk := tr_iff hk tc1
  rcases Decidable.em (tv900 = 1) with tc2 | tc2
  · replace hk := tr_ift hk tc2
    refine lv_tableIn (tgt := 64) hx hb dX7_about_1 (by rw [tc2]; decide) (by rw [tc2]; decide) (by rw [tc2]; rfl) (by decide) ?_
    refine lv_aload_n hx hb dX7_about_64 rfl (lv_at hl 0 rfl) ?_
    refine gf_X7_16 C hP dX7_about_65 ?_
    obtain ⟨tv4, tq3, hk⟩ := tr_okb hk
    refine tr_cvi (As := []) (rest := []) C hP hS hl (c_X2_waits l w 2 tr_net_2 h tv4 tq3) mz_X2_waits ml_X7_88 (by decide) rfl rfl rfl rfl ⟨Nat.le_of_ble_eq_true rfl, Nat.le_of_ble_eq_true rfl⟩ rfl rfl (Nat.le_of_ble_eq_true rfl) ⟨Nat.le_refl _, Nat.le_refl _⟩ dX7_about_68 (fun H locs hP hS => ?_)
    exact tr_iret C hP hS hr hlocks (tr_okS (P := (fun o => o = (r0, h0))) hk) dX7_about_71
  replace hk := tr_iff hk tc2
  rcases Decidable.em (tv900 = 2) with tc5 | tc5
  · replace hk := tr_ift hk tc5
    refine lv_tableIn (tgt := 72) hx hb dX7_about_1 (by rw [tc5]; decide) (by rw [tc5]; decide) (by rw [tc5]; rfl) (by decide) ?_
    refine lv_aload_n hx hb dX7_about_72 rfl (lv_at hl 0 rfl) ?_
    refine gf_X7_69 C hP dX7_about_73 ?_
    refine lv_aload_n hx hb dX7_about_76 rfl (lv_at hl 0 rfl) ?_
    refine gf_X7_16 C hP dX7_about_77 ?_
    obtain ⟨th7, tq6, hk⟩ := tr_okb hk
    refine tr_cvv (As := [.ref (tr_ad w 2)]) (rest := []) C hP hS hl (c_X4_fill l w 2 tr_net_2 h th7 tq6) mz_X4_fill ml_X7_95 (by decide) rfl rfl rfl rfl ⟨Nat.le_of_ble_eq_true rfl, Nat.le_of_ble_eq_true rfl⟩ rfl rfl (Nat.le_of_ble_eq_true rfl) ⟨Nat.le_refl _, Nat.le_refl _⟩ dX7_about_80 (fun H locs hP hS => ?_)
    refine lv_aload_n hx hb dX7_about_83 rfl (lv_at hl 0 rfl) ?_
    refine gf_X7_69 C hP dX7_about_84 ?_
    refine gf_X7_98 C hP dX7_about_87 ?_
    exact tr_iret C hP hS hr hlocks (tr_okS (P := (fun o => o = (r0, h0))) hk) dX7_about_90
  replace hk := tr_iff hk tc5
  rcases Decidable.em (tv900 = 3) with tc8 | tc8
  · replace hk := tr_ift hk tc8
    refine lv_tableIn (tgt := 91) hx hb dX7_about_1 (by rw [tc8]; decide) (by rw [tc8]; decide) (by rw [tc8]; rfl) (by decide) ?_
    refine lv_aload_n hx hb dX7_about_91 rfl (lv_at hl 0 rfl) ?_
    refine lv_iload_n hx hb dX7_about_92 rfl (lv_at hl 1 rfl) ?_
    obtain ⟨tv10, th11, tq9, hk⟩ := tr_okb2 hk
    refine tr_cvi (As := [.int tv900]) (rest := []) C hP hS hl (c_X7_aboutEachWait l w tv900 h tv10 th11 tq9) mz_X7_aboutEachWait ml_X7_101 (by decide) rfl rfl rfl rfl ⟨Nat.le_of_ble_eq_true rfl, Nat.le_of_ble_eq_true rfl⟩ rfl rfl (Nat.le_of_ble_eq_true rfl) ⟨Nat.le_refl _, Nat.le_refl _⟩ dX7_about_93 (fun H locs hP hS => ?_)
    exact tr_iret C hP hS hr hlocks (tr_okS (P := (fun o => o = (r0, h0))) hk) dX7_about_96
  replace hk := tr_iff hk tc8
  rcases Decidable.em (tv900 = 4) with tc12 | tc12
  · replace hk := tr_ift hk tc12
    refine lv_tableIn (tgt := 91) hx hb dX7_about_1 (by rw [tc12]; decide) (by rw [tc12]; decide) (by rw [tc12]; rfl) (by decide) ?_
    refine lv_aload_n hx hb dX7_about_91 rfl (lv_at hl 0 rfl) ?_
    refine lv_iload_n hx hb dX7_about_92 rfl (lv_at hl 1 rfl) ?_
    obtain ⟨tv14, th15, tq13, hk⟩ := tr_okb2 hk
    refine tr_cvi (As := [.int tv900]) (rest := []) C hP hS hl (c_X7_aboutEachWait l w tv900 h tv14 th15 tq13) mz_X7_aboutEachWait ml_X7_101 (by decide) rfl rfl rfl rfl ⟨Nat.le_of_ble_eq_true rfl, Nat.le_of_ble_eq_true rfl⟩ rfl rfl (Nat.le_of_ble_eq_true rfl) ⟨Nat.le_refl _, Nat.le_refl _⟩ dX7_about_93 (fun H locs hP hS => ?_)
    exact tr_iret C hP hS hr hlocks (tr_okS (P := (fun o => o = (r0, h0))) hk) dX7_about_96
  replace hk := tr_iff hk tc12
  rcases Decidable.em (tv900 = 5) with tc16 | tc16
  · replace hk := tr_ift hk tc16
    refine lv_tableIn (tgt := 91) hx hb dX7_about_1 (by rw [tc16]; decide) (by rw [tc16]; decide) (by rw [tc16]; rfl) (by decide) ?_
    refine lv_aload_n hx hb dX7_about_91 rfl (lv_at hl 0 rfl) ?_
    refine lv_iload_n hx hb dX7_about_92 rfl (lv_at hl 1 rfl) ?_
    obtain ⟨tv18, th19, tq17, hk⟩ := tr_okb2 hk
    refine tr_cvi (As := [.int tv900]) (rest := []) C hP hS hl (c_X7_aboutEachWait l w tv900 h tv18 th19 tq17) mz_X7_aboutEachWait ml_X7_101 (by decide) rfl rfl rfl rfl ⟨Nat.le_of_ble_eq_true rfl, Nat.le_of_ble_eq_true rfl⟩ rfl rfl (Nat.le_of_ble_eq_true rfl) ⟨Nat.le_refl _, Nat.le_refl _⟩ dX7_about_93 (fun H locs hP hS => ?_)
    exact tr_iret C hP hS hr hlocks (tr_okS (P := (fun o => o = (r0, h0))) hk) dX7_about_96
  replace hk := tr_iff hk tc16
  rcases Decidable.em (tv900 = 6) with tc20 | tc20
  · replace hk := tr_ift hk tc20
    refine lv_tableIn (tgt := 97) hx hb dX7_about_1 (by rw [tc20]; decide) (by rw [tc20]; decide) (by rw [tc20]; rfl) (by decide) ?_
    refine lv_aload_n hx hb dX7_about_97 rfl (lv_at hl 0 rfl) ?_
    obtain ⟨tv22, th23, tq21, hk⟩ := tr_okb2 hk
    refine tr_cvi (As := []) (rest := []) C hP hS hl (c_X7_leastPeriod l w h tv22 th23 tq21) mz_X7_leastPeriod ml_X7_105 (by decide) rfl rfl rfl rfl ⟨Nat.le_of_ble_eq_true rfl, Nat.le_of_ble_eq_true rfl⟩ rfl rfl (Nat.le_of_ble_eq_true rfl) ⟨Nat.le_refl _, Nat.le_refl _⟩ dX7_about_98 (fun H locs hP hS => ?_)
    exact tr_iret C hP hS hr hlocks (tr_okS (P := (fun o => o = (r0, h0))) hk) dX7_about_101
  replace hk := tr_iff hk tc20
  rcases Decidable.em (tv900 = 7) with tc24 | tc24
  · replace hk := tr_ift hk tc24
    refine lv_tableIn (tgt := 102) hx hb dX7_about_1 (by rw [tc24]; decide) (by rw [tc24]; decide) (by rw [tc24]; rfl) (by decide) ?_
    refine lv_aload_n hx hb dX7_about_102 rfl (lv_at hl 0 rfl) ?_
    refine gf_X7_41 C hP dX7_about_103 ?_
    refine gf_X7_108 C hP dX7_about_106 ?_
    exact tr_iret C hP hS hr hlocks (tr_okS (P := (fun o => o = (r0, h0))) hk) dX7_about_109
  replace hk := tr_iff hk tc24
  rcases Decidable.em (tv900 = 8) with tc25 | tc25
  · replace hk := tr_ift hk tc25
    refine lv_tableIn (tgt := 110) hx hb dX7_about_1 (by rw [tc25]; decide) (by rw [tc25]; decide) (by rw [tc25]; rfl) (by decide) ?_
    refine lv_aload_n hx hb dX7_about_110 rfl (lv_at hl 0 rfl) ?_
    refine gf_X7_48 C hP dX7_about_111 ?_
    refine gf_X7_111 C hP dX7_about_114 ?_
    exact tr_iret C hP hS hr hlocks (tr_okS (P := (fun o => o = (r0, h0))) hk) dX7_about_117
  replace hk := tr_iff hk tc25
  rcases Decidable.em (tv900 = 9) with tc26 | tc26
  · replace hk := tr_ift hk tc26
    refine lv_tableIn (tgt := 118) hx hb dX7_about_1 (by rw [tc26]; decide) (by rw [tc26]; decide) (by rw [tc26]; rfl) (by decide) ?_
    refine lv_aload_n hx hb dX7_about_118 rfl (lv_at hl 0 rfl) ?_
    refine gf_X7_73 C hP dX7_about_119 ?_
    exact tr_iret C hP hS hr hlocks (tr_okS (P := (fun o => o = (r0, h0))) hk) dX7_about_122
  replace hk := tr_iff hk tc26
  refine lv_tableOut (tgt := 123) hx hb dX7_about_1 (tr_tso (fun k h1 h2 => by
    rcases (show k = 0 ∨ k = 1 ∨ k = 2 ∨ k = 3 ∨ k = 4 ∨ k = 5 ∨ k = 6 ∨ k = 7 ∨ k = 8 ∨ k = 9 by omega) with rfl | rfl | rfl | rfl | rfl | rfl | rfl | rfl | rfl | rfl
    · exact tc1
    · exact tc2
    · exact tc5
    · exact tc8
    · exact tc12
    · exact tc16
    · exact tc20
    · exact tc24
    · exact tc25
    · exact tc26)) (by decide) ?_
  refine lv_bipush (v := (-2)) hx hb dX7_about_123 (by decide) ?_
  exact tr_iret C hP hS hr hlocks (tr_okS (P := (fun o => o = (r0, h0))) hk) dX7_about_125
abbrev r_X7_minutes : Room := { frames := 1, cells := 0, slots := 0, locals := 22 }
set_option maxHeartbeats 4000000 in
set_option maxRecDepth 100000 in
theorem c_X7_minutes (l : Launch) (w : tr_E) (tv900 : Int32) (tv901 : Int32) (h : tr_H) (r0 : Int32) (hk : f_X7_minutes tv900 tv901 h = some r0) : Met l yX7_minutes (Cond.code yX7_minutes cX7_minutes 3 (some .int) :: tr_T) r_X7_minutes (va_Pc [.ref (tr_ad w 0), .int tv900, .int tv901] (tr_Wo tr_X w h)) (tr_Qi tr_X w r0 h) 0 0 (tr_R tr_X w) := by
  refine tr_start (by decide) (Nat.le_refl _) ?_
  intro p e s m args below meth c C hr hlocks hargs hP
  have hx := C.1
  have hb := C.2.1
  have hS : va_S (tr_R tr_X w) s.heap s.heap [] := va_S.rf
  have hl := lv_entry ([.ref (tr_ad w 0), .int tv900, .int tv901]) (n := 3) (Nat.le_of_ble_eq_true rfl)
  rw [lg_entry_eq]
  generalize (lg_sl ([.ref (tr_ad w 0), .int tv900, .int tv901]) ++ List.replicate (3 - (lg_sl ([.ref (tr_ad w 0), .int tv900, .int tv901])).length) Slot.unset).toArray = ls at hl ⊢
  have hl : lv_has ls 3 [(0, .ref (tr_ad w 0)), (1, .int tv900), (2, .int tv901)] := hl
  replace hk : tr_ok (f_X7_minutes tv900 tv901 h) (fun o => o = r0) := ⟨_, hk, rfl⟩
  unfold f_X7_minutes at hk
  refine lv_aload_n hx hb dX7_minutes_0 rfl (lv_at hl 0 rfl) ?_
  refine gf_X7_16 C hP dX7_minutes_1 ?_
  refine lv_iload_n hx hb dX7_minutes_4 rfl (lv_at hl 1 rfl) ?_
  obtain ⟨tv2, tq1, hk⟩ := tr_okb hk
  refine tr_cvi (As := [.int tv900]) (rest := []) C hP hS hl (c_X2_has l w 2 tr_net_2 tv900 h tv2 tq1) mz_X2_has ml_X7_112 (by decide) rfl rfl rfl rfl ⟨Nat.le_of_ble_eq_true rfl, Nat.le_of_ble_eq_true rfl⟩ rfl rfl (Nat.le_of_ble_eq_true rfl) ⟨Nat.le_refl _, Nat.le_refl _⟩ dX7_minutes_5 (fun H locs hP hS => ?_)
  refine lv_if_eq (tgt := 22) hx hb dX7_minutes_8 (by decide) (fun tc3 => ?_) (fun tc3 => ?_)
  · replace hk := tr_ift hk tc3
    refine lv_iconst (v := (-1)) hx hb dX7_minutes_22 (by decide) ?_
    exact tr_iret C hP hS hr hlocks (congrArg (fun x => (x, h)) (tr_okS (P := (fun o => o = r0)) hk)) dX7_minutes_23
  · replace hk := tr_iff hk tc3
    refine lv_aload_n hx hb dX7_minutes_11 rfl (lv_at hl 0 rfl) ?_
    refine gf_X7_16 C hP dX7_minutes_12 ?_
    refine lv_iload_n hx hb dX7_minutes_15 rfl (lv_at hl 2 rfl) ?_
    obtain ⟨tv5, tq4, hk⟩ := tr_okb hk
    refine tr_cvi (As := [.int tv901]) (rest := []) C hP hS hl (c_X2_has l w 2 tr_net_2 tv901 h tv5 tq4) mz_X2_has ml_X7_112 (by decide) rfl rfl rfl rfl ⟨Nat.le_of_ble_eq_true rfl, Nat.le_of_ble_eq_true rfl⟩ rfl rfl (Nat.le_of_ble_eq_true rfl) ⟨Nat.le_refl _, Nat.le_refl _⟩ dX7_minutes_16 (fun H locs hP hS => ?_)
    refine lv_if_ne (tgt := 24) hx hb dX7_minutes_19 (by decide) (fun tc6 => ?_) (fun tc6 => ?_)
    · replace hk := tr_iff hk tc6
      refine lv_aload_n hx hb dX7_minutes_24 rfl (lv_at hl 0 rfl) ?_
      refine gf_X7_16 C hP dX7_minutes_25 ?_
      refine lv_iload_n hx hb dX7_minutes_28 rfl (lv_at hl 1 rfl) ?_
      refine lv_iload_n hx hb dX7_minutes_29 rfl (lv_at hl 2 rfl) ?_
      obtain ⟨tv8, tq7, hk⟩ := tr_okb hk
      refine tr_cvi (As := [.int tv900, .int tv901]) (rest := []) C hP hS hl (c_X2_of l w 2 tr_net_2 tv900 tv901 h tv8 tq7) mz_X2_of ml_X7_116 (by decide) rfl rfl rfl rfl ⟨Nat.le_of_ble_eq_true rfl, Nat.le_of_ble_eq_true rfl⟩ rfl rfl (Nat.le_of_ble_eq_true rfl) ⟨Nat.le_refl _, Nat.le_refl _⟩ dX7_minutes_30 (fun H locs hP hS => ?_)
      exact tr_iret C hP hS hr hlocks (congrArg (fun x => (x, h)) (tr_okS (P := (fun o => o = r0)) hk)) dX7_minutes_33
    · replace hk := tr_ift hk tc6
      refine lv_iconst (v := (-1)) hx hb dX7_minutes_22 (by decide) ?_
      exact tr_iret C hP hS hr hlocks (congrArg (fun x => (x, h)) (tr_okS (P := (fun o => o = r0)) hk)) dX7_minutes_23
abbrev r_X7_change : Room := { frames := 2, cells := 0, slots := 0, locals := 44 }
set_option maxHeartbeats 4000000 in
set_option maxRecDepth 100000 in
theorem c_X7_change (l : Launch) (w : tr_E) (tv900 : Int32) (tv901 : Int32) (tv902 : Int32) (h : tr_H) (r0 : Int32) (h0 : tr_H) (hk : f_X7_change tv900 tv901 tv902 h = some (r0, h0)) : Met l yX7_change (Cond.code yX7_change cX7_change 5 (some .int) :: tr_T) r_X7_change (va_Pc [.ref (tr_ad w 0), .int tv900, .int tv901, .int tv902] (tr_Wo tr_X w h)) (tr_Qi tr_X w r0 h0) 0 0 (tr_R tr_X w) := by
  refine tr_start (by decide) (Nat.le_refl _) ?_
  intro p e s m args below meth c C hr hlocks hargs hP
  have hx := C.1
  have hb := C.2.1
  have hS : va_S (tr_R tr_X w) s.heap s.heap [] := va_S.rf
  have hl := lv_entry ([.ref (tr_ad w 0), .int tv900, .int tv901, .int tv902]) (n := 5) (Nat.le_of_ble_eq_true rfl)
  rw [lg_entry_eq]
  generalize (lg_sl ([.ref (tr_ad w 0), .int tv900, .int tv901, .int tv902]) ++ List.replicate (5 - (lg_sl ([.ref (tr_ad w 0), .int tv900, .int tv901, .int tv902])).length) Slot.unset).toArray = ls at hl ⊢
  have hl : lv_has ls 5 [(0, .ref (tr_ad w 0)), (1, .int tv900), (2, .int tv901), (3, .int tv902)] := hl
  replace hk : tr_ok (f_X7_change tv900 tv901 tv902 h) (fun o => o = (r0, h0)) := ⟨_, hk, rfl⟩
  unfold f_X7_change at hk
  refine lv_aload_n hx hb dX7_change_0 rfl (lv_at hl 0 rfl) ?_
  refine gf_X7_16 C hP dX7_change_1 ?_
  refine lv_iload_n hx hb dX7_change_4 rfl (lv_at hl 1 rfl) ?_
  refine lv_iload_n hx hb dX7_change_5 rfl (lv_at hl 2 rfl) ?_
  obtain ⟨tv2, tq1, hk⟩ := tr_okb hk
  refine tr_cvi (As := [.int tv900, .int tv901]) (rest := []) C hP hS hl (c_X2_of l w 2 tr_net_2 tv900 tv901 h tv2 tq1) mz_X2_of ml_X7_116 (by decide) rfl rfl rfl rfl ⟨Nat.le_of_ble_eq_true rfl, Nat.le_of_ble_eq_true rfl⟩ rfl rfl (Nat.le_of_ble_eq_true rfl) ⟨Nat.le_refl _, Nat.le_refl _⟩ dX7_change_6 (fun H locs hP hS => ?_)
  refine lv_istore (lv' := [(4, .int tv2), (0, .ref (tr_ad w 0)), (1, .int tv900), (2, .int tv901), (3, .int tv902)]) hx hb dX7_change_9 hl (by decide) rfl (fun ls hl => ?_)
  refine lv_aload_n hx hb dX7_change_11 rfl (lv_at hl 1 rfl) ?_
  refine gf_X7_41 C hP dX7_change_12 ?_
  refine lv_iload_n hx hb dX7_change_15 rfl (lv_at hl 2 rfl) ?_
  refine lv_iload_n hx hb dX7_change_16 rfl (lv_at hl 3 rfl) ?_
  refine lv_iload hx hb dX7_change_17 (lv_at hl 0 rfl) ?_
  obtain ⟨th4, tq3, hk⟩ := tr_okb hk
  refine tr_cvv (As := [.int tv900, .int tv901, .int tv2]) (rest := []) C hP hS hl (c_X1_add l w tv900 tv901 tv2 h th4 tq3) mz_X1_add ml_X7_210 (by decide) rfl rfl rfl rfl ⟨Nat.le_of_ble_eq_true rfl, Nat.le_of_ble_eq_true rfl⟩ rfl rfl (Nat.le_of_ble_eq_true rfl) ⟨Nat.le_refl _, Nat.le_refl _⟩ dX7_change_19 (fun H locs hP hS => ?_)
  refine lv_aload_n hx hb dX7_change_22 rfl (lv_at hl 1 rfl) ?_
  refine gf_X7_16 C hP dX7_change_23 ?_
  refine lv_iload_n hx hb dX7_change_26 rfl (lv_at hl 2 rfl) ?_
  refine lv_iload_n hx hb dX7_change_27 rfl (lv_at hl 3 rfl) ?_
  refine lv_iload_n hx hb dX7_change_28 rfl (lv_at hl 4 rfl) ?_
  obtain ⟨tv6, th7, tq5, hk⟩ := tr_okb2 hk
  refine tr_cvi (As := [.int tv900, .int tv901, .int tv902]) (rest := []) C hP hS hl (c_X2_lay l w 2 tr_net_2 tv900 tv901 tv902 th4 tv6 th7 tq5) mz_X2_lay ml_X7_169 (by decide) rfl rfl rfl rfl ⟨Nat.le_of_ble_eq_true rfl, Nat.le_of_ble_eq_true rfl⟩ rfl rfl (Nat.le_of_ble_eq_true rfl) ⟨Nat.le_refl _, Nat.le_refl _⟩ dX7_change_29 (fun H locs hP hS => ?_)
  refine lv_pop hx hb dX7_change_32 rfl ?_
  refine lv_iload hx hb dX7_change_33 (lv_at hl 0 rfl) ?_
  exact tr_iret C hP hS hr hlocks (tr_okS (P := (fun o => o = (r0, h0))) hk) dX7_change_35
abbrev r_X7_put : Room := { frames := 3, cells := 0, slots := 0, locals := 68 }
set_option maxHeartbeats 4000000 in
set_option maxRecDepth 100000 in
theorem c_X7_put (l : Launch) (w : tr_E) (tv900 : Int32) (tv901 : Int32) (tv902 : Int32) (h : tr_H) (r0 : Int32) (h0 : tr_H) (hk : f_X7_put tv900 tv901 tv902 h = some (r0, h0)) : Met l yX7_put (Cond.code yX7_put cX7_put 4 (some .int) :: tr_T) r_X7_put (va_Pc [.ref (tr_ad w 0), .int tv900, .int tv901, .int tv902] (tr_Wo tr_X w h)) (tr_Qi tr_X w r0 h0) 0 0 (tr_R tr_X w) := by
  refine tr_start (by decide) (Nat.le_refl _) ?_
  intro p e s m args below meth c C hr hlocks hargs hP
  have hx := C.1
  have hb := C.2.1
  have hS : va_S (tr_R tr_X w) s.heap s.heap [] := va_S.rf
  have hl := lv_entry ([.ref (tr_ad w 0), .int tv900, .int tv901, .int tv902]) (n := 4) (Nat.le_of_ble_eq_true rfl)
  rw [lg_entry_eq]
  generalize (lg_sl ([.ref (tr_ad w 0), .int tv900, .int tv901, .int tv902]) ++ List.replicate (4 - (lg_sl ([.ref (tr_ad w 0), .int tv900, .int tv901, .int tv902])).length) Slot.unset).toArray = ls at hl ⊢
  have hl : lv_has ls 4 [(0, .ref (tr_ad w 0)), (1, .int tv900), (2, .int tv901), (3, .int tv902)] := hl
  replace hk : tr_ok (f_X7_put tv900 tv901 tv902 h) (fun o => o = (r0, h0)) := ⟨_, hk, rfl⟩
  unfold f_X7_put at hk
  refine lv_aload_n hx hb dX7_put_0 rfl (lv_at hl 0 rfl) ?_
  refine gf_X7_16 C hP dX7_put_1 ?_
  refine lv_iload_n hx hb dX7_put_4 rfl (lv_at hl 1 rfl) ?_
  obtain ⟨tv2, tq1, hk⟩ := tr_okb hk
  refine tr_cvi (As := [.int tv900]) (rest := []) C hP hS hl (c_X2_has l w 2 tr_net_2 tv900 h tv2 tq1) mz_X2_has ml_X7_112 (by decide) rfl rfl rfl rfl ⟨Nat.le_of_ble_eq_true rfl, Nat.le_of_ble_eq_true rfl⟩ rfl rfl (Nat.le_of_ble_eq_true rfl) ⟨Nat.le_refl _, Nat.le_refl _⟩ dX7_put_5 (fun H locs hP hS => ?_)
  refine lv_if_eq (tgt := 22) hx hb dX7_put_8 (by decide) (fun tc3 => ?_) (fun tc3 => ?_)
  · replace hk := tr_ift hk tc3
    refine lv_iconst (v := (-1)) hx hb dX7_put_22 (by decide) ?_
    exact tr_iret C hP hS hr hlocks (tr_okS (P := (fun o => o = (r0, h0))) hk) dX7_put_23
  · replace hk := tr_iff hk tc3
    refine lv_aload_n hx hb dX7_put_11 rfl (lv_at hl 0 rfl) ?_
    refine gf_X7_16 C hP dX7_put_12 ?_
    refine lv_iload_n hx hb dX7_put_15 rfl (lv_at hl 2 rfl) ?_
    obtain ⟨tv5, tq4, hk⟩ := tr_okb hk
    refine tr_cvi (As := [.int tv901]) (rest := []) C hP hS hl (c_X2_has l w 2 tr_net_2 tv901 h tv5 tq4) mz_X2_has ml_X7_112 (by decide) rfl rfl rfl rfl ⟨Nat.le_of_ble_eq_true rfl, Nat.le_of_ble_eq_true rfl⟩ rfl rfl (Nat.le_of_ble_eq_true rfl) ⟨Nat.le_refl _, Nat.le_refl _⟩ dX7_put_16 (fun H locs hP hS => ?_)
    refine lv_if_ne (tgt := 24) hx hb dX7_put_19 (by decide) (fun tc6 => ?_) (fun tc6 => ?_)
    · replace hk := tr_iff hk tc6
      refine lv_iload_n hx hb dX7_put_24 rfl (lv_at hl 3 rfl) ?_
      refine lv_if_lt (tgt := 34) hx hb dX7_put_25 (by decide) (fun tc7 => ?_) (fun tc7 => ?_)
      · replace hk := tr_ift hk tc7
        refine lv_bipush (v := (-2)) hx hb dX7_put_34 (by decide) ?_
        exact tr_iret C hP hS hr hlocks (tr_okS (P := (fun o => o = (r0, h0))) hk) dX7_put_36
      · replace hk := tr_iff hk tc7
        refine lv_iload_n hx hb dX7_put_28 rfl (lv_at hl 3 rfl) ?_
        refine lv_bipush (v := 9) hx hb dX7_put_29 (by decide) ?_
        refine lv_icmp_le (tgt := 37) hx hb dX7_put_31 (by decide) (fun tc8 => ?_) (fun tc8 => ?_)
        · replace hk := tr_ift hk tc8
          refine lv_aload_n hx hb dX7_put_37 rfl (lv_at hl 0 rfl) ?_
          refine gf_X7_16 C hP dX7_put_38 ?_
          refine lv_iload_n hx hb dX7_put_41 rfl (lv_at hl 1 rfl) ?_
          refine lv_iload_n hx hb dX7_put_42 rfl (lv_at hl 2 rfl) ?_
          obtain ⟨tv10, tq9, hk⟩ := tr_okb hk
          refine tr_cvi (As := [.int tv900, .int tv901]) (rest := []) C hP hS hl (c_X2_of l w 2 tr_net_2 tv900 tv901 h tv10 tq9) mz_X2_of ml_X7_116 (by decide) rfl rfl rfl rfl ⟨Nat.le_of_ble_eq_true rfl, Nat.le_of_ble_eq_true rfl⟩ rfl rfl (Nat.le_of_ble_eq_true rfl) ⟨Nat.le_refl _, Nat.le_refl _⟩ dX7_put_43 (fun H locs hP hS => ?_)
          refine lv_bipush (v := (-9)) hx hb dX7_put_46 (by decide) ?_
          refine lv_icmp_eq (tgt := 54) hx hb dX7_put_48 (by decide) (fun tc11 => ?_) (fun tc11 => ?_)
          · replace hk := tr_ift hk tc11
            refine lv_aload_n hx hb dX7_put_54 rfl (lv_at hl 0 rfl) ?_
            refine lv_iload_n hx hb dX7_put_55 rfl (lv_at hl 1 rfl) ?_
            refine lv_iload_n hx hb dX7_put_56 rfl (lv_at hl 2 rfl) ?_
            refine lv_iload_n hx hb dX7_put_57 rfl (lv_at hl 3 rfl) ?_
            obtain ⟨tv13, th14, tq12, hk⟩ := tr_okb2 hk
            refine tr_cvi (As := [.int tv900, .int tv901, .int tv902]) (rest := []) C hP hS hl (c_X7_change l w tv900 tv901 tv902 h tv13 th14 tq12) mz_X7_change ml_X7_120 (by decide) rfl rfl rfl rfl ⟨Nat.le_of_ble_eq_true rfl, Nat.le_of_ble_eq_true rfl⟩ rfl rfl (Nat.le_of_ble_eq_true rfl) ⟨Nat.le_refl _, Nat.le_refl _⟩ dX7_put_58 (fun H locs hP hS => ?_)
            refine lv_pop hx hb dX7_put_61 rfl ?_
            refine lv_aload_n hx hb dX7_put_62 rfl (lv_at hl 0 rfl) ?_
            refine gf_X7_16 C hP dX7_put_63 ?_
            obtain ⟨tv16, tq15, hk⟩ := tr_okb hk
            refine tr_cvi (As := []) (rest := []) C hP hS hl (c_X2_waits l w 2 tr_net_2 th14 tv16 tq15) mz_X2_waits ml_X7_88 (by decide) rfl rfl rfl rfl ⟨Nat.le_of_ble_eq_true rfl, Nat.le_of_ble_eq_true rfl⟩ rfl rfl (Nat.le_of_ble_eq_true rfl) ⟨Nat.le_refl _, Nat.le_refl _⟩ dX7_put_66 (fun H locs hP hS => ?_)
            exact tr_iret C hP hS hr hlocks (tr_okS (P := (fun o => o = (r0, h0))) hk) dX7_put_69
          · replace hk := tr_iff hk tc11
            refine lv_bipush (v := (-3)) hx hb dX7_put_51 (by decide) ?_
            exact tr_iret C hP hS hr hlocks (tr_okS (P := (fun o => o = (r0, h0))) hk) dX7_put_53
        · replace hk := tr_iff hk tc8
          refine lv_bipush (v := (-2)) hx hb dX7_put_34 (by decide) ?_
          exact tr_iret C hP hS hr hlocks (tr_okS (P := (fun o => o = (r0, h0))) hk) dX7_put_36
    · replace hk := tr_ift hk tc6
      refine lv_iconst (v := (-1)) hx hb dX7_put_22 (by decide) ?_
      exact tr_iret C hP hS hr hlocks (tr_okS (P := (fun o => o = (r0, h0))) hk) dX7_put_23
abbrev r_X7_cut : Room := { frames := 3, cells := 0, slots := 0, locals := 68 }
set_option maxHeartbeats 4000000 in
set_option maxRecDepth 100000 in
theorem c_X7_cut (l : Launch) (w : tr_E) (tv900 : Int32) (tv901 : Int32) (h : tr_H) (r0 : Int32) (h0 : tr_H) (hk : f_X7_cut tv900 tv901 h = some (r0, h0)) : Met l yX7_cut (Cond.code yX7_cut cX7_cut 3 (some .int) :: tr_T) r_X7_cut (va_Pc [.ref (tr_ad w 0), .int tv900, .int tv901] (tr_Wo tr_X w h)) (tr_Qi tr_X w r0 h0) 0 0 (tr_R tr_X w) := by
  refine tr_start (by decide) (Nat.le_refl _) ?_
  intro p e s m args below meth c C hr hlocks hargs hP
  have hx := C.1
  have hb := C.2.1
  have hS : va_S (tr_R tr_X w) s.heap s.heap [] := va_S.rf
  have hl := lv_entry ([.ref (tr_ad w 0), .int tv900, .int tv901]) (n := 3) (Nat.le_of_ble_eq_true rfl)
  rw [lg_entry_eq]
  generalize (lg_sl ([.ref (tr_ad w 0), .int tv900, .int tv901]) ++ List.replicate (3 - (lg_sl ([.ref (tr_ad w 0), .int tv900, .int tv901])).length) Slot.unset).toArray = ls at hl ⊢
  have hl : lv_has ls 3 [(0, .ref (tr_ad w 0)), (1, .int tv900), (2, .int tv901)] := hl
  replace hk : tr_ok (f_X7_cut tv900 tv901 h) (fun o => o = (r0, h0)) := ⟨_, hk, rfl⟩
  unfold f_X7_cut at hk
  refine lv_aload_n hx hb dX7_cut_0 rfl (lv_at hl 0 rfl) ?_
  refine gf_X7_16 C hP dX7_cut_1 ?_
  refine lv_iload_n hx hb dX7_cut_4 rfl (lv_at hl 1 rfl) ?_
  obtain ⟨tv2, tq1, hk⟩ := tr_okb hk
  refine tr_cvi (As := [.int tv900]) (rest := []) C hP hS hl (c_X2_has l w 2 tr_net_2 tv900 h tv2 tq1) mz_X2_has ml_X7_112 (by decide) rfl rfl rfl rfl ⟨Nat.le_of_ble_eq_true rfl, Nat.le_of_ble_eq_true rfl⟩ rfl rfl (Nat.le_of_ble_eq_true rfl) ⟨Nat.le_refl _, Nat.le_refl _⟩ dX7_cut_5 (fun H locs hP hS => ?_)
  refine lv_if_eq (tgt := 22) hx hb dX7_cut_8 (by decide) (fun tc3 => ?_) (fun tc3 => ?_)
  · replace hk := tr_ift hk tc3
    refine lv_iconst (v := (-1)) hx hb dX7_cut_22 (by decide) ?_
    exact tr_iret C hP hS hr hlocks (tr_okS (P := (fun o => o = (r0, h0))) hk) dX7_cut_23
  · replace hk := tr_iff hk tc3
    refine lv_aload_n hx hb dX7_cut_11 rfl (lv_at hl 0 rfl) ?_
    refine gf_X7_16 C hP dX7_cut_12 ?_
    refine lv_iload_n hx hb dX7_cut_15 rfl (lv_at hl 2 rfl) ?_
    obtain ⟨tv5, tq4, hk⟩ := tr_okb hk
    refine tr_cvi (As := [.int tv901]) (rest := []) C hP hS hl (c_X2_has l w 2 tr_net_2 tv901 h tv5 tq4) mz_X2_has ml_X7_112 (by decide) rfl rfl rfl rfl ⟨Nat.le_of_ble_eq_true rfl, Nat.le_of_ble_eq_true rfl⟩ rfl rfl (Nat.le_of_ble_eq_true rfl) ⟨Nat.le_refl _, Nat.le_refl _⟩ dX7_cut_16 (fun H locs hP hS => ?_)
    refine lv_if_ne (tgt := 24) hx hb dX7_cut_19 (by decide) (fun tc6 => ?_) (fun tc6 => ?_)
    · replace hk := tr_iff hk tc6
      refine lv_aload_n hx hb dX7_cut_24 rfl (lv_at hl 0 rfl) ?_
      refine gf_X7_16 C hP dX7_cut_25 ?_
      refine lv_iload_n hx hb dX7_cut_28 rfl (lv_at hl 1 rfl) ?_
      refine lv_iload_n hx hb dX7_cut_29 rfl (lv_at hl 2 rfl) ?_
      obtain ⟨tv8, tq7, hk⟩ := tr_okb hk
      refine tr_cvi (As := [.int tv900, .int tv901]) (rest := []) C hP hS hl (c_X2_of l w 2 tr_net_2 tv900 tv901 h tv8 tq7) mz_X2_of ml_X7_116 (by decide) rfl rfl rfl rfl ⟨Nat.le_of_ble_eq_true rfl, Nat.le_of_ble_eq_true rfl⟩ rfl rfl (Nat.le_of_ble_eq_true rfl) ⟨Nat.le_refl _, Nat.le_refl _⟩ dX7_cut_30 (fun H locs hP hS => ?_)
      refine lv_bipush (v := (-9)) hx hb dX7_cut_33 (by decide) ?_
      refine lv_icmp_ne (tgt := 41) hx hb dX7_cut_35 (by decide) (fun tc9 => ?_) (fun tc9 => ?_)
      · replace hk := tr_iff hk tc9
        refine lv_aload_n hx hb dX7_cut_41 rfl (lv_at hl 0 rfl) ?_
        refine lv_iload_n hx hb dX7_cut_42 rfl (lv_at hl 1 rfl) ?_
        refine lv_iload_n hx hb dX7_cut_43 rfl (lv_at hl 2 rfl) ?_
        refine lv_bipush (v := (-9)) hx hb dX7_cut_44 (by decide) ?_
        obtain ⟨tv11, th12, tq10, hk⟩ := tr_okb2 hk
        refine tr_cvi (As := [.int tv900, .int tv901, .int (-9)]) (rest := []) C hP hS hl (c_X7_change l w tv900 tv901 (-9) h tv11 th12 tq10) mz_X7_change ml_X7_120 (by decide) rfl rfl rfl rfl ⟨Nat.le_of_ble_eq_true rfl, Nat.le_of_ble_eq_true rfl⟩ rfl rfl (Nat.le_of_ble_eq_true rfl) ⟨Nat.le_refl _, Nat.le_refl _⟩ dX7_cut_46 (fun H locs hP hS => ?_)
        exact tr_iret C hP hS hr hlocks (tr_okS (P := (fun o => o = (r0, h0))) hk) dX7_cut_49
      · replace hk := tr_ift hk tc9
        refine lv_bipush (v := (-3)) hx hb dX7_cut_38 (by decide) ?_
        exact tr_iret C hP hS hr hlocks (tr_okS (P := (fun o => o = (r0, h0))) hk) dX7_cut_40
    · replace hk := tr_ift hk tc6
      refine lv_iconst (v := (-1)) hx hb dX7_cut_22 (by decide) ?_
      exact tr_iret C hP hS hr hlocks (tr_okS (P := (fun o => o = (r0, h0))) hk) dX7_cut_23
abbrev r_X7_time : Room := { frames := 3, cells := 0, slots := 0, locals := 68 }
set_option maxHeartbeats 4000000 in
set_option maxRecDepth 100000 in
theorem c_X7_time (l : Launch) (w : tr_E) (tv900 : Int32) (tv901 : Int32) (tv902 : Int32) (h : tr_H) (r0 : Int32) (h0 : tr_H) (hk : f_X7_time tv900 tv901 tv902 h = some (r0, h0)) : Met l yX7_time (Cond.code yX7_time cX7_time 4 (some .int) :: tr_T) r_X7_time (va_Pc [.ref (tr_ad w 0), .int tv900, .int tv901, .int tv902] (tr_Wo tr_X w h)) (tr_Qi tr_X w r0 h0) 0 0 (tr_R tr_X w) := by
  refine tr_start (by decide) (Nat.le_refl _) ?_
  intro p e s m args below meth c C hr hlocks hargs hP
  have hx := C.1
  have hb := C.2.1
  have hS : va_S (tr_R tr_X w) s.heap s.heap [] := va_S.rf
  have hl := lv_entry ([.ref (tr_ad w 0), .int tv900, .int tv901, .int tv902]) (n := 4) (Nat.le_of_ble_eq_true rfl)
  rw [lg_entry_eq]
  generalize (lg_sl ([.ref (tr_ad w 0), .int tv900, .int tv901, .int tv902]) ++ List.replicate (4 - (lg_sl ([.ref (tr_ad w 0), .int tv900, .int tv901, .int tv902])).length) Slot.unset).toArray = ls at hl ⊢
  have hl : lv_has ls 4 [(0, .ref (tr_ad w 0)), (1, .int tv900), (2, .int tv901), (3, .int tv902)] := hl
  replace hk : tr_ok (f_X7_time tv900 tv901 tv902 h) (fun o => o = (r0, h0)) := ⟨_, hk, rfl⟩
  unfold f_X7_time at hk
  refine lv_aload_n hx hb dX7_time_0 rfl (lv_at hl 0 rfl) ?_
  refine gf_X7_16 C hP dX7_time_1 ?_
  refine lv_iload_n hx hb dX7_time_4 rfl (lv_at hl 1 rfl) ?_
  obtain ⟨tv2, tq1, hk⟩ := tr_okb hk
  refine tr_cvi (As := [.int tv900]) (rest := []) C hP hS hl (c_X2_has l w 2 tr_net_2 tv900 h tv2 tq1) mz_X2_has ml_X7_112 (by decide) rfl rfl rfl rfl ⟨Nat.le_of_ble_eq_true rfl, Nat.le_of_ble_eq_true rfl⟩ rfl rfl (Nat.le_of_ble_eq_true rfl) ⟨Nat.le_refl _, Nat.le_refl _⟩ dX7_time_5 (fun H locs hP hS => ?_)
  refine lv_if_eq (tgt := 22) hx hb dX7_time_8 (by decide) (fun tc3 => ?_) (fun tc3 => ?_)
  · replace hk := tr_ift hk tc3
    refine lv_iconst (v := (-1)) hx hb dX7_time_22 (by decide) ?_
    exact tr_iret C hP hS hr hlocks (tr_okS (P := (fun o => o = (r0, h0))) hk) dX7_time_23
  · replace hk := tr_iff hk tc3
    refine lv_aload_n hx hb dX7_time_11 rfl (lv_at hl 0 rfl) ?_
    refine gf_X7_16 C hP dX7_time_12 ?_
    refine lv_iload_n hx hb dX7_time_15 rfl (lv_at hl 2 rfl) ?_
    obtain ⟨tv5, tq4, hk⟩ := tr_okb hk
    refine tr_cvi (As := [.int tv901]) (rest := []) C hP hS hl (c_X2_has l w 2 tr_net_2 tv901 h tv5 tq4) mz_X2_has ml_X7_112 (by decide) rfl rfl rfl rfl ⟨Nat.le_of_ble_eq_true rfl, Nat.le_of_ble_eq_true rfl⟩ rfl rfl (Nat.le_of_ble_eq_true rfl) ⟨Nat.le_refl _, Nat.le_refl _⟩ dX7_time_16 (fun H locs hP hS => ?_)
    refine lv_if_ne (tgt := 24) hx hb dX7_time_19 (by decide) (fun tc6 => ?_) (fun tc6 => ?_)
    · replace hk := tr_iff hk tc6
      refine lv_iload_n hx hb dX7_time_24 rfl (lv_at hl 3 rfl) ?_
      refine lv_if_lt (tgt := 34) hx hb dX7_time_25 (by decide) (fun tc7 => ?_) (fun tc7 => ?_)
      · replace hk := tr_ift hk tc7
        refine lv_bipush (v := (-2)) hx hb dX7_time_34 (by decide) ?_
        exact tr_iret C hP hS hr hlocks (tr_okS (P := (fun o => o = (r0, h0))) hk) dX7_time_36
      · replace hk := tr_iff hk tc7
        refine lv_iload_n hx hb dX7_time_28 rfl (lv_at hl 3 rfl) ?_
        refine lv_bipush (v := 9) hx hb dX7_time_29 (by decide) ?_
        refine lv_icmp_le (tgt := 37) hx hb dX7_time_31 (by decide) (fun tc8 => ?_) (fun tc8 => ?_)
        · replace hk := tr_ift hk tc8
          refine lv_aload_n hx hb dX7_time_37 rfl (lv_at hl 0 rfl) ?_
          refine gf_X7_16 C hP dX7_time_38 ?_
          refine lv_iload_n hx hb dX7_time_41 rfl (lv_at hl 1 rfl) ?_
          refine lv_iload_n hx hb dX7_time_42 rfl (lv_at hl 2 rfl) ?_
          obtain ⟨tv10, tq9, hk⟩ := tr_okb hk
          refine tr_cvi (As := [.int tv900, .int tv901]) (rest := []) C hP hS hl (c_X2_of l w 2 tr_net_2 tv900 tv901 h tv10 tq9) mz_X2_of ml_X7_116 (by decide) rfl rfl rfl rfl ⟨Nat.le_of_ble_eq_true rfl, Nat.le_of_ble_eq_true rfl⟩ rfl rfl (Nat.le_of_ble_eq_true rfl) ⟨Nat.le_refl _, Nat.le_refl _⟩ dX7_time_43 (fun H locs hP hS => ?_)
          refine lv_bipush (v := (-9)) hx hb dX7_time_46 (by decide) ?_
          refine lv_icmp_ne (tgt := 54) hx hb dX7_time_48 (by decide) (fun tc11 => ?_) (fun tc11 => ?_)
          · replace hk := tr_iff hk tc11
            refine lv_aload_n hx hb dX7_time_54 rfl (lv_at hl 0 rfl) ?_
            refine lv_iload_n hx hb dX7_time_55 rfl (lv_at hl 1 rfl) ?_
            refine lv_iload_n hx hb dX7_time_56 rfl (lv_at hl 2 rfl) ?_
            refine lv_iload_n hx hb dX7_time_57 rfl (lv_at hl 3 rfl) ?_
            obtain ⟨tv13, th14, tq12, hk⟩ := tr_okb2 hk
            refine tr_cvi (As := [.int tv900, .int tv901, .int tv902]) (rest := []) C hP hS hl (c_X7_change l w tv900 tv901 tv902 h tv13 th14 tq12) mz_X7_change ml_X7_120 (by decide) rfl rfl rfl rfl ⟨Nat.le_of_ble_eq_true rfl, Nat.le_of_ble_eq_true rfl⟩ rfl rfl (Nat.le_of_ble_eq_true rfl) ⟨Nat.le_refl _, Nat.le_refl _⟩ dX7_time_58 (fun H locs hP hS => ?_)
            exact tr_iret C hP hS hr hlocks (tr_okS (P := (fun o => o = (r0, h0))) hk) dX7_time_61
          · replace hk := tr_ift hk tc11
            refine lv_bipush (v := (-3)) hx hb dX7_time_51 (by decide) ?_
            exact tr_iret C hP hS hr hlocks (tr_okS (P := (fun o => o = (r0, h0))) hk) dX7_time_53
        · replace hk := tr_iff hk tc8
          refine lv_bipush (v := (-2)) hx hb dX7_time_34 (by decide) ?_
          exact tr_iret C hP hS hr hlocks (tr_okS (P := (fun o => o = (r0, h0))) hk) dX7_time_36
    · replace hk := tr_ift hk tc6
      refine lv_iconst (v := (-1)) hx hb dX7_time_22 (by decide) ?_
      exact tr_iret C hP hS hr hlocks (tr_okS (P := (fun o => o = (r0, h0))) hk) dX7_time_23
abbrev r_X7_undo : Room := { frames := 3, cells := 0, slots := 0, locals := 65 }
set_option maxHeartbeats 4000000 in
set_option maxRecDepth 100000 in
theorem c_X7_undo (l : Launch) (w : tr_E)  (h : tr_H) (r0 : Int32) (h0 : tr_H) (hk : f_X7_undo h = some (r0, h0)) : Met l yX7_undo (Cond.code yX7_undo cX7_undo 1 (some .int) :: tr_T) r_X7_undo (va_Pc [.ref (tr_ad w 0)] (tr_Wo tr_X w h)) (tr_Qi tr_X w r0 h0) 0 0 (tr_R tr_X w) := by
  refine tr_start (by decide) (Nat.le_refl _) ?_
  intro p e s m args below meth c C hr hlocks hargs hP
  have hx := C.1
  have hb := C.2.1
  have hS : va_S (tr_R tr_X w) s.heap s.heap [] := va_S.rf
  have hl := lv_entry ([.ref (tr_ad w 0)]) (n := 1) (Nat.le_of_ble_eq_true rfl)
  rw [lg_entry_eq]
  generalize (lg_sl ([.ref (tr_ad w 0)]) ++ List.replicate (1 - (lg_sl ([.ref (tr_ad w 0)])).length) Slot.unset).toArray = ls at hl ⊢
  have hl : lv_has ls 1 [(0, .ref (tr_ad w 0))] := hl
  replace hk : tr_ok (f_X7_undo h) (fun o => o = (r0, h0)) := ⟨_, hk, rfl⟩
  unfold f_X7_undo at hk
  refine lv_aload_n hx hb dX7_undo_0 rfl (lv_at hl 0 rfl) ?_
  refine gf_X7_41 C hP dX7_undo_1 ?_
  refine gf_X7_108 C hP dX7_undo_4 ?_
  refine lv_if_ne (tgt := 13) hx hb dX7_undo_7 (by decide) (fun tc1 => ?_) (fun tc1 => ?_)
  · replace hk := tr_iff hk tc1
    refine lv_aload_n hx hb dX7_undo_13 rfl (lv_at hl 0 rfl) ?_
    refine gf_X7_41 C hP dX7_undo_14 ?_
    refine lv_aload_n hx hb dX7_undo_17 rfl (lv_at hl 0 rfl) ?_
    refine gf_X7_16 C hP dX7_undo_18 ?_
    obtain ⟨th3, tq2, hk⟩ := tr_okb hk
    refine tr_cvv (As := [.ref (tr_ad w 2)]) (rest := []) C hP hS hl (c_X1_takeBack l w 2 tr_net_2 h th3 tq2) mz_X1_takeBack ml_X7_124 (by decide) rfl rfl rfl rfl ⟨Nat.le_of_ble_eq_true rfl, Nat.le_of_ble_eq_true rfl⟩ rfl rfl (Nat.le_of_ble_eq_true rfl) ⟨Nat.le_refl _, Nat.le_refl _⟩ dX7_undo_21 (fun H locs hP hS => ?_)
    refine lv_aload_n hx hb dX7_undo_24 rfl (lv_at hl 0 rfl) ?_
    refine gf_X7_41 C hP dX7_undo_25 ?_
    refine gf_X7_108 C hP dX7_undo_28 ?_
    exact tr_iret C hP hS hr hlocks (tr_okS (P := (fun o => o = (r0, h0))) hk) dX7_undo_31
  · replace hk := tr_ift hk tc1
    refine lv_bipush (v := (-3)) hx hb dX7_undo_10 (by decide) ?_
    exact tr_iret C hP hS hr hlocks (tr_okS (P := (fun o => o = (r0, h0))) hk) dX7_undo_12
abbrev r_X7_commonDivisor : Room := { frames := 1, cells := 0, slots := 0, locals := 21 }
set_option maxHeartbeats 4000000 in
set_option maxRecDepth 100000 in
theorem c_X7_commonDivisor (l : Launch) (w : tr_E) (tv900 : Int32) (tv901 : Int32) (h : tr_H) (r0 : Int32) (hk : f_X7_commonDivisor tv900 tv901 = some r0) : Met l yX7_commonDivisor (Cond.code yX7_commonDivisor cX7_commonDivisor 6 (some .int) :: tr_T) r_X7_commonDivisor (va_Pc [.int tv900, .int tv901] (tr_Wo tr_X w h)) (tr_Qi tr_X w r0 h) 0 0 (tr_R tr_X w) := by
  refine tr_start (by decide) (Nat.le_refl _) ?_
  intro p e s m args below meth c C hr hlocks hargs hP
  have hx := C.1
  have hb := C.2.1
  have hS : va_S (tr_R tr_X w) s.heap s.heap [] := va_S.rf
  have hl := lv_entry ([.int tv900, .int tv901]) (n := 6) (Nat.le_of_ble_eq_true rfl)
  rw [lg_entry_eq]
  generalize (lg_sl ([.int tv900, .int tv901]) ++ List.replicate (6 - (lg_sl ([.int tv900, .int tv901])).length) Slot.unset).toArray = ls at hl ⊢
  have hl : lv_has ls 6 [(0, .int tv900), (1, .int tv901)] := hl
  replace hk : tr_ok (f_X7_commonDivisor tv900 tv901) (fun o => o = r0) := ⟨_, hk, rfl⟩
  unfold f_X7_commonDivisor at hk
  refine lv_iload_n hx hb dX7_commonDivisor_0 rfl (lv_at hl 0 rfl) ?_
  refine lv_istore_n (lv' := [(2, .int tv900), (0, .int tv900), (1, .int tv901)]) hx hb dX7_commonDivisor_1 rfl hl (by decide) rfl (fun ls hl => ?_)
  refine lv_iload_n hx hb dX7_commonDivisor_2 rfl (lv_at hl 2 rfl) ?_
  refine lv_istore_n (lv' := [(3, .int tv901), (2, .int tv900), (0, .int tv900), (1, .int tv901)]) hx hb dX7_commonDivisor_3 rfl hl (by decide) rfl (fun ls hl => ?_)
  refine lv_iconst (v := 0) hx hb dX7_commonDivisor_4 (by decide) ?_
  refine lv_istore (lv' := [(4, .int 0), (3, .int tv901), (2, .int tv900), (0, .int tv900), (1, .int tv901)]) hx hb dX7_commonDivisor_5 hl (by decide) rfl (fun ls hl => ?_)
  have j34_7 : ∀ (tv1 : Int32), tr_ok (f_X7_commonDivisor_E34 tv1) (fun o => o = r0) → tr_Wd p l e r_X7_commonDivisor s m args below meth c (MQ below (tr_Qi tr_X w r0 h) args s 0 0 (tr_R tr_X w)) tr_X w 6 34 [(2, .int tv1)] [] h := by
    intro tv1 hk H locs ls hP hS hl
    unfold f_X7_commonDivisor_E34 at hk
    refine lv_iconst (v := 1) hx hb dX7_commonDivisor_34 (by decide) ?_
    refine lv_iload_n hx hb dX7_commonDivisor_35 rfl (lv_at hl 0 rfl) ?_
    refine tr_mx C hl ml_X7_205 ⟨Nat.le_of_ble_eq_true rfl, Nat.le_of_ble_eq_true rfl⟩ ⟨Nat.le_refl _, Nat.le_refl _⟩ dX7_commonDivisor_36 ?_
    exact tr_iret C hP hS hr hlocks (congrArg (fun x => (x, h)) (tr_okS (P := (fun o => o = r0)) hk)) dX7_commonDivisor_39
  refine tr_loop (fun q => tr_Wd p l e r_X7_commonDivisor s m args below meth c (MQ below (tr_Qi tr_X w r0 h) args s 0 0 (tr_R tr_X w)) tr_X w 6 7 [(2, .int q.1), (3, .int q.2.1), (4, .int q.2.2)] [] h) hk ?_ _ _ _ hP hS (lv_sub hl [2, 1, 0] rfl)
  intro P7 hin7 hex7 q hk
  obtain ⟨tv2, tv3, tv4⟩ := q
  intro H locs ls hP hS hl
  replace hk : tr_ok (f_X7_commonDivisor_L7 tv2 tv3 tv4) P7 := hk
  unfold f_X7_commonDivisor_L7 at hk
  refine lv_iload hx hb dX7_commonDivisor_7 (lv_at hl 2 rfl) ?_
  refine lv_bipush (v := 64) hx hb dX7_commonDivisor_9 (by decide) ?_
  refine lv_icmp_ge (tgt := 34) hx hb dX7_commonDivisor_11 (by decide) (fun tc5 => ?_) (fun tc5 => ?_)
  · replace hk := tr_ift hk tc5
    replace hk := hex7 _ (tr_okS hk)
    replace hk : tr_ok (f_X7_commonDivisor_E34 tv2) (fun o => o = r0) := hk
    exact j34_7 tv2 hk _ _ _ hP hS (lv_sub hl [0] rfl)
  · replace hk := tr_iff hk tc5
    refine lv_iload_n hx hb dX7_commonDivisor_14 rfl (lv_at hl 1 rfl) ?_
    refine lv_if_eq (tgt := 34) hx hb dX7_commonDivisor_15 (by decide) (fun tc6 => ?_) (fun tc6 => ?_)
    · replace hk := tr_ift hk tc6
      replace hk := hex7 _ (tr_okS hk)
      replace hk : tr_ok (f_X7_commonDivisor_E34 tv2) (fun o => o = r0) := hk
      exact j34_7 tv2 hk _ _ _ hP hS (lv_sub hl [0] rfl)
    · replace hk := tr_iff hk tc6
      refine lv_iload_n hx hb dX7_commonDivisor_18 rfl (lv_at hl 0 rfl) ?_
      refine lv_iload_n hx hb dX7_commonDivisor_19 rfl (lv_at hl 1 rfl) ?_
      obtain ⟨tg7, hk⟩ := tr_okn hk
      refine lv_irem hx hb dX7_commonDivisor_20 tg7 ?_
      refine tr_ti hk (fun tv8 hk => ?_)
      refine lv_istore (lv' := [(5, .int tv8), (2, .int tv2), (3, .int tv3), (4, .int tv4)]) hx hb dX7_commonDivisor_21 hl (by decide) rfl (fun ls hl => ?_)
      refine lv_iload_n hx hb dX7_commonDivisor_23 rfl (lv_at hl 2 rfl) ?_
      refine lv_istore_n (lv' := [(2, .int tv3), (5, .int tv8), (3, .int tv3), (4, .int tv4)]) hx hb dX7_commonDivisor_24 rfl hl (by decide) rfl (fun ls hl => ?_)
      refine lv_iload hx hb dX7_commonDivisor_25 (lv_at hl 1 rfl) ?_
      refine lv_istore_n (lv' := [(3, .int tv8), (2, .int tv3), (5, .int tv8), (4, .int tv4)]) hx hb dX7_commonDivisor_27 rfl hl (by decide) rfl (fun ls hl => ?_)
      obtain ⟨tv9, etv9, hk⟩ := tr_okd hk
      refine lv_iinc (v := tv9) (lv' := [(4, .int tv9), (3, .int tv8), (2, .int tv3), (5, .int tv8)]) hx hb dX7_commonDivisor_28 hl (k := 3) rfl (by rw [etv9]; rfl) (by decide) rfl (fun ls hl => ?_)
      refine lv_goto (tgt := 7) hx hb dX7_commonDivisor_31 (by decide) ?_
      exact hin7 _ (tr_okS hk) _ _ _ hP hS (lv_sub hl [2, 1, 0] rfl)
abbrev r_X7_told : Room := { frames := 2, cells := 0, slots := 0, locals := 46 }
set_option maxHeartbeats 4000000 in
set_option maxRecDepth 100000 in
theorem c_X7_told (l : Launch) (w : tr_E) (tv900 : Int32) (tv901 : Int32) (tv902 : Int32) (h : tr_H) (r0 : Int32) (hk : f_X7_told tv900 tv901 tv902 = some r0) : Met l yX7_told (Cond.code yX7_told cX7_told 4 (some .int) :: tr_T) r_X7_told (va_Pc [.int tv900, .int tv901, .int tv902] (tr_Wo tr_X w h)) (tr_Qi tr_X w r0 h) 0 0 (tr_R tr_X w) := by
  refine tr_start (by decide) (Nat.le_refl _) ?_
  intro p e s m args below meth c C hr hlocks hargs hP
  have hx := C.1
  have hb := C.2.1
  have hS : va_S (tr_R tr_X w) s.heap s.heap [] := va_S.rf
  have hl := lv_entry ([.int tv900, .int tv901, .int tv902]) (n := 4) (Nat.le_of_ble_eq_true rfl)
  rw [lg_entry_eq]
  generalize (lg_sl ([.int tv900, .int tv901, .int tv902]) ++ List.replicate (4 - (lg_sl ([.int tv900, .int tv901, .int tv902])).length) Slot.unset).toArray = ls at hl ⊢
  have hl : lv_has ls 4 [(0, .int tv900), (1, .int tv901), (2, .int tv902)] := hl
  replace hk : tr_ok (f_X7_told tv900 tv901 tv902) (fun o => o = r0) := ⟨_, hk, rfl⟩
  unfold f_X7_told at hk
  refine lv_iload_n hx hb dX7_told_0 rfl (lv_at hl 0 rfl) ?_
  refine lv_iload_n hx hb dX7_told_1 rfl (lv_at hl 1 rfl) ?_
  obtain ⟨tv2, tq1, hk⟩ := tr_okb hk
  refine tr_csi (As := [.int tv900, .int tv901]) (rest := []) C hP hS hl (c_X7_commonDivisor l w tv900 tv901 h tv2 tq1) mz_X7_commonDivisor ml_X7_228 rfl rfl ⟨Nat.le_of_ble_eq_true rfl, Nat.le_of_ble_eq_true rfl⟩ rfl rfl (Nat.le_of_ble_eq_true rfl) ⟨Nat.le_refl _, Nat.le_refl _⟩ dX7_told_2 (fun H locs hP hS => ?_)
  refine lv_istore_n (lv' := [(3, .int tv2), (0, .int tv900), (1, .int tv901), (2, .int tv902)]) hx hb dX7_told_5 rfl hl (by decide) rfl (fun ls hl => ?_)
  refine lv_iload_n hx hb dX7_told_6 rfl (lv_at hl 3 rfl) ?_
  refine lv_if_eq (tgt := 14) hx hb dX7_told_7 (by decide) (fun tc3 => ?_) (fun tc3 => ?_)
  · replace hk := tr_ift hk tc3
    refine lv_iload_n hx hb dX7_told_14 rfl (lv_at hl 2 rfl) ?_
    refine lv_iload_n hx hb dX7_told_15 rfl (lv_at hl 0 rfl) ?_
    obtain ⟨tg4, hk⟩ := tr_okn hk
    refine lv_idiv hx hb dX7_told_16 tg4 ?_
    exact tr_iret C hP hS hr hlocks (congrArg (fun x => (x, h)) (tr_okS (P := (fun o => o = r0)) hk)) dX7_told_17
  · replace hk := tr_iff hk tc3
    refine lv_iload_n hx hb dX7_told_10 rfl (lv_at hl 1 rfl) ?_
    refine lv_goto (tgt := 15) hx hb dX7_told_11 (by decide) ?_
    refine lv_iload_n hx hb dX7_told_15 rfl (lv_at hl 0 rfl) ?_
    obtain ⟨tg5, hk⟩ := tr_okn hk
    refine lv_idiv hx hb dX7_told_16 tg5 ?_
    exact tr_iret C hP hS hr hlocks (congrArg (fun x => (x, h)) (tr_okS (P := (fun o => o = r0)) hk)) dX7_told_17
abbrev r_X7_pace : Room := { frames := 3, cells := 0, slots := 0, locals := 72 }
set_option maxHeartbeats 4000000 in
set_option maxRecDepth 100000 in
theorem c_X7_pace (l : Launch) (w : tr_E) (tv900 : Int32) (h : tr_H) (r0 : Int32) (h0 : tr_H) (hk : f_X7_pace tv900 h = some (r0, h0)) : Met l yX7_pace (Cond.code yX7_pace cX7_pace 3 (some .int) :: tr_T) r_X7_pace (va_Pc [.ref (tr_ad w 0), .int tv900] (tr_Wo tr_X w h)) (tr_Qi tr_X w r0 h0) 0 0 (tr_R tr_X w) := by
  refine tr_start (by decide) (Nat.le_refl _) ?_
  intro p e s m args below meth c C hr hlocks hargs hP
  have hx := C.1
  have hb := C.2.1
  have hS : va_S (tr_R tr_X w) s.heap s.heap [] := va_S.rf
  have hl := lv_entry ([.ref (tr_ad w 0), .int tv900]) (n := 3) (Nat.le_of_ble_eq_true rfl)
  rw [lg_entry_eq]
  generalize (lg_sl ([.ref (tr_ad w 0), .int tv900]) ++ List.replicate (3 - (lg_sl ([.ref (tr_ad w 0), .int tv900])).length) Slot.unset).toArray = ls at hl ⊢
  have hl : lv_has ls 3 [(0, .ref (tr_ad w 0)), (1, .int tv900)] := hl
  replace hk : tr_ok (f_X7_pace tv900 h) (fun o => o = (r0, h0)) := ⟨_, hk, rfl⟩
  unfold f_X7_pace at hk
  refine lv_aload_n hx hb dX7_pace_0 rfl (lv_at hl 0 rfl) ?_
  refine gf_X7_55 C hP dX7_pace_1 ?_
  refine lv_aload_n hx hb dX7_pace_4 rfl (lv_at hl 0 rfl) ?_
  refine gf_X7_16 C hP dX7_pace_5 ?_
  obtain ⟨tv2, th3, tq1, hk⟩ := tr_okb2 hk
  refine tr_cvi (As := [.ref (tr_ad w 2)]) (rest := []) C hP hS hl (c_X6_slowest l w 2 tr_net_2 h tv2 th3 tq1) mz_X6_slowest ml_X7_127 (by decide) rfl rfl rfl rfl ⟨Nat.le_of_ble_eq_true rfl, Nat.le_of_ble_eq_true rfl⟩ rfl rfl (Nat.le_of_ble_eq_true rfl) ⟨Nat.le_refl _, Nat.le_refl _⟩ dX7_pace_8 (fun H locs hP hS => ?_)
  refine lv_istore_n (lv' := [(2, .int tv2), (0, .ref (tr_ad w 0)), (1, .int tv900)]) hx hb dX7_pace_11 rfl hl (by decide) rfl (fun ls hl => ?_)
  refine lv_iload_n hx hb dX7_pace_12 rfl (lv_at hl 0 rfl) ?_
  refine lv_iconst (v := (-1)) hx hb dX7_pace_13 (by decide) ?_
  refine lv_icmp_ne (tgt := 22) hx hb dX7_pace_14 (by decide) (fun tc4 => ?_) (fun tc4 => ?_)
  · replace hk := tr_iff hk tc4
    refine lv_iload_n hx hb dX7_pace_22 rfl (lv_at hl 0 rfl) ?_
    refine lv_bipush (v := 60) hx hb dX7_pace_23 (by decide) ?_
    refine lv_iload_n hx hb dX7_pace_25 rfl (lv_at hl 2 rfl) ?_
    obtain ⟨tv6, tq5, hk⟩ := tr_okb hk
    refine tr_csi (As := [.int tv2, .int 60, .int tv900]) (rest := []) C hP hS hl (c_X7_told l w tv2 60 tv900 th3 tv6 tq5) mz_X7_told ml_X7_131 rfl rfl ⟨Nat.le_of_ble_eq_true rfl, Nat.le_of_ble_eq_true rfl⟩ rfl rfl (Nat.le_of_ble_eq_true rfl) ⟨Nat.le_refl _, Nat.le_refl _⟩ dX7_pace_26 (fun H locs hP hS => ?_)
    exact tr_iret C hP hS hr hlocks (tr_okS (P := (fun o => o = (r0, h0))) hk) dX7_pace_29
  · replace hk := tr_ift hk tc4
    refine lv_bipush (v := (-9)) hx hb dX7_pace_17 (by decide) ?_
    refine lv_goto (tgt := 29) hx hb dX7_pace_19 (by decide) ?_
    exact tr_iret C hP hS hr hlocks (tr_okS (P := (fun o => o = (r0, h0))) hk) dX7_pace_29
abbrev r_X7_critical : Room := { frames := 4, cells := 0, slots := 0, locals := 96 }
set_option maxHeartbeats 4000000 in
set_option maxRecDepth 100000 in
theorem c_X7_critical (l : Launch) (w : tr_E) (tv900 : Int32) (tv901 : Int32) (h : tr_H) (r0 : Int32) (h0 : tr_H) (hk : f_X7_critical tv900 tv901 h = some (r0, h0)) : Met l yX7_critical (Cond.code yX7_critical cX7_critical 3 (some .int) :: tr_T) r_X7_critical (va_Pc [.ref (tr_ad w 0), .int tv900, .int tv901] (tr_Wo tr_X w h)) (tr_Qi tr_X w r0 h0) 0 0 (tr_R tr_X w) := by
  refine tr_start (by decide) (Nat.le_refl _) ?_
  intro p e s m args below meth c C hr hlocks hargs hP
  have hx := C.1
  have hb := C.2.1
  have hS : va_S (tr_R tr_X w) s.heap s.heap [] := va_S.rf
  have hl := lv_entry ([.ref (tr_ad w 0), .int tv900, .int tv901]) (n := 3) (Nat.le_of_ble_eq_true rfl)
  rw [lg_entry_eq]
  generalize (lg_sl ([.ref (tr_ad w 0), .int tv900, .int tv901]) ++ List.replicate (3 - (lg_sl ([.ref (tr_ad w 0), .int tv900, .int tv901])).length) Slot.unset).toArray = ls at hl ⊢
  have hl : lv_has ls 3 [(0, .ref (tr_ad w 0)), (1, .int tv900), (2, .int tv901)] := hl
  replace hk : tr_ok (f_X7_critical tv900 tv901 h) (fun o => o = (r0, h0)) := ⟨_, hk, rfl⟩
  unfold f_X7_critical at hk
  refine lv_aload_n hx hb dX7_critical_0 rfl (lv_at hl 0 rfl) ?_
  refine gf_X7_16 C hP dX7_critical_1 ?_
  refine lv_iload_n hx hb dX7_critical_4 rfl (lv_at hl 1 rfl) ?_
  obtain ⟨tv2, tq1, hk⟩ := tr_okb hk
  refine tr_cvi (As := [.int tv900]) (rest := []) C hP hS hl (c_X2_has l w 2 tr_net_2 tv900 h tv2 tq1) mz_X2_has ml_X7_112 (by decide) rfl rfl rfl rfl ⟨Nat.le_of_ble_eq_true rfl, Nat.le_of_ble_eq_true rfl⟩ rfl rfl (Nat.le_of_ble_eq_true rfl) ⟨Nat.le_refl _, Nat.le_refl _⟩ dX7_critical_5 (fun H locs hP hS => ?_)
  refine lv_if_eq (tgt := 22) hx hb dX7_critical_8 (by decide) (fun tc3 => ?_) (fun tc3 => ?_)
  · replace hk := tr_ift hk tc3
    refine lv_iconst (v := (-1)) hx hb dX7_critical_22 (by decide) ?_
    exact tr_iret C hP hS hr hlocks (tr_okS (P := (fun o => o = (r0, h0))) hk) dX7_critical_23
  · replace hk := tr_iff hk tc3
    refine lv_aload_n hx hb dX7_critical_11 rfl (lv_at hl 0 rfl) ?_
    refine gf_X7_16 C hP dX7_critical_12 ?_
    refine lv_iload_n hx hb dX7_critical_15 rfl (lv_at hl 2 rfl) ?_
    obtain ⟨tv5, tq4, hk⟩ := tr_okb hk
    refine tr_cvi (As := [.int tv901]) (rest := []) C hP hS hl (c_X2_has l w 2 tr_net_2 tv901 h tv5 tq4) mz_X2_has ml_X7_112 (by decide) rfl rfl rfl rfl ⟨Nat.le_of_ble_eq_true rfl, Nat.le_of_ble_eq_true rfl⟩ rfl rfl (Nat.le_of_ble_eq_true rfl) ⟨Nat.le_refl _, Nat.le_refl _⟩ dX7_critical_16 (fun H locs hP hS => ?_)
    refine lv_if_ne (tgt := 24) hx hb dX7_critical_19 (by decide) (fun tc6 => ?_) (fun tc6 => ?_)
    · replace hk := tr_iff hk tc6
      refine lv_aload_n hx hb dX7_critical_24 rfl (lv_at hl 0 rfl) ?_
      refine gf_X7_16 C hP dX7_critical_25 ?_
      refine lv_iload_n hx hb dX7_critical_28 rfl (lv_at hl 1 rfl) ?_
      refine lv_iload_n hx hb dX7_critical_29 rfl (lv_at hl 2 rfl) ?_
      obtain ⟨tv8, tq7, hk⟩ := tr_okb hk
      refine tr_cvi (As := [.int tv900, .int tv901]) (rest := []) C hP hS hl (c_X2_of l w 2 tr_net_2 tv900 tv901 h tv8 tq7) mz_X2_of ml_X7_116 (by decide) rfl rfl rfl rfl ⟨Nat.le_of_ble_eq_true rfl, Nat.le_of_ble_eq_true rfl⟩ rfl rfl (Nat.le_of_ble_eq_true rfl) ⟨Nat.le_refl _, Nat.le_refl _⟩ dX7_critical_30 (fun H locs hP hS => ?_)
      refine lv_bipush (v := (-9)) hx hb dX7_critical_33 (by decide) ?_
      refine lv_icmp_ne (tgt := 41) hx hb dX7_critical_35 (by decide) (fun tc9 => ?_) (fun tc9 => ?_)
      · replace hk := tr_iff hk tc9
        refine lv_aload_n hx hb dX7_critical_41 rfl (lv_at hl 0 rfl) ?_
        refine gf_X7_55 C hP dX7_critical_42 ?_
        refine lv_aload_n hx hb dX7_critical_45 rfl (lv_at hl 0 rfl) ?_
        refine gf_X7_16 C hP dX7_critical_46 ?_
        obtain ⟨th11, tq10, hk⟩ := tr_okb hk
        refine tr_cvv (As := [.ref (tr_ad w 2)]) (rest := []) C hP hS hl (c_X6_compare l w 2 tr_net_2 h th11 tq10) mz_X6_compare ml_X7_135 (by decide) rfl rfl rfl rfl ⟨Nat.le_of_ble_eq_true rfl, Nat.le_of_ble_eq_true rfl⟩ rfl rfl (Nat.le_of_ble_eq_true rfl) ⟨Nat.le_refl _, Nat.le_refl _⟩ dX7_critical_49 (fun H locs hP hS => ?_)
        refine lv_aload_n hx hb dX7_critical_52 rfl (lv_at hl 0 rfl) ?_
        refine gf_X7_55 C hP dX7_critical_53 ?_
        refine lv_aload_n hx hb dX7_critical_56 rfl (lv_at hl 0 rfl) ?_
        refine gf_X7_16 C hP dX7_critical_57 ?_
        refine lv_iload_n hx hb dX7_critical_60 rfl (lv_at hl 1 rfl) ?_
        refine lv_iload_n hx hb dX7_critical_61 rfl (lv_at hl 2 rfl) ?_
        obtain ⟨tv13, tq12, hk⟩ := tr_okb hk
        refine tr_cvi (As := [.ref (tr_ad w 2), .int tv900, .int tv901]) (rest := []) C hP hS hl (c_X6_isCritical l w 2 tr_net_2 tv900 tv901 th11 tv13 tq12) mz_X6_isCritical ml_X7_138 (by decide) rfl rfl rfl rfl ⟨Nat.le_of_ble_eq_true rfl, Nat.le_of_ble_eq_true rfl⟩ rfl rfl (Nat.le_of_ble_eq_true rfl) ⟨Nat.le_refl _, Nat.le_refl _⟩ dX7_critical_62 (fun H locs hP hS => ?_)
        refine lv_if_eq (tgt := 72) hx hb dX7_critical_65 (by decide) (fun tc14 => ?_) (fun tc14 => ?_)
        · replace hk := tr_ift hk tc14
          refine lv_iconst (v := 0) hx hb dX7_critical_72 (by decide) ?_
          exact tr_iret C hP hS hr hlocks (tr_okS (P := (fun o => o = (r0, h0))) hk) dX7_critical_73
        · replace hk := tr_iff hk tc14
          refine lv_iconst (v := 1) hx hb dX7_critical_68 (by decide) ?_
          refine lv_goto (tgt := 73) hx hb dX7_critical_69 (by decide) ?_
          exact tr_iret C hP hS hr hlocks (tr_okS (P := (fun o => o = (r0, h0))) hk) dX7_critical_73
      · replace hk := tr_ift hk tc9
        refine lv_bipush (v := (-3)) hx hb dX7_critical_38 (by decide) ?_
        exact tr_iret C hP hS hr hlocks (tr_okS (P := (fun o => o = (r0, h0))) hk) dX7_critical_40
    · replace hk := tr_ift hk tc6
      refine lv_iconst (v := (-1)) hx hb dX7_critical_22 (by decide) ?_
      exact tr_iret C hP hS hr hlocks (tr_okS (P := (fun o => o = (r0, h0))) hk) dX7_critical_23
abbrev r_X7_departs : Room := { frames := 4, cells := 0, slots := 0, locals := 94 }
set_option maxHeartbeats 4000000 in
set_option maxRecDepth 100000 in
theorem c_X7_departs (l : Launch) (w : tr_E) (tv900 : Int32) (tv901 : Int32) (h : tr_H) (r0 : Int32) (h0 : tr_H) (hk : f_X7_departs tv900 tv901 h = some (r0, h0)) : Met l yX7_departs (Cond.code yX7_departs cX7_departs 3 (some .int) :: tr_T) r_X7_departs (va_Pc [.ref (tr_ad w 0), .int tv900, .int tv901] (tr_Wo tr_X w h)) (tr_Qi tr_X w r0 h0) 0 0 (tr_R tr_X w) := by
  refine tr_start (by decide) (Nat.le_refl _) ?_
  intro p e s m args below meth c C hr hlocks hargs hP
  have hx := C.1
  have hb := C.2.1
  have hS : va_S (tr_R tr_X w) s.heap s.heap [] := va_S.rf
  have hl := lv_entry ([.ref (tr_ad w 0), .int tv900, .int tv901]) (n := 3) (Nat.le_of_ble_eq_true rfl)
  rw [lg_entry_eq]
  generalize (lg_sl ([.ref (tr_ad w 0), .int tv900, .int tv901]) ++ List.replicate (3 - (lg_sl ([.ref (tr_ad w 0), .int tv900, .int tv901])).length) Slot.unset).toArray = ls at hl ⊢
  have hl : lv_has ls 3 [(0, .ref (tr_ad w 0)), (1, .int tv900), (2, .int tv901)] := hl
  replace hk : tr_ok (f_X7_departs tv900 tv901 h) (fun o => o = (r0, h0)) := ⟨_, hk, rfl⟩
  unfold f_X7_departs at hk
  refine lv_aload_n hx hb dX7_departs_0 rfl (lv_at hl 0 rfl) ?_
  refine gf_X7_16 C hP dX7_departs_1 ?_
  refine lv_iload_n hx hb dX7_departs_4 rfl (lv_at hl 1 rfl) ?_
  obtain ⟨tv2, tq1, hk⟩ := tr_okb hk
  refine tr_cvi (As := [.int tv900]) (rest := []) C hP hS hl (c_X2_has l w 2 tr_net_2 tv900 h tv2 tq1) mz_X2_has ml_X7_112 (by decide) rfl rfl rfl rfl ⟨Nat.le_of_ble_eq_true rfl, Nat.le_of_ble_eq_true rfl⟩ rfl rfl (Nat.le_of_ble_eq_true rfl) ⟨Nat.le_refl _, Nat.le_refl _⟩ dX7_departs_5 (fun H locs hP hS => ?_)
  refine lv_if_ne (tgt := 13) hx hb dX7_departs_8 (by decide) (fun tc3 => ?_) (fun tc3 => ?_)
  · replace hk := tr_iff hk tc3
    refine lv_iload_n hx hb dX7_departs_13 rfl (lv_at hl 2 rfl) ?_
    refine lv_if_lt (tgt := 23) hx hb dX7_departs_14 (by decide) (fun tc4 => ?_) (fun tc4 => ?_)
    · replace hk := tr_ift hk tc4
      refine lv_bipush (v := (-2)) hx hb dX7_departs_23 (by decide) ?_
      exact tr_iret C hP hS hr hlocks (tr_okS (P := (fun o => o = (r0, h0))) hk) dX7_departs_25
    · replace hk := tr_iff hk tc4
      refine lv_iload_n hx hb dX7_departs_17 rfl (lv_at hl 2 rfl) ?_
      refine lv_bipush (v := 20) hx hb dX7_departs_18 (by decide) ?_
      refine lv_icmp_le (tgt := 26) hx hb dX7_departs_20 (by decide) (fun tc5 => ?_) (fun tc5 => ?_)
      · replace hk := tr_ift hk tc5
        refine lv_aload_n hx hb dX7_departs_26 rfl (lv_at hl 0 rfl) ?_
        refine gf_X7_55 C hP dX7_departs_27 ?_
        refine lv_aload_n hx hb dX7_departs_30 rfl (lv_at hl 0 rfl) ?_
        refine gf_X7_16 C hP dX7_departs_31 ?_
        refine lv_iload_n hx hb dX7_departs_34 rfl (lv_at hl 2 rfl) ?_
        obtain ⟨tv7, th8, tq6, hk⟩ := tr_okb2 hk
        refine tr_cvi (As := [.ref (tr_ad w 2), .int tv901]) (rest := []) C hP hS hl (c_X6_isKept l w 2 tr_net_2 tv901 h tv7 th8 tq6) mz_X6_isKept ml_X7_142 (by decide) rfl rfl rfl rfl ⟨Nat.le_of_ble_eq_true rfl, Nat.le_of_ble_eq_true rfl⟩ rfl rfl (Nat.le_of_ble_eq_true rfl) ⟨Nat.le_refl _, Nat.le_refl _⟩ dX7_departs_35 (fun H locs hP hS => ?_)
        refine lv_if_ne (tgt := 44) hx hb dX7_departs_38 (by decide) (fun tc9 => ?_) (fun tc9 => ?_)
        · replace hk := tr_iff hk tc9
          refine lv_aload_n hx hb dX7_departs_44 rfl (lv_at hl 0 rfl) ?_
          refine gf_X7_62 C hP dX7_departs_45 ?_
          refine lv_aload_n hx hb dX7_departs_48 rfl (lv_at hl 0 rfl) ?_
          refine gf_X7_16 C hP dX7_departs_49 ?_
          refine lv_iload_n hx hb dX7_departs_52 rfl (lv_at hl 2 rfl) ?_
          obtain ⟨th11, tq10, hk⟩ := tr_okb hk
          refine tr_cvv (As := [.ref (tr_ad w 2), .int tv901]) (rest := []) C hP hS hl (c_X0_settle l w 2 tr_net_2 tv901 th8 th11 tq10) mz_X0_settle ml_X7_146 (by decide) rfl rfl rfl rfl ⟨Nat.le_of_ble_eq_true rfl, Nat.le_of_ble_eq_true rfl⟩ rfl rfl (Nat.le_of_ble_eq_true rfl) ⟨Nat.le_refl _, Nat.le_refl _⟩ dX7_departs_53 (fun H locs hP hS => ?_)
          refine lv_aload_n hx hb dX7_departs_56 rfl (lv_at hl 0 rfl) ?_
          refine gf_X7_62 C hP dX7_departs_57 ?_
          refine lv_iload_n hx hb dX7_departs_60 rfl (lv_at hl 1 rfl) ?_
          obtain ⟨tv13, tq12, hk⟩ := tr_okb hk
          refine tr_cvi (As := [.int tv900]) (rest := []) C hP hS hl (c_X0_timeOf l w tv900 th11 tv13 tq12) mz_X0_timeOf ml_X7_150 (by decide) rfl rfl rfl rfl ⟨Nat.le_of_ble_eq_true rfl, Nat.le_of_ble_eq_true rfl⟩ rfl rfl (Nat.le_of_ble_eq_true rfl) ⟨Nat.le_refl _, Nat.le_refl _⟩ dX7_departs_61 (fun H locs hP hS => ?_)
          exact tr_iret C hP hS hr hlocks (tr_okS (P := (fun o => o = (r0, h0))) hk) dX7_departs_64
        · replace hk := tr_ift hk tc9
          refine lv_bipush (v := (-3)) hx hb dX7_departs_41 (by decide) ?_
          exact tr_iret C hP hS hr hlocks (tr_okS (P := (fun o => o = (r0, h0))) hk) dX7_departs_43
      · replace hk := tr_iff hk tc5
        refine lv_bipush (v := (-2)) hx hb dX7_departs_23 (by decide) ?_
        exact tr_iret C hP hS hr hlocks (tr_okS (P := (fun o => o = (r0, h0))) hk) dX7_departs_25
  · replace hk := tr_ift hk tc3
    refine lv_iconst (v := (-1)) hx hb dX7_departs_11 (by decide) ?_
    exact tr_iret C hP hS hr hlocks (tr_okS (P := (fun o => o = (r0, h0))) hk) dX7_departs_12
abbrev r_X7_spare : Room := { frames := 4, cells := 0, slots := 0, locals := 94 }
set_option maxHeartbeats 4000000 in
set_option maxRecDepth 100000 in
theorem c_X7_spare (l : Launch) (w : tr_E) (tv900 : Int32) (tv901 : Int32) (tv902 : Int32) (h : tr_H) (r0 : Int32) (h0 : tr_H) (hk : f_X7_spare tv900 tv901 tv902 h = some (r0, h0)) : Met l yX7_spare (Cond.code yX7_spare cX7_spare 4 (some .int) :: tr_T) r_X7_spare (va_Pc [.ref (tr_ad w 0), .int tv900, .int tv901, .int tv902] (tr_Wo tr_X w h)) (tr_Qi tr_X w r0 h0) 0 0 (tr_R tr_X w) := by
  refine tr_start (by decide) (Nat.le_refl _) ?_
  intro p e s m args below meth c C hr hlocks hargs hP
  have hx := C.1
  have hb := C.2.1
  have hS : va_S (tr_R tr_X w) s.heap s.heap [] := va_S.rf
  have hl := lv_entry ([.ref (tr_ad w 0), .int tv900, .int tv901, .int tv902]) (n := 4) (Nat.le_of_ble_eq_true rfl)
  rw [lg_entry_eq]
  generalize (lg_sl ([.ref (tr_ad w 0), .int tv900, .int tv901, .int tv902]) ++ List.replicate (4 - (lg_sl ([.ref (tr_ad w 0), .int tv900, .int tv901, .int tv902])).length) Slot.unset).toArray = ls at hl ⊢
  have hl : lv_has ls 4 [(0, .ref (tr_ad w 0)), (1, .int tv900), (2, .int tv901), (3, .int tv902)] := hl
  replace hk : tr_ok (f_X7_spare tv900 tv901 tv902 h) (fun o => o = (r0, h0)) := ⟨_, hk, rfl⟩
  unfold f_X7_spare at hk
  refine lv_aload_n hx hb dX7_spare_0 rfl (lv_at hl 0 rfl) ?_
  refine gf_X7_16 C hP dX7_spare_1 ?_
  refine lv_iload_n hx hb dX7_spare_4 rfl (lv_at hl 1 rfl) ?_
  obtain ⟨tv2, tq1, hk⟩ := tr_okb hk
  refine tr_cvi (As := [.int tv900]) (rest := []) C hP hS hl (c_X2_has l w 2 tr_net_2 tv900 h tv2 tq1) mz_X2_has ml_X7_112 (by decide) rfl rfl rfl rfl ⟨Nat.le_of_ble_eq_true rfl, Nat.le_of_ble_eq_true rfl⟩ rfl rfl (Nat.le_of_ble_eq_true rfl) ⟨Nat.le_refl _, Nat.le_refl _⟩ dX7_spare_5 (fun H locs hP hS => ?_)
  refine lv_if_eq (tgt := 22) hx hb dX7_spare_8 (by decide) (fun tc3 => ?_) (fun tc3 => ?_)
  · replace hk := tr_ift hk tc3
    refine lv_iconst (v := (-1)) hx hb dX7_spare_22 (by decide) ?_
    exact tr_iret C hP hS hr hlocks (tr_okS (P := (fun o => o = (r0, h0))) hk) dX7_spare_23
  · replace hk := tr_iff hk tc3
    refine lv_aload_n hx hb dX7_spare_11 rfl (lv_at hl 0 rfl) ?_
    refine gf_X7_16 C hP dX7_spare_12 ?_
    refine lv_iload_n hx hb dX7_spare_15 rfl (lv_at hl 2 rfl) ?_
    obtain ⟨tv5, tq4, hk⟩ := tr_okb hk
    refine tr_cvi (As := [.int tv901]) (rest := []) C hP hS hl (c_X2_has l w 2 tr_net_2 tv901 h tv5 tq4) mz_X2_has ml_X7_112 (by decide) rfl rfl rfl rfl ⟨Nat.le_of_ble_eq_true rfl, Nat.le_of_ble_eq_true rfl⟩ rfl rfl (Nat.le_of_ble_eq_true rfl) ⟨Nat.le_refl _, Nat.le_refl _⟩ dX7_spare_16 (fun H locs hP hS => ?_)
    refine lv_if_ne (tgt := 24) hx hb dX7_spare_19 (by decide) (fun tc6 => ?_) (fun tc6 => ?_)
    · replace hk := tr_iff hk tc6
      refine lv_iload_n hx hb dX7_spare_24 rfl (lv_at hl 3 rfl) ?_
      refine lv_if_lt (tgt := 34) hx hb dX7_spare_25 (by decide) (fun tc7 => ?_) (fun tc7 => ?_)
      · replace hk := tr_ift hk tc7
        refine lv_bipush (v := (-2)) hx hb dX7_spare_34 (by decide) ?_
        exact tr_iret C hP hS hr hlocks (tr_okS (P := (fun o => o = (r0, h0))) hk) dX7_spare_36
      · replace hk := tr_iff hk tc7
        refine lv_iload_n hx hb dX7_spare_28 rfl (lv_at hl 3 rfl) ?_
        refine lv_bipush (v := 20) hx hb dX7_spare_29 (by decide) ?_
        refine lv_icmp_le (tgt := 37) hx hb dX7_spare_31 (by decide) (fun tc8 => ?_) (fun tc8 => ?_)
        · replace hk := tr_ift hk tc8
          refine lv_aload_n hx hb dX7_spare_37 rfl (lv_at hl 0 rfl) ?_
          refine gf_X7_16 C hP dX7_spare_38 ?_
          refine lv_iload_n hx hb dX7_spare_41 rfl (lv_at hl 1 rfl) ?_
          refine lv_iload_n hx hb dX7_spare_42 rfl (lv_at hl 2 rfl) ?_
          obtain ⟨tv10, tq9, hk⟩ := tr_okb hk
          refine tr_cvi (As := [.int tv900, .int tv901]) (rest := []) C hP hS hl (c_X2_of l w 2 tr_net_2 tv900 tv901 h tv10 tq9) mz_X2_of ml_X7_116 (by decide) rfl rfl rfl rfl ⟨Nat.le_of_ble_eq_true rfl, Nat.le_of_ble_eq_true rfl⟩ rfl rfl (Nat.le_of_ble_eq_true rfl) ⟨Nat.le_refl _, Nat.le_refl _⟩ dX7_spare_43 (fun H locs hP hS => ?_)
          refine lv_bipush (v := (-9)) hx hb dX7_spare_46 (by decide) ?_
          refine lv_icmp_eq (tgt := 66) hx hb dX7_spare_48 (by decide) (fun tc11 => ?_) (fun tc11 => ?_)
          · replace hk := tr_ift hk tc11
            refine lv_bipush (v := (-3)) hx hb dX7_spare_66 (by decide) ?_
            exact tr_iret C hP hS hr hlocks (tr_okS (P := (fun o => o = (r0, h0))) hk) dX7_spare_68
          · replace hk := tr_iff hk tc11
            refine lv_aload_n hx hb dX7_spare_51 rfl (lv_at hl 0 rfl) ?_
            refine gf_X7_55 C hP dX7_spare_52 ?_
            refine lv_aload_n hx hb dX7_spare_55 rfl (lv_at hl 0 rfl) ?_
            refine gf_X7_16 C hP dX7_spare_56 ?_
            refine lv_iload_n hx hb dX7_spare_59 rfl (lv_at hl 3 rfl) ?_
            obtain ⟨tv13, th14, tq12, hk⟩ := tr_okb2 hk
            refine tr_cvi (As := [.ref (tr_ad w 2), .int tv902]) (rest := []) C hP hS hl (c_X6_isKept l w 2 tr_net_2 tv902 h tv13 th14 tq12) mz_X6_isKept ml_X7_142 (by decide) rfl rfl rfl rfl ⟨Nat.le_of_ble_eq_true rfl, Nat.le_of_ble_eq_true rfl⟩ rfl rfl (Nat.le_of_ble_eq_true rfl) ⟨Nat.le_refl _, Nat.le_refl _⟩ dX7_spare_60 (fun H locs hP hS => ?_)
            refine lv_if_ne (tgt := 69) hx hb dX7_spare_63 (by decide) (fun tc15 => ?_) (fun tc15 => ?_)
            · replace hk := tr_iff hk tc15
              refine lv_aload_n hx hb dX7_spare_69 rfl (lv_at hl 0 rfl) ?_
              refine gf_X7_62 C hP dX7_spare_70 ?_
              refine lv_aload_n hx hb dX7_spare_73 rfl (lv_at hl 0 rfl) ?_
              refine gf_X7_16 C hP dX7_spare_74 ?_
              refine lv_iload_n hx hb dX7_spare_77 rfl (lv_at hl 3 rfl) ?_
              obtain ⟨th17, tq16, hk⟩ := tr_okb hk
              refine tr_cvv (As := [.ref (tr_ad w 2), .int tv902]) (rest := []) C hP hS hl (c_X0_settle l w 2 tr_net_2 tv902 th14 th17 tq16) mz_X0_settle ml_X7_146 (by decide) rfl rfl rfl rfl ⟨Nat.le_of_ble_eq_true rfl, Nat.le_of_ble_eq_true rfl⟩ rfl rfl (Nat.le_of_ble_eq_true rfl) ⟨Nat.le_refl _, Nat.le_refl _⟩ dX7_spare_78 (fun H locs hP hS => ?_)
              refine lv_aload_n hx hb dX7_spare_81 rfl (lv_at hl 0 rfl) ?_
              refine gf_X7_62 C hP dX7_spare_82 ?_
              refine lv_aload_n hx hb dX7_spare_85 rfl (lv_at hl 0 rfl) ?_
              refine gf_X7_16 C hP dX7_spare_86 ?_
              refine lv_iload_n hx hb dX7_spare_89 rfl (lv_at hl 1 rfl) ?_
              refine lv_iload_n hx hb dX7_spare_90 rfl (lv_at hl 2 rfl) ?_
              obtain ⟨tv19, tq18, hk⟩ := tr_okb hk
              refine tr_cvi (As := [.ref (tr_ad w 2), .int tv900, .int tv901]) (rest := []) C hP hS hl (c_X0_spareOf l w 2 tr_net_2 tv900 tv901 th17 tv19 tq18) mz_X0_spareOf ml_X7_153 (by decide) rfl rfl rfl rfl ⟨Nat.le_of_ble_eq_true rfl, Nat.le_of_ble_eq_true rfl⟩ rfl rfl (Nat.le_of_ble_eq_true rfl) ⟨Nat.le_refl _, Nat.le_refl _⟩ dX7_spare_91 (fun H locs hP hS => ?_)
              exact tr_iret C hP hS hr hlocks (tr_okS (P := (fun o => o = (r0, h0))) hk) dX7_spare_94
            · replace hk := tr_ift hk tc15
              refine lv_bipush (v := (-3)) hx hb dX7_spare_66 (by decide) ?_
              exact tr_iret C hP hS hr hlocks (tr_okS (P := (fun o => o = (r0, h0))) hk) dX7_spare_68
        · replace hk := tr_iff hk tc8
          refine lv_bipush (v := (-2)) hx hb dX7_spare_34 (by decide) ?_
          exact tr_iret C hP hS hr hlocks (tr_okS (P := (fun o => o = (r0, h0))) hk) dX7_spare_36
    · replace hk := tr_ift hk tc6
      refine lv_iconst (v := (-1)) hx hb dX7_spare_22 (by decide) ?_
      exact tr_iret C hP hS hr hlocks (tr_okS (P := (fun o => o = (r0, h0))) hk) dX7_spare_23
abbrev r_X7_late : Room := { frames := 4, cells := 0, slots := 0, locals := 96 }
set_option maxHeartbeats 4000000 in
set_option maxRecDepth 100000 in
theorem c_X7_late (l : Launch) (w : tr_E) (tv900 : Int32) (tv901 : Int32) (tv902 : Int32) (tv903 : Int32) (tv904 : Int32) (h : tr_H) (r0 : Int32) (h0 : tr_H) (hk : f_X7_late tv900 tv901 tv902 tv903 tv904 h = some (r0, h0)) : Met l yX7_late (Cond.code yX7_late cX7_late 6 (some .int) :: tr_T) r_X7_late (va_Pc [.ref (tr_ad w 0), .int tv900, .int tv901, .int tv902, .int tv903, .int tv904] (tr_Wo tr_X w h)) (tr_Qi tr_X w r0 h0) 0 0 (tr_R tr_X w) := by
  refine tr_start (by decide) (Nat.le_refl _) ?_
  intro p e s m args below meth c C hr hlocks hargs hP
  have hx := C.1
  have hb := C.2.1
  have hS : va_S (tr_R tr_X w) s.heap s.heap [] := va_S.rf
  have hl := lv_entry ([.ref (tr_ad w 0), .int tv900, .int tv901, .int tv902, .int tv903, .int tv904]) (n := 6) (Nat.le_of_ble_eq_true rfl)
  rw [lg_entry_eq]
  generalize (lg_sl ([.ref (tr_ad w 0), .int tv900, .int tv901, .int tv902, .int tv903, .int tv904]) ++ List.replicate (6 - (lg_sl ([.ref (tr_ad w 0), .int tv900, .int tv901, .int tv902, .int tv903, .int tv904])).length) Slot.unset).toArray = ls at hl ⊢
  have hl : lv_has ls 6 [(0, .ref (tr_ad w 0)), (1, .int tv900), (2, .int tv901), (3, .int tv902), (4, .int tv903), (5, .int tv904)] := hl
  replace hk : tr_ok (f_X7_late tv900 tv901 tv902 tv903 tv904 h) (fun o => o = (r0, h0)) := ⟨_, hk, rfl⟩
  unfold f_X7_late at hk
  refine lv_aload_n hx hb dX7_late_0 rfl (lv_at hl 0 rfl) ?_
  refine gf_X7_16 C hP dX7_late_1 ?_
  refine lv_iload_n hx hb dX7_late_4 rfl (lv_at hl 1 rfl) ?_
  obtain ⟨tv2, tq1, hk⟩ := tr_okb hk
  refine tr_cvi (As := [.int tv900]) (rest := []) C hP hS hl (c_X2_has l w 2 tr_net_2 tv900 h tv2 tq1) mz_X2_has ml_X7_112 (by decide) rfl rfl rfl rfl ⟨Nat.le_of_ble_eq_true rfl, Nat.le_of_ble_eq_true rfl⟩ rfl rfl (Nat.le_of_ble_eq_true rfl) ⟨Nat.le_refl _, Nat.le_refl _⟩ dX7_late_5 (fun H locs hP hS => ?_)
  refine lv_if_eq (tgt := 23) hx hb dX7_late_8 (by decide) (fun tc3 => ?_) (fun tc3 => ?_)
  · replace hk := tr_ift hk tc3
    refine lv_iconst (v := (-1)) hx hb dX7_late_23 (by decide) ?_
    exact tr_iret C hP hS hr hlocks (tr_okS (P := (fun o => o = (r0, h0))) hk) dX7_late_24
  · replace hk := tr_iff hk tc3
    refine lv_aload_n hx hb dX7_late_11 rfl (lv_at hl 0 rfl) ?_
    refine gf_X7_16 C hP dX7_late_12 ?_
    refine lv_iload hx hb dX7_late_15 (lv_at hl 4 rfl) ?_
    obtain ⟨tv5, tq4, hk⟩ := tr_okb hk
    refine tr_cvi (As := [.int tv903]) (rest := []) C hP hS hl (c_X2_has l w 2 tr_net_2 tv903 h tv5 tq4) mz_X2_has ml_X7_112 (by decide) rfl rfl rfl rfl ⟨Nat.le_of_ble_eq_true rfl, Nat.le_of_ble_eq_true rfl⟩ rfl rfl (Nat.le_of_ble_eq_true rfl) ⟨Nat.le_refl _, Nat.le_refl _⟩ dX7_late_17 (fun H locs hP hS => ?_)
    refine lv_if_ne (tgt := 25) hx hb dX7_late_20 (by decide) (fun tc6 => ?_) (fun tc6 => ?_)
    · replace hk := tr_iff hk tc6
      refine lv_iload_n hx hb dX7_late_25 rfl (lv_at hl 2 rfl) ?_
      refine lv_iconst (v := 1) hx hb dX7_late_26 (by decide) ?_
      refine lv_icmp_lt (tgt := 46) hx hb dX7_late_27 (by decide) (fun tc7 => ?_) (fun tc7 => ?_)
      · replace hk := tr_ift hk tc7
        refine lv_bipush (v := (-2)) hx hb dX7_late_46 (by decide) ?_
        exact tr_iret C hP hS hr hlocks (tr_okS (P := (fun o => o = (r0, h0))) hk) dX7_late_48
      · replace hk := tr_iff hk tc7
        refine lv_iload_n hx hb dX7_late_30 rfl (lv_at hl 2 rfl) ?_
        refine lv_bipush (v := 30) hx hb dX7_late_31 (by decide) ?_
        refine lv_icmp_gt (tgt := 46) hx hb dX7_late_33 (by decide) (fun tc8 => ?_) (fun tc8 => ?_)
        · replace hk := tr_ift hk tc8
          refine lv_bipush (v := (-2)) hx hb dX7_late_46 (by decide) ?_
          exact tr_iret C hP hS hr hlocks (tr_okS (P := (fun o => o = (r0, h0))) hk) dX7_late_48
        · replace hk := tr_iff hk tc8
          refine lv_iload_n hx hb dX7_late_36 rfl (lv_at hl 3 rfl) ?_
          refine lv_if_lt (tgt := 46) hx hb dX7_late_37 (by decide) (fun tc9 => ?_) (fun tc9 => ?_)
          · replace hk := tr_ift hk tc9
            refine lv_bipush (v := (-2)) hx hb dX7_late_46 (by decide) ?_
            exact tr_iret C hP hS hr hlocks (tr_okS (P := (fun o => o = (r0, h0))) hk) dX7_late_48
          · replace hk := tr_iff hk tc9
            refine lv_iload_n hx hb dX7_late_40 rfl (lv_at hl 3 rfl) ?_
            refine lv_bipush (v := 20) hx hb dX7_late_41 (by decide) ?_
            refine lv_icmp_le (tgt := 49) hx hb dX7_late_43 (by decide) (fun tc10 => ?_) (fun tc10 => ?_)
            · replace hk := tr_ift hk tc10
              refine lv_iload hx hb dX7_late_49 (lv_at hl 5 rfl) ?_
              refine lv_if_lt (tgt := 61) hx hb dX7_late_51 (by decide) (fun tc11 => ?_) (fun tc11 => ?_)
              · replace hk := tr_ift hk tc11
                refine lv_bipush (v := (-2)) hx hb dX7_late_61 (by decide) ?_
                exact tr_iret C hP hS hr hlocks (tr_okS (P := (fun o => o = (r0, h0))) hk) dX7_late_63
              · replace hk := tr_iff hk tc11
                refine lv_iload hx hb dX7_late_54 (lv_at hl 5 rfl) ?_
                refine lv_bipush (v := 40) hx hb dX7_late_56 (by decide) ?_
                refine lv_icmp_le (tgt := 64) hx hb dX7_late_58 (by decide) (fun tc12 => ?_) (fun tc12 => ?_)
                · replace hk := tr_ift hk tc12
                  refine lv_aload_n hx hb dX7_late_64 rfl (lv_at hl 0 rfl) ?_
                  refine gf_X7_55 C hP dX7_late_65 ?_
                  refine lv_aload_n hx hb dX7_late_68 rfl (lv_at hl 0 rfl) ?_
                  refine gf_X7_16 C hP dX7_late_69 ?_
                  refine lv_iload_n hx hb dX7_late_72 rfl (lv_at hl 3 rfl) ?_
                  obtain ⟨tv14, th15, tq13, hk⟩ := tr_okb2 hk
                  refine tr_cvi (As := [.ref (tr_ad w 2), .int tv902]) (rest := []) C hP hS hl (c_X6_isKept l w 2 tr_net_2 tv902 h tv14 th15 tq13) mz_X6_isKept ml_X7_142 (by decide) rfl rfl rfl rfl ⟨Nat.le_of_ble_eq_true rfl, Nat.le_of_ble_eq_true rfl⟩ rfl rfl (Nat.le_of_ble_eq_true rfl) ⟨Nat.le_refl _, Nat.le_refl _⟩ dX7_late_73 (fun H locs hP hS => ?_)
                  refine lv_if_ne (tgt := 82) hx hb dX7_late_76 (by decide) (fun tc16 => ?_) (fun tc16 => ?_)
                  · replace hk := tr_iff hk tc16
                    refine lv_aload_n hx hb dX7_late_82 rfl (lv_at hl 0 rfl) ?_
                    refine gf_X7_62 C hP dX7_late_83 ?_
                    refine lv_aload_n hx hb dX7_late_86 rfl (lv_at hl 0 rfl) ?_
                    refine gf_X7_16 C hP dX7_late_87 ?_
                    refine lv_iload_n hx hb dX7_late_90 rfl (lv_at hl 3 rfl) ?_
                    obtain ⟨th18, tq17, hk⟩ := tr_okb hk
                    refine tr_cvv (As := [.ref (tr_ad w 2), .int tv902]) (rest := []) C hP hS hl (c_X0_settle l w 2 tr_net_2 tv902 th15 th18 tq17) mz_X0_settle ml_X7_146 (by decide) rfl rfl rfl rfl ⟨Nat.le_of_ble_eq_true rfl, Nat.le_of_ble_eq_true rfl⟩ rfl rfl (Nat.le_of_ble_eq_true rfl) ⟨Nat.le_refl _, Nat.le_refl _⟩ dX7_late_91 (fun H locs hP hS => ?_)
                    refine lv_aload_n hx hb dX7_late_94 rfl (lv_at hl 0 rfl) ?_
                    refine gf_X7_62 C hP dX7_late_95 ?_
                    refine lv_aload_n hx hb dX7_late_98 rfl (lv_at hl 0 rfl) ?_
                    refine gf_X7_16 C hP dX7_late_99 ?_
                    refine lv_iload_n hx hb dX7_late_102 rfl (lv_at hl 1 rfl) ?_
                    refine lv_iload hx hb dX7_late_103 (lv_at hl 5 rfl) ?_
                    obtain ⟨th20, tq19, hk⟩ := tr_okb hk
                    refine tr_cvv (As := [.ref (tr_ad w 2), .int tv900, .int tv904]) (rest := []) C hP hS hl (c_X0_spread l w 2 tr_net_2 tv900 tv904 th18 th20 tq19) mz_X0_spread ml_X7_157 (by decide) rfl rfl rfl rfl ⟨Nat.le_of_ble_eq_true rfl, Nat.le_of_ble_eq_true rfl⟩ rfl rfl (Nat.le_of_ble_eq_true rfl) ⟨Nat.le_refl _, Nat.le_refl _⟩ dX7_late_105 (fun H locs hP hS => ?_)
                    refine lv_aload_n hx hb dX7_late_108 rfl (lv_at hl 0 rfl) ?_
                    refine gf_X7_62 C hP dX7_late_109 ?_
                    refine lv_iload_n hx hb dX7_late_112 rfl (lv_at hl 2 rfl) ?_
                    refine lv_iload hx hb dX7_late_113 (lv_at hl 4 rfl) ?_
                    refine lv_iload hx hb dX7_late_115 (lv_at hl 5 rfl) ?_
                    obtain ⟨tv22, tq21, hk⟩ := tr_okb hk
                    refine tr_cvi (As := [.int tv901, .int tv903, .int tv904]) (rest := []) C hP hS hl (c_X0_lateness l w tv901 tv903 tv904 th20 tv22 tq21) mz_X0_lateness ml_X7_161 (by decide) rfl rfl rfl rfl ⟨Nat.le_of_ble_eq_true rfl, Nat.le_of_ble_eq_true rfl⟩ rfl rfl (Nat.le_of_ble_eq_true rfl) ⟨Nat.le_refl _, Nat.le_refl _⟩ dX7_late_117 (fun H locs hP hS => ?_)
                    exact tr_iret C hP hS hr hlocks (tr_okS (P := (fun o => o = (r0, h0))) hk) dX7_late_120
                  · replace hk := tr_ift hk tc16
                    refine lv_bipush (v := (-3)) hx hb dX7_late_79 (by decide) ?_
                    exact tr_iret C hP hS hr hlocks (tr_okS (P := (fun o => o = (r0, h0))) hk) dX7_late_81
                · replace hk := tr_iff hk tc12
                  refine lv_bipush (v := (-2)) hx hb dX7_late_61 (by decide) ?_
                  exact tr_iret C hP hS hr hlocks (tr_okS (P := (fun o => o = (r0, h0))) hk) dX7_late_63
            · replace hk := tr_iff hk tc10
              refine lv_bipush (v := (-2)) hx hb dX7_late_46 (by decide) ?_
              exact tr_iret C hP hS hr hlocks (tr_okS (P := (fun o => o = (r0, h0))) hk) dX7_late_48
    · replace hk := tr_ift hk tc6
      refine lv_iconst (v := (-1)) hx hb dX7_late_23 (by decide) ?_
      exact tr_iret C hP hS hr hlocks (tr_okS (P := (fun o => o = (r0, h0))) hk) dX7_late_24
abbrev r_X7_lastsUntil : Room := { frames := 4, cells := 0, slots := 0, locals := 96 }
set_option maxHeartbeats 4000000 in
set_option maxRecDepth 100000 in
theorem c_X7_lastsUntil (l : Launch) (w : tr_E) (tn1 : Nat) (htn1 : tr_net tn1) (tv901 : Int32) (tv902 : Int32) (tv903 : Int32) (h : tr_H) (r0 : Int32) (h0 : tr_H) (hk : f_X7_lastsUntil tn1 tv901 tv902 tv903 h = some (r0, h0)) : Met l yX7_lastsUntil (Cond.code yX7_lastsUntil cX7_lastsUntil 5 (some .int) :: tr_T) r_X7_lastsUntil (va_Pc [.ref (tr_ad w 0), .ref (tr_ad w tn1), .int tv901, .int tv902, .int tv903] (tr_Wo tr_X w h)) (tr_Qi tr_X w r0 h0) 0 0 (tr_R tr_X w) := by
  refine tr_start (by decide) (Nat.le_refl _) ?_
  intro p e s m args below meth c C hr hlocks hargs hP
  have hx := C.1
  have hb := C.2.1
  have hS : va_S (tr_R tr_X w) s.heap s.heap [] := va_S.rf
  have hl := lv_entry ([.ref (tr_ad w 0), .ref (tr_ad w tn1), .int tv901, .int tv902, .int tv903]) (n := 5) (Nat.le_of_ble_eq_true rfl)
  rw [lg_entry_eq]
  generalize (lg_sl ([.ref (tr_ad w 0), .ref (tr_ad w tn1), .int tv901, .int tv902, .int tv903]) ++ List.replicate (5 - (lg_sl ([.ref (tr_ad w 0), .ref (tr_ad w tn1), .int tv901, .int tv902, .int tv903])).length) Slot.unset).toArray = ls at hl ⊢
  have hl : lv_has ls 5 [(0, .ref (tr_ad w 0)), (1, .ref (tr_ad w tn1)), (2, .int tv901), (3, .int tv902), (4, .int tv903)] := hl
  replace hk : tr_ok (f_X7_lastsUntil tn1 tv901 tv902 tv903 h) (fun o => o = (r0, h0)) := ⟨_, hk, rfl⟩
  unfold f_X7_lastsUntil at hk
  refine lv_aload_n hx hb dX7_lastsUntil_0 rfl (lv_at hl 0 rfl) ?_
  refine gf_X7_62 C hP dX7_lastsUntil_1 ?_
  refine lv_aload_n hx hb dX7_lastsUntil_4 rfl (lv_at hl 1 rfl) ?_
  refine lv_iload hx hb dX7_lastsUntil_5 (lv_at hl 4 rfl) ?_
  obtain ⟨th2, tq1, hk⟩ := tr_okb hk
  refine tr_cvv (As := [.ref (tr_ad w tn1), .int tv903]) (rest := []) C hP hS hl (c_X0_settle l w tn1 htn1 tv903 h th2 tq1) mz_X0_settle ml_X7_146 (by decide) rfl rfl rfl rfl ⟨Nat.le_of_ble_eq_true rfl, Nat.le_of_ble_eq_true rfl⟩ rfl rfl (Nat.le_of_ble_eq_true rfl) ⟨Nat.le_refl _, Nat.le_refl _⟩ dX7_lastsUntil_7 (fun H locs hP hS => ?_)
  refine lv_aload_n hx hb dX7_lastsUntil_10 rfl (lv_at hl 0 rfl) ?_
  refine gf_X7_62 C hP dX7_lastsUntil_11 ?_
  refine lv_aload_n hx hb dX7_lastsUntil_14 rfl (lv_at hl 1 rfl) ?_
  refine lv_iload_n hx hb dX7_lastsUntil_15 rfl (lv_at hl 2 rfl) ?_
  refine lv_bipush (v := 40) hx hb dX7_lastsUntil_16 (by decide) ?_
  obtain ⟨th4, tq3, hk⟩ := tr_okb hk
  refine tr_cvv (As := [.ref (tr_ad w tn1), .int tv901, .int 40]) (rest := []) C hP hS hl (c_X0_spread l w tn1 htn1 tv901 40 th2 th4 tq3) mz_X0_spread ml_X7_157 (by decide) rfl rfl rfl rfl ⟨Nat.le_of_ble_eq_true rfl, Nat.le_of_ble_eq_true rfl⟩ rfl rfl (Nat.le_of_ble_eq_true rfl) ⟨Nat.le_refl _, Nat.le_refl _⟩ dX7_lastsUntil_18 (fun H locs hP hS => ?_)
  refine lv_aload_n hx hb dX7_lastsUntil_21 rfl (lv_at hl 0 rfl) ?_
  refine gf_X7_62 C hP dX7_lastsUntil_22 ?_
  refine lv_iload_n hx hb dX7_lastsUntil_25 rfl (lv_at hl 3 rfl) ?_
  refine lv_aload_n hx hb dX7_lastsUntil_26 rfl (lv_at hl 1 rfl) ?_
  refine gf_X7_92 htn1 C hP dX7_lastsUntil_27 ?_
  obtain ⟨tv6, tq5, hk⟩ := tr_okb hk
  refine tr_cvi (As := [.int tv902, .int (th4.1 tn1 1)]) (rest := []) C hP hS hl (c_X0_firstQuietRound l w tv902 (th4.1 tn1 1) th4 tv6 tq5) mz_X0_firstQuietRound ml_X7_217 (by decide) rfl rfl rfl rfl ⟨Nat.le_of_ble_eq_true rfl, Nat.le_of_ble_eq_true rfl⟩ rfl rfl (Nat.le_of_ble_eq_true rfl) ⟨Nat.le_refl _, Nat.le_refl _⟩ dX7_lastsUntil_30 (fun H locs hP hS => ?_)
  exact tr_iret C hP hS hr hlocks (tr_okS (P := (fun o => o = (r0, h0))) hk) dX7_lastsUntil_33
abbrev r_X7_dies : Room := { frames := 5, cells := 0, slots := 0, locals := 120 }
set_option maxHeartbeats 4000000 in
set_option maxRecDepth 100000 in
theorem c_X7_dies (l : Launch) (w : tr_E) (tv900 : Int32) (tv901 : Int32) (tv902 : Int32) (h : tr_H) (r0 : Int32) (h0 : tr_H) (hk : f_X7_dies tv900 tv901 tv902 h = some (r0, h0)) : Met l yX7_dies (Cond.code yX7_dies cX7_dies 4 (some .int) :: tr_T) r_X7_dies (va_Pc [.ref (tr_ad w 0), .int tv900, .int tv901, .int tv902] (tr_Wo tr_X w h)) (tr_Qi tr_X w r0 h0) 0 0 (tr_R tr_X w) := by
  refine tr_start (by decide) (Nat.le_refl _) ?_
  intro p e s m args below meth c C hr hlocks hargs hP
  have hx := C.1
  have hb := C.2.1
  have hS : va_S (tr_R tr_X w) s.heap s.heap [] := va_S.rf
  have hl := lv_entry ([.ref (tr_ad w 0), .int tv900, .int tv901, .int tv902]) (n := 4) (Nat.le_of_ble_eq_true rfl)
  rw [lg_entry_eq]
  generalize (lg_sl ([.ref (tr_ad w 0), .int tv900, .int tv901, .int tv902]) ++ List.replicate (4 - (lg_sl ([.ref (tr_ad w 0), .int tv900, .int tv901, .int tv902])).length) Slot.unset).toArray = ls at hl ⊢
  have hl : lv_has ls 4 [(0, .ref (tr_ad w 0)), (1, .int tv900), (2, .int tv901), (3, .int tv902)] := hl
  replace hk : tr_ok (f_X7_dies tv900 tv901 tv902 h) (fun o => o = (r0, h0)) := ⟨_, hk, rfl⟩
  unfold f_X7_dies at hk
  refine lv_aload_n hx hb dX7_dies_0 rfl (lv_at hl 0 rfl) ?_
  refine gf_X7_16 C hP dX7_dies_1 ?_
  refine lv_iload_n hx hb dX7_dies_4 rfl (lv_at hl 1 rfl) ?_
  obtain ⟨tv2, tq1, hk⟩ := tr_okb hk
  refine tr_cvi (As := [.int tv900]) (rest := []) C hP hS hl (c_X2_has l w 2 tr_net_2 tv900 h tv2 tq1) mz_X2_has ml_X7_112 (by decide) rfl rfl rfl rfl ⟨Nat.le_of_ble_eq_true rfl, Nat.le_of_ble_eq_true rfl⟩ rfl rfl (Nat.le_of_ble_eq_true rfl) ⟨Nat.le_refl _, Nat.le_refl _⟩ dX7_dies_5 (fun H locs hP hS => ?_)
  refine lv_if_ne (tgt := 13) hx hb dX7_dies_8 (by decide) (fun tc3 => ?_) (fun tc3 => ?_)
  · replace hk := tr_iff hk tc3
    refine lv_iload_n hx hb dX7_dies_13 rfl (lv_at hl 2 rfl) ?_
    refine lv_iconst (v := 1) hx hb dX7_dies_14 (by decide) ?_
    refine lv_icmp_lt (tgt := 34) hx hb dX7_dies_15 (by decide) (fun tc4 => ?_) (fun tc4 => ?_)
    · replace hk := tr_ift hk tc4
      refine lv_bipush (v := (-2)) hx hb dX7_dies_34 (by decide) ?_
      exact tr_iret C hP hS hr hlocks (tr_okS (P := (fun o => o = (r0, h0))) hk) dX7_dies_36
    · replace hk := tr_iff hk tc4
      refine lv_iload_n hx hb dX7_dies_18 rfl (lv_at hl 2 rfl) ?_
      refine lv_bipush (v := 30) hx hb dX7_dies_19 (by decide) ?_
      refine lv_icmp_gt (tgt := 34) hx hb dX7_dies_21 (by decide) (fun tc5 => ?_) (fun tc5 => ?_)
      · replace hk := tr_ift hk tc5
        refine lv_bipush (v := (-2)) hx hb dX7_dies_34 (by decide) ?_
        exact tr_iret C hP hS hr hlocks (tr_okS (P := (fun o => o = (r0, h0))) hk) dX7_dies_36
      · replace hk := tr_iff hk tc5
        refine lv_iload_n hx hb dX7_dies_24 rfl (lv_at hl 3 rfl) ?_
        refine lv_if_lt (tgt := 34) hx hb dX7_dies_25 (by decide) (fun tc6 => ?_) (fun tc6 => ?_)
        · replace hk := tr_ift hk tc6
          refine lv_bipush (v := (-2)) hx hb dX7_dies_34 (by decide) ?_
          exact tr_iret C hP hS hr hlocks (tr_okS (P := (fun o => o = (r0, h0))) hk) dX7_dies_36
        · replace hk := tr_iff hk tc6
          refine lv_iload_n hx hb dX7_dies_28 rfl (lv_at hl 3 rfl) ?_
          refine lv_bipush (v := 20) hx hb dX7_dies_29 (by decide) ?_
          refine lv_icmp_le (tgt := 37) hx hb dX7_dies_31 (by decide) (fun tc7 => ?_) (fun tc7 => ?_)
          · replace hk := tr_ift hk tc7
            refine lv_aload_n hx hb dX7_dies_37 rfl (lv_at hl 0 rfl) ?_
            refine gf_X7_55 C hP dX7_dies_38 ?_
            refine lv_aload_n hx hb dX7_dies_41 rfl (lv_at hl 0 rfl) ?_
            refine gf_X7_16 C hP dX7_dies_42 ?_
            refine lv_iload_n hx hb dX7_dies_45 rfl (lv_at hl 3 rfl) ?_
            obtain ⟨tv9, th10, tq8, hk⟩ := tr_okb2 hk
            refine tr_cvi (As := [.ref (tr_ad w 2), .int tv902]) (rest := []) C hP hS hl (c_X6_isKept l w 2 tr_net_2 tv902 h tv9 th10 tq8) mz_X6_isKept ml_X7_142 (by decide) rfl rfl rfl rfl ⟨Nat.le_of_ble_eq_true rfl, Nat.le_of_ble_eq_true rfl⟩ rfl rfl (Nat.le_of_ble_eq_true rfl) ⟨Nat.le_refl _, Nat.le_refl _⟩ dX7_dies_46 (fun H locs hP hS => ?_)
            refine lv_if_ne (tgt := 55) hx hb dX7_dies_49 (by decide) (fun tc11 => ?_) (fun tc11 => ?_)
            · replace hk := tr_iff hk tc11
              refine lv_aload_n hx hb dX7_dies_55 rfl (lv_at hl 0 rfl) ?_
              refine lv_aload_n hx hb dX7_dies_56 rfl (lv_at hl 0 rfl) ?_
              refine gf_X7_16 C hP dX7_dies_57 ?_
              refine lv_iload_n hx hb dX7_dies_60 rfl (lv_at hl 1 rfl) ?_
              refine lv_iload_n hx hb dX7_dies_61 rfl (lv_at hl 2 rfl) ?_
              refine lv_iload_n hx hb dX7_dies_62 rfl (lv_at hl 3 rfl) ?_
              obtain ⟨tv13, th14, tq12, hk⟩ := tr_okb2 hk
              refine tr_cvi (As := [.ref (tr_ad w 2), .int tv900, .int tv901, .int tv902]) (rest := []) C hP hS hl (c_X7_lastsUntil l w 2 tr_net_2 tv900 tv901 tv902 th10 tv13 th14 tq12) mz_X7_lastsUntil ml_X7_164 (by decide) rfl rfl rfl rfl ⟨Nat.le_of_ble_eq_true rfl, Nat.le_of_ble_eq_true rfl⟩ rfl rfl (Nat.le_of_ble_eq_true rfl) ⟨Nat.le_refl _, Nat.le_refl _⟩ dX7_dies_63 (fun H locs hP hS => ?_)
              exact tr_iret C hP hS hr hlocks (tr_okS (P := (fun o => o = (r0, h0))) hk) dX7_dies_66
            · replace hk := tr_ift hk tc11
              refine lv_bipush (v := (-3)) hx hb dX7_dies_52 (by decide) ?_
              exact tr_iret C hP hS hr hlocks (tr_okS (P := (fun o => o = (r0, h0))) hk) dX7_dies_54
          · replace hk := tr_iff hk tc7
            refine lv_bipush (v := (-2)) hx hb dX7_dies_34 (by decide) ?_
            exact tr_iret C hP hS hr hlocks (tr_okS (P := (fun o => o = (r0, h0))) hk) dX7_dies_36
  · replace hk := tr_ift hk tc3
    refine lv_iconst (v := (-1)) hx hb dX7_dies_11 (by decide) ?_
    exact tr_iret C hP hS hr hlocks (tr_okS (P := (fun o => o = (r0, h0))) hk) dX7_dies_12
abbrev r_X7_best : Room := { frames := 3, cells := 0, slots := 0, locals := 72 }
set_option maxHeartbeats 4000000 in
set_option maxRecDepth 100000 in
theorem c_X7_best (l : Launch) (w : tr_E) (tv900 : Int32) (h : tr_H) (r0 : Int32) (h0 : tr_H) (hk : f_X7_best tv900 h = some (r0, h0)) : Met l yX7_best (Cond.code yX7_best cX7_best 8 (some .int) :: tr_T) r_X7_best (va_Pc [.ref (tr_ad w 0), .int tv900] (tr_Wo tr_X w h)) (tr_Qi tr_X w r0 h0) 0 0 (tr_R tr_X w) := by
  refine tr_start (by decide) (Nat.le_refl _) ?_
  intro p e s m args below meth c C hr hlocks hargs hP
  have hx := C.1
  have hb := C.2.1
  have hS : va_S (tr_R tr_X w) s.heap s.heap [] := va_S.rf
  have hl := lv_entry ([.ref (tr_ad w 0), .int tv900]) (n := 8) (Nat.le_of_ble_eq_true rfl)
  rw [lg_entry_eq]
  generalize (lg_sl ([.ref (tr_ad w 0), .int tv900]) ++ List.replicate (8 - (lg_sl ([.ref (tr_ad w 0), .int tv900])).length) Slot.unset).toArray = ls at hl ⊢
  have hl : lv_has ls 8 [(0, .ref (tr_ad w 0)), (1, .int tv900)] := hl
  replace hk : tr_ok (f_X7_best tv900 h) (fun o => o = (r0, h0)) := ⟨_, hk, rfl⟩
  unfold f_X7_best at hk
  refine lv_iload_n hx hb dX7_best_0 rfl (lv_at hl 1 rfl) ?_
  have j12 : tr_ok (f_X7_best_J12 h tv900) (fun o => o = (r0, h0)) → tr_Wd p l e r_X7_best s m args below meth c (MQ below (tr_Qi tr_X w r0 h0) args s 0 0 (tr_R tr_X w)) tr_X w 8 12 [(0, .ref (tr_ad w 0)), (1, .int tv900)] [] h := by
    intro  hk H locs ls hP hS hl
    unfold f_X7_best_J12 at hk
    refine lv_aload_n hx hb dX7_best_12 rfl (lv_at hl 0 rfl) ?_
    refine gf_X7_20 C hP dX7_best_13 ?_
    refine lv_aload_n hx hb dX7_best_16 rfl (lv_at hl 0 rfl) ?_
    refine gf_X7_16 C hP dX7_best_17 ?_
    obtain ⟨th2, tq1, hk⟩ := tr_okb hk
    refine tr_cvv (As := [.ref (tr_ad w 2)]) (rest := []) C hP hS hl (c_X2_copyFrom l w 4 tr_net_4 2 tr_net_2 h th2 tq1) mz_X2_copyFrom ml_X7_81 (by decide) rfl rfl rfl rfl ⟨Nat.le_of_ble_eq_true rfl, Nat.le_of_ble_eq_true rfl⟩ rfl rfl (Nat.le_of_ble_eq_true rfl) ⟨Nat.le_refl _, Nat.le_refl _⟩ dX7_best_20 (fun H locs hP hS => ?_)
    refine lv_bipush (v := (-9)) hx hb dX7_best_23 (by decide) ?_
    refine lv_istore_n (lv' := [(2, .int (-9)), (0, .ref (tr_ad w 0)), (1, .int tv900)]) hx hb dX7_best_25 rfl hl (by decide) rfl (fun ls hl => ?_)
    refine lv_ldc (v := 1000000) hx hb C.2.2.2.1 (C.2.2.2.2.1 _ mc_X7_168) dX7_best_26 ?_
    refine lv_istore_n (lv' := [(3, .int 1000000), (2, .int (-9)), (0, .ref (tr_ad w 0)), (1, .int tv900)]) hx hb dX7_best_28 rfl hl (by decide) rfl (fun ls hl => ?_)
    refine lv_iconst (v := 0) hx hb dX7_best_29 (by decide) ?_
    refine lv_istore (lv' := [(4, .int 0), (3, .int 1000000), (2, .int (-9)), (0, .ref (tr_ad w 0)), (1, .int tv900)]) hx hb dX7_best_30 hl (by decide) rfl (fun ls hl => ?_)
    have j173_32 : ∀ (tv3 : Int32) (th4 : tr_H), tr_ok (f_X7_best_E173 tv3 th4) (fun o => o = (r0, h0)) → tr_Wd p l e r_X7_best s m args below meth c (MQ below (tr_Qi tr_X w r0 h0) args s 0 0 (tr_R tr_X w)) tr_X w 8 173 [(2, .int tv3)] [] th4 := by
      intro tv3 th4 hk H locs ls hP hS hl
      unfold f_X7_best_E173 at hk
      refine lv_iload_n hx hb dX7_best_173 rfl (lv_at hl 0 rfl) ?_
      exact tr_iret C hP hS hr hlocks (tr_okS (P := (fun o => o = (r0, h0))) hk) dX7_best_174
    refine tr_loop (fun q => tr_Wd p l e r_X7_best s m args below meth c (MQ below (tr_Qi tr_X w r0 h0) args s 0 0 (tr_R tr_X w)) tr_X w 8 32 [(0, .ref (tr_ad w 0)), (1, .int tv900), (2, .int q.1), (3, .int q.2.1), (4, .int q.2.2.1)] [] q.2.2.2) hk ?_ _ _ _ hP hS (lv_sub hl [3, 4, 2, 1, 0] rfl)
    intro P32 hin32 hex32 q hk
    obtain ⟨tv5, tv6, tv7, th8⟩ := q
    intro H locs ls hP hS hl
    replace hk : tr_ok (f_X7_best_L32 tv900 tv5 tv6 tv7 th8) P32 := hk
    unfold f_X7_best_L32 at hk
    refine lv_iload hx hb dX7_best_32 (lv_at hl 4 rfl) ?_
    refine lv_aload_n hx hb dX7_best_34 rfl (lv_at hl 0 rfl) ?_
    refine gf_X7_16 C hP dX7_best_35 ?_
    refine gf_X7_92 tr_net_2 C hP dX7_best_38 ?_
    refine lv_icmp_ge (tgt := 173) hx hb dX7_best_41 (by decide) (fun tc9 => ?_) (fun tc9 => ?_)
    · replace hk := tr_ift hk tc9
      replace hk := hex32 _ (tr_okS hk)
      replace hk : tr_ok (f_X7_best_E173 tv5 th8) (fun o => o = (r0, h0)) := hk
      exact j173_32 tv5 th8 hk _ _ _ hP hS (lv_sub hl [2] rfl)
    · replace hk := tr_iff hk tc9
      refine lv_iconst (v := 0) hx hb dX7_best_44 (by decide) ?_
      refine lv_istore (lv' := [(5, .int 0), (0, .ref (tr_ad w 0)), (1, .int tv900), (2, .int tv5), (3, .int tv6), (4, .int tv7)]) hx hb dX7_best_45 hl (by decide) rfl (fun ls hl => ?_)
      have j167_47 : ∀ (tv10 : Int32) (tv11 : Int32) (th12 : tr_H), tr_ok (f_X7_best_E167 tv7 tv10 tv11 th12) P32 → tr_Wd p l e r_X7_best s m args below meth c (MQ below (tr_Qi tr_X w r0 h0) args s 0 0 (tr_R tr_X w)) tr_X w 8 167 [(0, .ref (tr_ad w 0)), (1, .int tv900), (2, .int tv10), (3, .int tv11), (4, .int tv7)] [] th12 := by
        intro tv10 tv11 th12 hk H locs ls hP hS hl
        unfold f_X7_best_E167 at hk
        obtain ⟨tv13, etv13, hk⟩ := tr_okd hk
        refine lv_iinc (v := tv13) (lv' := [(4, .int tv13), (0, .ref (tr_ad w 0)), (1, .int tv900), (2, .int tv10), (3, .int tv11)]) hx hb dX7_best_167 hl (k := 4) rfl (by rw [etv13]; rfl) (by decide) rfl (fun ls hl => ?_)
        refine lv_goto (tgt := 32) hx hb dX7_best_170 (by decide) ?_
        exact hin32 _ (tr_okS hk) _ _ _ hP hS (lv_sub hl [1, 2, 3, 4, 0] rfl)
      refine tr_loop (fun q => tr_Wd p l e r_X7_best s m args below meth c (MQ below (tr_Qi tr_X w r0 h0) args s 0 0 (tr_R tr_X w)) tr_X w 8 47 [(0, .ref (tr_ad w 0)), (1, .int tv900), (2, .int q.1), (3, .int q.2.1), (4, .int tv7), (5, .int q.2.2.1)] [] q.2.2.2) hk ?_ _ _ _ hP hS (lv_sub hl [1, 2, 3, 4, 5, 0] rfl)
      intro P47 hin47 hex47 q hk
      obtain ⟨tv14, tv15, tv16, th17⟩ := q
      intro H locs ls hP hS hl
      replace hk : tr_ok (f_X7_best_L47 tv7 tv900 tv14 tv15 tv16 th17) P47 := hk
      unfold f_X7_best_L47 at hk
      refine lv_iload hx hb dX7_best_47 (lv_at hl 5 rfl) ?_
      refine lv_aload_n hx hb dX7_best_49 rfl (lv_at hl 0 rfl) ?_
      refine gf_X7_16 C hP dX7_best_50 ?_
      refine gf_X7_92 tr_net_2 C hP dX7_best_53 ?_
      refine lv_icmp_ge (tgt := 167) hx hb dX7_best_56 (by decide) (fun tc18 => ?_) (fun tc18 => ?_)
      · replace hk := tr_ift hk tc18
        replace hk := hex47 _ (tr_okS hk)
        replace hk : tr_ok (f_X7_best_E167 tv7 tv14 tv15 th17) P32 := hk
        exact j167_47 tv14 tv15 th17 hk _ _ _ hP hS (lv_sub hl [0, 1, 2, 3, 4] rfl)
      · replace hk := tr_iff hk tc18
        refine lv_aload_n hx hb dX7_best_59 rfl (lv_at hl 0 rfl) ?_
        refine gf_X7_16 C hP dX7_best_60 ?_
        refine lv_iload hx hb dX7_best_63 (lv_at hl 4 rfl) ?_
        refine lv_iload hx hb dX7_best_65 (lv_at hl 5 rfl) ?_
        obtain ⟨tv20, tq19, hk⟩ := tr_okb hk
        refine tr_cvi (As := [.int tv7, .int tv16]) (rest := []) C hP hS hl (c_X2_of l w 2 tr_net_2 tv7 tv16 th17 tv20 tq19) mz_X2_of ml_X7_116 (by decide) rfl rfl rfl rfl ⟨Nat.le_of_ble_eq_true rfl, Nat.le_of_ble_eq_true rfl⟩ rfl rfl (Nat.le_of_ble_eq_true rfl) ⟨Nat.le_refl _, Nat.le_refl _⟩ dX7_best_67 (fun H locs hP hS => ?_)
        refine lv_istore (lv' := [(6, .int tv20), (0, .ref (tr_ad w 0)), (1, .int tv900), (2, .int tv14), (3, .int tv15), (4, .int tv7), (5, .int tv16)]) hx hb dX7_best_70 hl (by decide) rfl (fun ls hl => ?_)
        refine lv_iload hx hb dX7_best_72 (lv_at hl 0 rfl) ?_
        refine lv_bipush (v := (-9)) hx hb dX7_best_74 (by decide) ?_
        refine lv_icmp_eq (tgt := 161) hx hb dX7_best_76 (by decide) (fun tc21 => ?_) (fun tc21 => ?_)
        · replace hk := tr_ift hk tc21
          obtain ⟨tv22, etv22, hk⟩ := tr_okd hk
          refine lv_iinc (v := tv22) (lv' := [(5, .int tv22), (6, .int tv20), (0, .ref (tr_ad w 0)), (1, .int tv900), (2, .int tv14), (3, .int tv15), (4, .int tv7)]) hx hb dX7_best_161 hl (k := 6) rfl (by rw [etv22]; rfl) (by decide) rfl (fun ls hl => ?_)
          refine lv_goto (tgt := 47) hx hb dX7_best_164 (by decide) ?_
          exact hin47 _ (tr_okS hk) _ _ _ hP hS (lv_sub hl [2, 3, 4, 5, 6, 0] rfl)
        · replace hk := tr_iff hk tc21
          refine lv_iload_n hx hb dX7_best_79 rfl (lv_at hl 2 rfl) ?_
          have j91 : tr_ok (f_X7_best_J91 tv900 tv7 tv16 th17 tv20 tv15 tv14) P47 → tr_Wd p l e r_X7_best s m args below meth c (MQ below (tr_Qi tr_X w r0 h0) args s 0 0 (tr_R tr_X w)) tr_X w 8 91 [(0, .ref (tr_ad w 0)), (1, .int tv900), (2, .int tv14), (3, .int tv15), (4, .int tv7), (5, .int tv16), (6, .int tv20)] [] th17 := by
            intro  hk H locs ls hP hS hl
            unfold f_X7_best_J91 at hk
            refine lv_aload_n hx hb dX7_best_91 rfl (lv_at hl 0 rfl) ?_
            refine gf_X7_20 C hP dX7_best_92 ?_
            refine lv_iload hx hb dX7_best_95 (lv_at hl 4 rfl) ?_
            refine lv_iload hx hb dX7_best_97 (lv_at hl 5 rfl) ?_
            refine lv_iload_n hx hb dX7_best_99 rfl (lv_at hl 1 rfl) ?_
            have j112 : ∀ (tv23 : Int32), tr_ok (f_X7_best_J112 tv7 tv16 th17 tv20 tv15 tv14 tv23) P47 → tr_Wd p l e r_X7_best s m args below meth c (MQ below (tr_Qi tr_X w r0 h0) args s 0 0 (tr_R tr_X w)) tr_X w 8 112 [(0, .ref (tr_ad w 0)), (1, .int tv900), (2, .int tv14), (3, .int tv15), (4, .int tv7), (5, .int tv16), (6, .int tv20)] [.int tv23, .int tv16, .int tv7, .ref (tr_ad w 4)] th17 := by
              intro tv23 hk H locs ls hP hS hl
              unfold f_X7_best_J112 at hk
              obtain ⟨tv25, th26, tq24, hk⟩ := tr_okb2 hk
              refine tr_cvi (As := [.int tv7, .int tv16, .int tv23]) (rest := []) C hP hS hl (c_X2_lay l w 4 tr_net_4 tv7 tv16 tv23 th17 tv25 th26 tq24) mz_X2_lay ml_X7_169 (by decide) rfl rfl rfl rfl ⟨Nat.le_of_ble_eq_true rfl, Nat.le_of_ble_eq_true rfl⟩ rfl rfl (Nat.le_of_ble_eq_true rfl) ⟨Nat.le_refl _, Nat.le_refl _⟩ dX7_best_112 (fun H locs hP hS => ?_)
              refine lv_pop hx hb dX7_best_115 rfl ?_
              refine lv_aload_n hx hb dX7_best_116 rfl (lv_at hl 0 rfl) ?_
              refine gf_X7_55 C hP dX7_best_117 ?_
              refine lv_aload_n hx hb dX7_best_120 rfl (lv_at hl 0 rfl) ?_
              refine gf_X7_20 C hP dX7_best_121 ?_
              obtain ⟨tv28, th29, tq27, hk⟩ := tr_okb2 hk
              refine tr_cvi (As := [.ref (tr_ad w 4)]) (rest := []) C hP hS hl (c_X6_slowest l w 4 tr_net_4 th26 tv28 th29 tq27) mz_X6_slowest ml_X7_127 (by decide) rfl rfl rfl rfl ⟨Nat.le_of_ble_eq_true rfl, Nat.le_of_ble_eq_true rfl⟩ rfl rfl (Nat.le_of_ble_eq_true rfl) ⟨Nat.le_refl _, Nat.le_refl _⟩ dX7_best_124 (fun H locs hP hS => ?_)
              refine lv_istore (lv' := [(7, .int tv28), (0, .ref (tr_ad w 0)), (1, .int tv900), (2, .int tv14), (3, .int tv15), (4, .int tv7), (5, .int tv16), (6, .int tv20)]) hx hb dX7_best_127 hl (by decide) rfl (fun ls hl => ?_)
              refine lv_aload_n hx hb dX7_best_129 rfl (lv_at hl 1 rfl) ?_
              refine gf_X7_20 C hP dX7_best_130 ?_
              refine lv_iload hx hb dX7_best_133 (lv_at hl 5 rfl) ?_
              refine lv_iload hx hb dX7_best_135 (lv_at hl 6 rfl) ?_
              refine lv_iload hx hb dX7_best_137 (lv_at hl 7 rfl) ?_
              obtain ⟨tv31, th32, tq30, hk⟩ := tr_okb2 hk
              refine tr_cvi (As := [.int tv7, .int tv16, .int tv20]) (rest := []) C hP hS hl (c_X2_lay l w 4 tr_net_4 tv7 tv16 tv20 th29 tv31 th32 tq30) mz_X2_lay ml_X7_169 (by decide) rfl rfl rfl rfl ⟨Nat.le_of_ble_eq_true rfl, Nat.le_of_ble_eq_true rfl⟩ rfl rfl (Nat.le_of_ble_eq_true rfl) ⟨Nat.le_refl _, Nat.le_refl _⟩ dX7_best_139 (fun H locs hP hS => ?_)
              refine lv_pop hx hb dX7_best_142 rfl ?_
              refine lv_iload hx hb dX7_best_143 (lv_at hl 0 rfl) ?_
              refine lv_iload_n hx hb dX7_best_145 rfl (lv_at hl 4 rfl) ?_
              refine lv_icmp_ge (tgt := 161) hx hb dX7_best_146 (by decide) (fun tc33 => ?_) (fun tc33 => ?_)
              · replace hk := tr_ift hk tc33
                obtain ⟨tv34, etv34, hk⟩ := tr_okd hk
                refine lv_iinc (v := tv34) (lv' := [(5, .int tv34), (7, .int tv28), (0, .ref (tr_ad w 0)), (1, .int tv900), (2, .int tv14), (3, .int tv15), (4, .int tv7), (6, .int tv20)]) hx hb dX7_best_161 hl (k := 6) rfl (by rw [etv34]; rfl) (by decide) rfl (fun ls hl => ?_)
                refine lv_goto (tgt := 47) hx hb dX7_best_164 (by decide) ?_
                exact hin47 _ (tr_okS hk) _ _ _ hP hS (lv_sub hl [2, 3, 4, 5, 6, 0] rfl)
              · replace hk := tr_iff hk tc33
                refine lv_iload hx hb dX7_best_149 (lv_at hl 0 rfl) ?_
                refine lv_istore_n (lv' := [(3, .int tv28), (7, .int tv28), (0, .ref (tr_ad w 0)), (1, .int tv900), (2, .int tv14), (4, .int tv7), (5, .int tv16), (6, .int tv20)]) hx hb dX7_best_151 rfl hl (by decide) rfl (fun ls hl => ?_)
                refine lv_bipush (v := 10) hx hb dX7_best_152 (by decide) ?_
                refine lv_iload hx hb dX7_best_154 (lv_at hl 5 rfl) ?_
                refine lv_imul hx hb dX7_best_156 ?_
                refine lv_iload hx hb dX7_best_157 (lv_at hl 6 rfl) ?_
                refine lv_iadd hx hb dX7_best_159 ?_
                refine tr_ti hk (fun tv35 hk => ?_)
                refine lv_istore_n (lv' := [(2, .int tv35), (3, .int tv28), (7, .int tv28), (0, .ref (tr_ad w 0)), (1, .int tv900), (4, .int tv7), (5, .int tv16), (6, .int tv20)]) hx hb dX7_best_160 rfl hl (by decide) rfl (fun ls hl => ?_)
                obtain ⟨tv36, etv36, hk⟩ := tr_okd hk
                refine lv_iinc (v := tv36) (lv' := [(5, .int tv36), (2, .int tv35), (3, .int tv28), (7, .int tv28), (0, .ref (tr_ad w 0)), (1, .int tv900), (4, .int tv7), (6, .int tv20)]) hx hb dX7_best_161 hl (k := 6) rfl (by rw [etv36]; rfl) (by decide) rfl (fun ls hl => ?_)
                refine lv_goto (tgt := 47) hx hb dX7_best_164 (by decide) ?_
                exact hin47 _ (tr_okS hk) _ _ _ hP hS (lv_sub hl [4, 5, 1, 2, 6, 0] rfl)
            refine lv_if_ne (tgt := 110) hx hb dX7_best_100 (by decide) (fun tc37 => ?_) (fun tc37 => ?_)
            · replace hk := tr_iff hk tc37
              refine lv_bipush (v := (-9)) hx hb dX7_best_110 (by decide) ?_
              exact j112 (-9) hk _ _ _ hP hS (lv_sub hl [0, 1, 2, 3, 4, 5, 6] rfl)
            · replace hk := tr_ift hk tc37
              refine lv_iload hx hb dX7_best_103 (lv_at hl 6 rfl) ?_
              refine lv_iconst (v := 1) hx hb dX7_best_105 (by decide) ?_
              refine lv_isub hx hb dX7_best_106 ?_
              refine lv_goto (tgt := 112) hx hb dX7_best_107 (by decide) ?_
              exact j112 (tv20 - 1) hk _ _ _ hP hS (lv_sub hl [0, 1, 2, 3, 4, 5, 6] rfl)
          refine lv_if_ne (tgt := 91) hx hb dX7_best_80 (by decide) (fun tc38 => ?_) (fun tc38 => ?_)
          · replace hk := tr_iff hk tc38
            exact j91 hk _ _ _ hP hS (lv_sub hl [1, 2, 3, 4, 5, 6, 0] rfl)
          · replace hk := tr_ift hk tc38
            refine lv_iload hx hb dX7_best_83 (lv_at hl 0 rfl) ?_
            refine lv_if_ne (tgt := 91) hx hb dX7_best_85 (by decide) (fun tc39 => ?_) (fun tc39 => ?_)
            · replace hk := tr_iff hk tc39
              exact j91 hk _ _ _ hP hS (lv_sub hl [1, 2, 3, 4, 5, 6, 0] rfl)
            · replace hk := tr_ift hk tc39
              refine lv_goto (tgt := 161) hx hb dX7_best_88 (by decide) ?_
              obtain ⟨tv40, etv40, hk⟩ := tr_okd hk
              refine lv_iinc (v := tv40) (lv' := [(5, .int tv40), (6, .int tv20), (0, .ref (tr_ad w 0)), (1, .int tv900), (2, .int tv14), (3, .int tv15), (4, .int tv7)]) hx hb dX7_best_161 hl (k := 6) rfl (by rw [etv40]; rfl) (by decide) rfl (fun ls hl => ?_)
              refine lv_goto (tgt := 47) hx hb dX7_best_164 (by decide) ?_
              exact hin47 _ (tr_okS hk) _ _ _ hP hS (lv_sub hl [2, 3, 4, 5, 6, 0] rfl)
  refine lv_if_eq (tgt := 12) hx hb dX7_best_1 (by decide) (fun tc41 => ?_) (fun tc41 => ?_)
  · replace hk := tr_ift hk tc41
    exact j12 hk _ _ _ hP hS (lv_sub hl [0, 1] rfl)
  · replace hk := tr_iff hk tc41
    refine lv_iload_n hx hb dX7_best_4 rfl (lv_at hl 1 rfl) ?_
    refine lv_iconst (v := 1) hx hb dX7_best_5 (by decide) ?_
    refine lv_icmp_eq (tgt := 12) hx hb dX7_best_6 (by decide) (fun tc42 => ?_) (fun tc42 => ?_)
    · replace hk := tr_ift hk tc42
      exact j12 hk _ _ _ hP hS (lv_sub hl [0, 1] rfl)
    · replace hk := tr_iff hk tc42
      refine lv_bipush (v := (-2)) hx hb dX7_best_9 (by decide) ?_
      exact tr_iret C hP hS hr hlocks (tr_okS (P := (fun o => o = (r0, h0))) hk) dX7_best_11
abbrev r_X7_figuresOf : Room := { frames := 0, cells := 0, slots := 0, locals := 0 }
set_option maxHeartbeats 4000000 in
set_option maxRecDepth 100000 in
theorem c_X7_figuresOf (l : Launch) (w : tr_E) (tv900 : Int64) (tv901 : Int32) (h : tr_H) (r0 : Int32) (hk : f_X7_figuresOf tv900 tv901 = some r0) : Met l yX7_figuresOf (Cond.code yX7_figuresOf cX7_figuresOf 6 (some .int) :: tr_T) r_X7_figuresOf (va_Pc [.long tv900, .int tv901] (tr_Wo tr_X w h)) (tr_Qi tr_X w r0 h) 0 0 (tr_R tr_X w) := by
  refine tr_start (by decide) (Nat.le_refl _) ?_
  intro p e s m args below meth c C hr hlocks hargs hP
  have hx := C.1
  have hb := C.2.1
  have hS : va_S (tr_R tr_X w) s.heap s.heap [] := va_S.rf
  have hl := lv_entry ([.long tv900, .int tv901]) (n := 6) (Nat.le_of_ble_eq_true rfl)
  rw [lg_entry_eq]
  generalize (lg_sl ([.long tv900, .int tv901]) ++ List.replicate (6 - (lg_sl ([.long tv900, .int tv901])).length) Slot.unset).toArray = ls at hl ⊢
  have hl : lv_has ls 6 [(0, .long tv900), (2, .int tv901)] := hl
  replace hk : tr_ok (f_X7_figuresOf tv900 tv901) (fun o => o = r0) := ⟨_, hk, rfl⟩
  unfold f_X7_figuresOf at hk
  refine lv_lload_n hx hb dX7_figuresOf_0 rfl (lv_at hl 0 rfl) ?_
  refine lv_lstore_n (lv' := [(3, .long tv900), (0, .long tv900), (2, .int tv901)]) hx hb dX7_figuresOf_1 rfl hl (by decide) rfl (fun ls hl => ?_)
  refine lv_iconst (v := 0) hx hb dX7_figuresOf_2 (by decide) ?_
  refine lv_istore (lv' := [(5, .int 0), (3, .long tv900), (0, .long tv900), (2, .int tv901)]) hx hb dX7_figuresOf_3 hl (by decide) rfl (fun ls hl => ?_)
  have j23_5 : ∀ (tv1 : Int64), tr_ok (f_X7_figuresOf_E23 tv1) (fun o => o = r0) → tr_Wd p l e r_X7_figuresOf s m args below meth c (MQ below (tr_Qi tr_X w r0 h) args s 0 0 (tr_R tr_X w)) tr_X w 6 23 [(3, .long tv1)] [] h := by
    intro tv1 hk H locs ls hP hS hl
    unfold f_X7_figuresOf_E23 at hk
    refine lv_lload_n hx hb dX7_figuresOf_23 rfl (lv_at hl 0 rfl) ?_
    refine lv_ldc2 (v := 10000) hx hb C.2.2.2.1 (C.2.2.2.2.1 _ mc_X7_220) dX7_figuresOf_24 ?_
    refine lv_lrem hx hb dX7_figuresOf_27 (by decide) ?_
    refine lv_l2i hx hb dX7_figuresOf_28 rfl ?_
    exact tr_iret C hP hS hr hlocks (congrArg (fun x => (x, h)) (tr_okS (P := (fun o => o = r0)) hk)) dX7_figuresOf_29
  refine tr_loop (fun q => tr_Wd p l e r_X7_figuresOf s m args below meth c (MQ below (tr_Qi tr_X w r0 h) args s 0 0 (tr_R tr_X w)) tr_X w 6 5 [(2, .int tv901), (3, .long q.1), (5, .int q.2)] [] h) hk ?_ _ _ _ hP hS (lv_sub hl [3, 1, 0] rfl)
  intro P5 hin5 hex5 q hk
  obtain ⟨tv2, tv3⟩ := q
  intro H locs ls hP hS hl
  replace hk : tr_ok (f_X7_figuresOf_L5 tv901 tv2 tv3) P5 := hk
  unfold f_X7_figuresOf_L5 at hk
  refine lv_iload hx hb dX7_figuresOf_5 (lv_at hl 2 rfl) ?_
  refine lv_iload_n hx hb dX7_figuresOf_7 rfl (lv_at hl 0 rfl) ?_
  refine lv_icmp_ge (tgt := 23) hx hb dX7_figuresOf_8 (by decide) (fun tc4 => ?_) (fun tc4 => ?_)
  · replace hk := tr_ift hk tc4
    replace hk := hex5 _ (tr_okS hk)
    replace hk : tr_ok (f_X7_figuresOf_E23 tv2) (fun o => o = r0) := hk
    exact j23_5 tv2 hk _ _ _ hP hS (lv_sub hl [1] rfl)
  · replace hk := tr_iff hk tc4
    refine lv_lload_n hx hb dX7_figuresOf_11 rfl (lv_at hl 1 rfl) ?_
    refine lv_ldc2 (v := 10000) hx hb C.2.2.2.1 (C.2.2.2.2.1 _ mc_X7_220) dX7_figuresOf_12 ?_
    refine lv_ldiv hx hb dX7_figuresOf_15 (by decide) ?_
    refine tr_tl hk (fun tv5 hk => ?_)
    refine lv_lstore_n (lv' := [(3, .long tv5), (2, .int tv901), (5, .int tv3)]) hx hb dX7_figuresOf_16 rfl hl (by decide) rfl (fun ls hl => ?_)
    obtain ⟨tv6, etv6, hk⟩ := tr_okd hk
    refine lv_iinc (v := tv6) (lv' := [(5, .int tv6), (3, .long tv5), (2, .int tv901)]) hx hb dX7_figuresOf_17 hl (k := 2) rfl (by rw [etv6]; rfl) (by decide) rfl (fun ls hl => ?_)
    refine lv_goto (tgt := 5) hx hb dX7_figuresOf_20 (by decide) ?_
    exact hin5 _ (tr_okS hk) _ _ _ hP hS (lv_sub hl [2, 1, 0] rfl)
abbrev r_X7_departsAt : Room := { frames := 4, cells := 0, slots := 0, locals := 94 }
set_option maxHeartbeats 4000000 in
set_option maxRecDepth 100000 in
theorem c_X7_departsAt (l : Launch) (w : tr_E) (tv900 : Int32) (tv901 : Int32) (h : tr_H) (r0 : Int32) (h0 : tr_H) (hk : f_X7_departsAt tv900 tv901 h = some (r0, h0)) : Met l yX7_departsAt (Cond.code yX7_departsAt cX7_departsAt 3 (some .boolean) :: tr_T) r_X7_departsAt (va_Pc [.ref (tr_ad w 0), .int tv900, .int tv901] (tr_Wo tr_X w h)) (tr_Qi tr_X w r0 h0) 0 0 (tr_R tr_X w) := by
  refine tr_start (by decide) (Nat.le_refl _) ?_
  intro p e s m args below meth c C hr hlocks hargs hP
  have hx := C.1
  have hb := C.2.1
  have hS : va_S (tr_R tr_X w) s.heap s.heap [] := va_S.rf
  have hl := lv_entry ([.ref (tr_ad w 0), .int tv900, .int tv901]) (n := 3) (Nat.le_of_ble_eq_true rfl)
  rw [lg_entry_eq]
  generalize (lg_sl ([.ref (tr_ad w 0), .int tv900, .int tv901]) ++ List.replicate (3 - (lg_sl ([.ref (tr_ad w 0), .int tv900, .int tv901])).length) Slot.unset).toArray = ls at hl ⊢
  have hl : lv_has ls 3 [(0, .ref (tr_ad w 0)), (1, .int tv900), (2, .int tv901)] := hl
  replace hk : tr_ok (f_X7_departsAt tv900 tv901 h) (fun o => o = (r0, h0)) := ⟨_, hk, rfl⟩
  unfold f_X7_departsAt at hk
  refine lv_aload_n hx hb dX7_departsAt_0 rfl (lv_at hl 0 rfl) ?_
  refine gf_X7_55 C hP dX7_departsAt_1 ?_
  refine lv_aload_n hx hb dX7_departsAt_4 rfl (lv_at hl 0 rfl) ?_
  refine gf_X7_20 C hP dX7_departsAt_5 ?_
  refine lv_bipush (v := 10) hx hb dX7_departsAt_8 (by decide) ?_
  obtain ⟨tv2, th3, tq1, hk⟩ := tr_okb2 hk
  refine tr_cvi (As := [.ref (tr_ad w 4), .int 10]) (rest := []) C hP hS hl (c_X6_isKept l w 4 tr_net_4 10 h tv2 th3 tq1) mz_X6_isKept ml_X7_142 (by decide) rfl rfl rfl rfl ⟨Nat.le_of_ble_eq_true rfl, Nat.le_of_ble_eq_true rfl⟩ rfl rfl (Nat.le_of_ble_eq_true rfl) ⟨Nat.le_refl _, Nat.le_refl _⟩ dX7_departsAt_10 (fun H locs hP hS => ?_)
  refine lv_if_ne (tgt := 18) hx hb dX7_departsAt_13 (by decide) (fun tc4 => ?_) (fun tc4 => ?_)
  · replace hk := tr_iff hk tc4
    refine lv_aload_n hx hb dX7_departsAt_18 rfl (lv_at hl 0 rfl) ?_
    refine gf_X7_62 C hP dX7_departsAt_19 ?_
    refine lv_aload_n hx hb dX7_departsAt_22 rfl (lv_at hl 0 rfl) ?_
    refine gf_X7_20 C hP dX7_departsAt_23 ?_
    refine lv_bipush (v := 10) hx hb dX7_departsAt_26 (by decide) ?_
    obtain ⟨th6, tq5, hk⟩ := tr_okb hk
    refine tr_cvv (As := [.ref (tr_ad w 4), .int 10]) (rest := []) C hP hS hl (c_X0_settle l w 4 tr_net_4 10 th3 th6 tq5) mz_X0_settle ml_X7_146 (by decide) rfl rfl rfl rfl ⟨Nat.le_of_ble_eq_true rfl, Nat.le_of_ble_eq_true rfl⟩ rfl rfl (Nat.le_of_ble_eq_true rfl) ⟨Nat.le_refl _, Nat.le_refl _⟩ dX7_departsAt_28 (fun H locs hP hS => ?_)
    refine lv_aload_n hx hb dX7_departsAt_31 rfl (lv_at hl 0 rfl) ?_
    refine gf_X7_62 C hP dX7_departsAt_32 ?_
    refine lv_iload_n hx hb dX7_departsAt_35 rfl (lv_at hl 1 rfl) ?_
    obtain ⟨tv8, tq7, hk⟩ := tr_okb hk
    refine tr_cvi (As := [.int tv900]) (rest := []) C hP hS hl (c_X0_timeOf l w tv900 th6 tv8 tq7) mz_X0_timeOf ml_X7_150 (by decide) rfl rfl rfl rfl ⟨Nat.le_of_ble_eq_true rfl, Nat.le_of_ble_eq_true rfl⟩ rfl rfl (Nat.le_of_ble_eq_true rfl) ⟨Nat.le_refl _, Nat.le_refl _⟩ dX7_departsAt_36 (fun H locs hP hS => ?_)
    refine lv_iload_n hx hb dX7_departsAt_39 rfl (lv_at hl 2 rfl) ?_
    refine lv_icmp_ne (tgt := 47) hx hb dX7_departsAt_40 (by decide) (fun tc9 => ?_) (fun tc9 => ?_)
    · replace hk := tr_iff hk tc9
      refine lv_iconst (v := 0) hx hb dX7_departsAt_47 (by decide) ?_
      exact tr_zret C hP hS hr hlocks rfl (tr_okS (P := (fun o => o = (r0, h0))) hk) dX7_departsAt_48
    · replace hk := tr_ift hk tc9
      refine lv_iconst (v := 1) hx hb dX7_departsAt_43 (by decide) ?_
      refine lv_goto (tgt := 48) hx hb dX7_departsAt_44 (by decide) ?_
      exact tr_zret C hP hS hr hlocks rfl (tr_okS (P := (fun o => o = (r0, h0))) hk) dX7_departsAt_48
  · replace hk := tr_ift hk tc4
    refine lv_iconst (v := 0) hx hb dX7_departsAt_16 (by decide) ?_
    exact tr_zret C hP hS hr hlocks rfl (tr_okS (P := (fun o => o = (r0, h0))) hk) dX7_departsAt_17
abbrev r_X7_isOver : Room := { frames := 5, cells := 0, slots := 0, locals := 120 }
set_option maxHeartbeats 4000000 in
set_option maxRecDepth 100000 in
theorem c_X7_isOver (l : Launch) (w : tr_E) (tv900 : Int32) (tv901 : Int32) (h : tr_H) (r0 : Int32) (h0 : tr_H) (hk : f_X7_isOver tv900 tv901 h = some (r0, h0)) : Met l yX7_isOver (Cond.code yX7_isOver cX7_isOver 3 (some .boolean) :: tr_T) r_X7_isOver (va_Pc [.ref (tr_ad w 0), .int tv900, .int tv901] (tr_Wo tr_X w h)) (tr_Qi tr_X w r0 h0) 0 0 (tr_R tr_X w) := by
  refine tr_start (by decide) (Nat.le_refl _) ?_
  intro p e s m args below meth c C hr hlocks hargs hP
  have hx := C.1
  have hb := C.2.1
  have hS : va_S (tr_R tr_X w) s.heap s.heap [] := va_S.rf
  have hl := lv_entry ([.ref (tr_ad w 0), .int tv900, .int tv901]) (n := 3) (Nat.le_of_ble_eq_true rfl)
  rw [lg_entry_eq]
  generalize (lg_sl ([.ref (tr_ad w 0), .int tv900, .int tv901]) ++ List.replicate (3 - (lg_sl ([.ref (tr_ad w 0), .int tv900, .int tv901])).length) Slot.unset).toArray = ls at hl ⊢
  have hl : lv_has ls 3 [(0, .ref (tr_ad w 0)), (1, .int tv900), (2, .int tv901)] := hl
  replace hk : tr_ok (f_X7_isOver tv900 tv901 h) (fun o => o = (r0, h0)) := ⟨_, hk, rfl⟩
  unfold f_X7_isOver at hk
  refine lv_iload_n hx hb dX7_isOver_0 rfl (lv_at hl 2 rfl) ?_
  refine lv_iconst (v := 1) hx hb dX7_isOver_1 (by decide) ?_
  refine lv_icmp_lt (tgt := 27) hx hb dX7_isOver_2 (by decide) (fun tc1 => ?_) (fun tc1 => ?_)
  · replace hk := tr_ift hk tc1
    refine lv_iconst (v := 0) hx hb dX7_isOver_27 (by decide) ?_
    exact tr_zret C hP hS hr hlocks rfl (tr_okS (P := (fun o => o = (r0, h0))) hk) dX7_isOver_28
  · replace hk := tr_iff hk tc1
    refine lv_iload_n hx hb dX7_isOver_5 rfl (lv_at hl 2 rfl) ?_
    refine lv_bipush (v := 30) hx hb dX7_isOver_6 (by decide) ?_
    refine lv_icmp_gt (tgt := 27) hx hb dX7_isOver_8 (by decide) (fun tc2 => ?_) (fun tc2 => ?_)
    · replace hk := tr_ift hk tc2
      refine lv_iconst (v := 0) hx hb dX7_isOver_27 (by decide) ?_
      exact tr_zret C hP hS hr hlocks rfl (tr_okS (P := (fun o => o = (r0, h0))) hk) dX7_isOver_28
    · replace hk := tr_iff hk tc2
      refine lv_aload_n hx hb dX7_isOver_11 rfl (lv_at hl 0 rfl) ?_
      refine gf_X7_55 C hP dX7_isOver_12 ?_
      refine lv_aload_n hx hb dX7_isOver_15 rfl (lv_at hl 0 rfl) ?_
      refine gf_X7_20 C hP dX7_isOver_16 ?_
      refine lv_bipush (v := 10) hx hb dX7_isOver_19 (by decide) ?_
      obtain ⟨tv4, th5, tq3, hk⟩ := tr_okb2 hk
      refine tr_cvi (As := [.ref (tr_ad w 4), .int 10]) (rest := []) C hP hS hl (c_X6_isKept l w 4 tr_net_4 10 h tv4 th5 tq3) mz_X6_isKept ml_X7_142 (by decide) rfl rfl rfl rfl ⟨Nat.le_of_ble_eq_true rfl, Nat.le_of_ble_eq_true rfl⟩ rfl rfl (Nat.le_of_ble_eq_true rfl) ⟨Nat.le_refl _, Nat.le_refl _⟩ dX7_isOver_21 (fun H locs hP hS => ?_)
      refine lv_if_ne (tgt := 29) hx hb dX7_isOver_24 (by decide) (fun tc6 => ?_) (fun tc6 => ?_)
      · replace hk := tr_iff hk tc6
        refine lv_aload_n hx hb dX7_isOver_29 rfl (lv_at hl 0 rfl) ?_
        refine lv_aload_n hx hb dX7_isOver_30 rfl (lv_at hl 0 rfl) ?_
        refine gf_X7_20 C hP dX7_isOver_31 ?_
        refine lv_iload_n hx hb dX7_isOver_34 rfl (lv_at hl 1 rfl) ?_
        refine lv_iload_n hx hb dX7_isOver_35 rfl (lv_at hl 2 rfl) ?_
        refine lv_bipush (v := 10) hx hb dX7_isOver_36 (by decide) ?_
        obtain ⟨tv8, th9, tq7, hk⟩ := tr_okb2 hk
        refine tr_cvi (As := [.ref (tr_ad w 4), .int tv900, .int tv901, .int 10]) (rest := []) C hP hS hl (c_X7_lastsUntil l w 4 tr_net_4 tv900 tv901 10 th5 tv8 th9 tq7) mz_X7_lastsUntil ml_X7_164 (by decide) rfl rfl rfl rfl ⟨Nat.le_of_ble_eq_true rfl, Nat.le_of_ble_eq_true rfl⟩ rfl rfl (Nat.le_of_ble_eq_true rfl) ⟨Nat.le_refl _, Nat.le_refl _⟩ dX7_isOver_38 (fun H locs hP hS => ?_)
        refine lv_bipush (v := (-9)) hx hb dX7_isOver_41 (by decide) ?_
        refine lv_icmp_eq (tgt := 50) hx hb dX7_isOver_43 (by decide) (fun tc10 => ?_) (fun tc10 => ?_)
        · replace hk := tr_ift hk tc10
          refine lv_iconst (v := 0) hx hb dX7_isOver_50 (by decide) ?_
          exact tr_zret C hP hS hr hlocks rfl (tr_okS (P := (fun o => o = (r0, h0))) hk) dX7_isOver_51
        · replace hk := tr_iff hk tc10
          refine lv_iconst (v := 1) hx hb dX7_isOver_46 (by decide) ?_
          refine lv_goto (tgt := 51) hx hb dX7_isOver_47 (by decide) ?_
          exact tr_zret C hP hS hr hlocks rfl (tr_okS (P := (fun o => o = (r0, h0))) hk) dX7_isOver_51
      · replace hk := tr_ift hk tc6
        refine lv_iconst (v := 0) hx hb dX7_isOver_27 (by decide) ?_
        exact tr_zret C hP hS hr hlocks rfl (tr_okS (P := (fun o => o = (r0, h0))) hk) dX7_isOver_28
abbrev r_X7_holds : Room := { frames := 6, cells := 0, slots := 0, locals := 142 }
set_option maxHeartbeats 4000000 in
set_option maxRecDepth 100000 in
theorem c_X7_holds (l : Launch) (w : tr_E) (tv900 : Int32) (h : tr_H) (r0 : Int32) (h0 : tr_H) (hk : f_X7_holds tv900 h = some (r0, h0)) : Met l yX7_holds (Cond.code yX7_holds cX7_holds 7 (some .boolean) :: tr_T) r_X7_holds (va_Pc [.ref (tr_ad w 0), .int tv900] (tr_Wo tr_X w h)) (tr_Qi tr_X w r0 h0) 0 0 (tr_R tr_X w) := by
  refine tr_start (by decide) (Nat.le_refl _) ?_
  intro p e s m args below meth c C hr hlocks hargs hP
  have hx := C.1
  have hb := C.2.1
  have hS : va_S (tr_R tr_X w) s.heap s.heap [] := va_S.rf
  have hl := lv_entry ([.ref (tr_ad w 0), .int tv900]) (n := 7) (Nat.le_of_ble_eq_true rfl)
  rw [lg_entry_eq]
  generalize (lg_sl ([.ref (tr_ad w 0), .int tv900]) ++ List.replicate (7 - (lg_sl ([.ref (tr_ad w 0), .int tv900])).length) Slot.unset).toArray = ls at hl ⊢
  have hl : lv_has ls 7 [(0, .ref (tr_ad w 0)), (1, .int tv900)] := hl
  replace hk : tr_ok (f_X7_holds tv900 h) (fun o => o = (r0, h0)) := ⟨_, hk, rfl⟩
  unfold f_X7_holds at hk
  refine lv_iload_n hx hb dX7_holds_0 rfl (lv_at hl 1 rfl) ?_
  refine lv_bipush (v := 100) hx hb dX7_holds_1 (by decide) ?_
  refine lv_idiv hx hb dX7_holds_3 (by decide) ?_
  refine lv_bipush (v := 10) hx hb dX7_holds_4 (by decide) ?_
  refine lv_irem hx hb dX7_holds_6 (by decide) ?_
  refine tr_ti hk (fun tv1 hk => ?_)
  refine lv_istore_n (lv' := [(2, .int tv1), (0, .ref (tr_ad w 0)), (1, .int tv900)]) hx hb dX7_holds_7 rfl hl (by decide) rfl (fun ls hl => ?_)
  refine lv_iload_n hx hb dX7_holds_8 rfl (lv_at hl 2 rfl) ?_
  refine lv_bipush (v := 10) hx hb dX7_holds_9 (by decide) ?_
  refine lv_idiv hx hb dX7_holds_11 (by decide) ?_
  refine lv_bipush (v := 10) hx hb dX7_holds_12 (by decide) ?_
  refine lv_irem hx hb dX7_holds_14 (by decide) ?_
  refine tr_ti hk (fun tv2 hk => ?_)
  refine lv_istore_n (lv' := [(3, .int tv2), (2, .int tv1), (0, .ref (tr_ad w 0)), (1, .int tv900)]) hx hb dX7_holds_15 rfl hl (by decide) rfl (fun ls hl => ?_)
  refine lv_iload_n hx hb dX7_holds_16 rfl (lv_at hl 3 rfl) ?_
  refine lv_bipush (v := 10) hx hb dX7_holds_17 (by decide) ?_
  refine lv_irem hx hb dX7_holds_19 (by decide) ?_
  refine tr_ti hk (fun tv3 hk => ?_)
  refine lv_istore (lv' := [(4, .int tv3), (3, .int tv2), (2, .int tv1), (0, .ref (tr_ad w 0)), (1, .int tv900)]) hx hb dX7_holds_20 hl (by decide) rfl (fun ls hl => ?_)
  refine lv_bipush (v := 10) hx hb dX7_holds_22 (by decide) ?_
  refine lv_iload_n hx hb dX7_holds_24 rfl (lv_at hl 1 rfl) ?_
  refine lv_imul hx hb dX7_holds_25 ?_
  refine lv_iload hx hb dX7_holds_26 (lv_at hl 0 rfl) ?_
  refine lv_iadd hx hb dX7_holds_28 ?_
  refine tr_ti hk (fun tv4 hk => ?_)
  refine lv_istore (lv' := [(5, .int tv4), (4, .int tv3), (3, .int tv2), (2, .int tv1), (0, .ref (tr_ad w 0)), (1, .int tv900)]) hx hb dX7_holds_29 hl (by decide) rfl (fun ls hl => ?_)
  refine lv_aload_n hx hb dX7_holds_31 rfl (lv_at hl 4 rfl) ?_
  refine gf_X7_20 C hP dX7_holds_32 ?_
  refine lv_iload_n hx hb dX7_holds_35 rfl (lv_at hl 3 rfl) ?_
  refine lv_iload_n hx hb dX7_holds_36 rfl (lv_at hl 2 rfl) ?_
  obtain ⟨tv6, tq5, hk⟩ := tr_okb hk
  refine tr_cvi (As := [.int tv1, .int tv2]) (rest := []) C hP hS hl (c_X2_of l w 4 tr_net_4 tv1 tv2 h tv6 tq5) mz_X2_of ml_X7_116 (by decide) rfl rfl rfl rfl ⟨Nat.le_of_ble_eq_true rfl, Nat.le_of_ble_eq_true rfl⟩ rfl rfl (Nat.le_of_ble_eq_true rfl) ⟨Nat.le_refl _, Nat.le_refl _⟩ dX7_holds_37 (fun H locs hP hS => ?_)
  refine lv_bipush (v := (-9)) hx hb dX7_holds_40 (by decide) ?_
  have j50 : ∀ (tv7 : Int32), tr_ok (f_X7_holds_J50 tv900 tv1 h tv2 tv3 tv4 tv7) (fun o => o = (r0, h0)) → tr_Wd p l e r_X7_holds s m args below meth c (MQ below (tr_Qi tr_X w r0 h0) args s 0 0 (tr_R tr_X w)) tr_X w 7 50 [(0, .ref (tr_ad w 0)), (1, .int tv900), (2, .int tv1), (3, .int tv2), (4, .int tv3), (5, .int tv4)] [.int tv7] h := by
    intro tv7 hk H locs ls hP hS hl
    unfold f_X7_holds_J50 at hk
    refine lv_istore (lv' := [(6, .int tv7), (0, .ref (tr_ad w 0)), (1, .int tv900), (2, .int tv1), (3, .int tv2), (4, .int tv3), (5, .int tv4)]) hx hb dX7_holds_50 hl (by decide) rfl (fun ls hl => ?_)
    refine lv_iload_n hx hb dX7_holds_52 rfl (lv_at hl 2 rfl) ?_
    refine lv_sipush (v := 1000) hx hb dX7_holds_53 (by decide) ?_
    refine lv_idiv hx hb dX7_holds_56 (by decide) ?_
    refine tr_ti hk (fun tv8 hk => ?_)
    rcases Decidable.em (tv8 = 1) with tc9 | tc9
    · replace hk := tr_ift hk tc9
      refine lv_tableIn (tgt := 100) hx hb dX7_holds_57 (by rw [tc9]; decide) (by rw [tc9]; decide) (by rw [tc9]; rfl) (by decide) ?_
      refine lv_aload_n hx hb dX7_holds_100 rfl (lv_at hl 1 rfl) ?_
      refine gf_X7_20 C hP dX7_holds_101 ?_
      refine lv_iload_n hx hb dX7_holds_104 rfl (lv_at hl 3 rfl) ?_
      obtain ⟨tv11, tq10, hk⟩ := tr_okb hk
      refine tr_cvi (As := [.int tv1]) (rest := []) C hP hS hl (c_X2_has l w 4 tr_net_4 tv1 h tv11 tq10) mz_X2_has ml_X7_112 (by decide) rfl rfl rfl rfl ⟨Nat.le_of_ble_eq_true rfl, Nat.le_of_ble_eq_true rfl⟩ rfl rfl (Nat.le_of_ble_eq_true rfl) ⟨Nat.le_refl _, Nat.le_refl _⟩ dX7_holds_105 (fun H locs hP hS => ?_)
      refine lv_if_eq (tgt := 145) hx hb dX7_holds_108 (by decide) (fun tc12 => ?_) (fun tc12 => ?_)
      · replace hk := tr_ift hk tc12
        refine lv_iconst (v := 0) hx hb dX7_holds_145 (by decide) ?_
        exact tr_zret C hP hS hr hlocks rfl (tr_okS (P := (fun o => o = (r0, h0))) hk) dX7_holds_146
      · replace hk := tr_iff hk tc12
        refine lv_aload_n hx hb dX7_holds_111 rfl (lv_at hl 1 rfl) ?_
        refine gf_X7_20 C hP dX7_holds_112 ?_
        refine lv_iload_n hx hb dX7_holds_115 rfl (lv_at hl 4 rfl) ?_
        obtain ⟨tv14, tq13, hk⟩ := tr_okb hk
        refine tr_cvi (As := [.int tv2]) (rest := []) C hP hS hl (c_X2_has l w 4 tr_net_4 tv2 h tv14 tq13) mz_X2_has ml_X7_112 (by decide) rfl rfl rfl rfl ⟨Nat.le_of_ble_eq_true rfl, Nat.le_of_ble_eq_true rfl⟩ rfl rfl (Nat.le_of_ble_eq_true rfl) ⟨Nat.le_refl _, Nat.le_refl _⟩ dX7_holds_116 (fun H locs hP hS => ?_)
        refine lv_if_eq (tgt := 145) hx hb dX7_holds_119 (by decide) (fun tc15 => ?_) (fun tc15 => ?_)
        · replace hk := tr_ift hk tc15
          refine lv_iconst (v := 0) hx hb dX7_holds_145 (by decide) ?_
          exact tr_zret C hP hS hr hlocks rfl (tr_okS (P := (fun o => o = (r0, h0))) hk) dX7_holds_146
        · replace hk := tr_iff hk tc15
          refine lv_iload hx hb dX7_holds_122 (lv_at hl 0 rfl) ?_
          refine lv_if_ne (tgt := 145) hx hb dX7_holds_124 (by decide) (fun tc16 => ?_) (fun tc16 => ?_)
          · replace hk := tr_iff hk tc16
            refine lv_iconst (v := 0) hx hb dX7_holds_145 (by decide) ?_
            exact tr_zret C hP hS hr hlocks rfl (tr_okS (P := (fun o => o = (r0, h0))) hk) dX7_holds_146
          · replace hk := tr_ift hk tc16
            refine lv_aload_n hx hb dX7_holds_127 rfl (lv_at hl 1 rfl) ?_
            refine gf_X7_20 C hP dX7_holds_128 ?_
            refine lv_iload_n hx hb dX7_holds_131 rfl (lv_at hl 3 rfl) ?_
            refine lv_iload_n hx hb dX7_holds_132 rfl (lv_at hl 4 rfl) ?_
            refine lv_iload hx hb dX7_holds_133 (lv_at hl 5 rfl) ?_
            obtain ⟨tv18, th19, tq17, hk⟩ := tr_okb2 hk
            refine tr_cvi (As := [.int tv1, .int tv2, .int tv3]) (rest := []) C hP hS hl (c_X2_lay l w 4 tr_net_4 tv1 tv2 tv3 h tv18 th19 tq17) mz_X2_lay ml_X7_169 (by decide) rfl rfl rfl rfl ⟨Nat.le_of_ble_eq_true rfl, Nat.le_of_ble_eq_true rfl⟩ rfl rfl (Nat.le_of_ble_eq_true rfl) ⟨Nat.le_refl _, Nat.le_refl _⟩ dX7_holds_135 (fun H locs hP hS => ?_)
            refine lv_if_eq (tgt := 145) hx hb dX7_holds_138 (by decide) (fun tc20 => ?_) (fun tc20 => ?_)
            · replace hk := tr_ift hk tc20
              refine lv_iconst (v := 0) hx hb dX7_holds_145 (by decide) ?_
              exact tr_zret C hP hS hr hlocks rfl (tr_okS (P := (fun o => o = (r0, h0))) hk) dX7_holds_146
            · replace hk := tr_iff hk tc20
              refine lv_iconst (v := 1) hx hb dX7_holds_141 (by decide) ?_
              refine lv_goto (tgt := 146) hx hb dX7_holds_142 (by decide) ?_
              exact tr_zret C hP hS hr hlocks rfl (tr_okS (P := (fun o => o = (r0, h0))) hk) dX7_holds_146
    replace hk := tr_iff hk tc9
    rcases Decidable.em (tv8 = 2) with tc21 | tc21
    · replace hk := tr_ift hk tc21
      refine lv_tableIn (tgt := 147) hx hb dX7_holds_57 (by rw [tc21]; decide) (by rw [tc21]; decide) (by rw [tc21]; rfl) (by decide) ?_
      refine lv_iload hx hb dX7_holds_147 (lv_at hl 0 rfl) ?_
      refine lv_if_eq (tgt := 175) hx hb dX7_holds_149 (by decide) (fun tc22 => ?_) (fun tc22 => ?_)
      · replace hk := tr_ift hk tc22
        refine lv_iconst (v := 0) hx hb dX7_holds_175 (by decide) ?_
        exact tr_zret C hP hS hr hlocks rfl (tr_okS (P := (fun o => o = (r0, h0))) hk) dX7_holds_176
      · replace hk := tr_iff hk tc22
        refine lv_iload hx hb dX7_holds_152 (lv_at hl 5 rfl) ?_
        refine lv_if_ne (tgt := 175) hx hb dX7_holds_154 (by decide) (fun tc23 => ?_) (fun tc23 => ?_)
        · replace hk := tr_iff hk tc23
          refine lv_iconst (v := 0) hx hb dX7_holds_175 (by decide) ?_
          exact tr_zret C hP hS hr hlocks rfl (tr_okS (P := (fun o => o = (r0, h0))) hk) dX7_holds_176
        · replace hk := tr_ift hk tc23
          refine lv_aload_n hx hb dX7_holds_157 rfl (lv_at hl 1 rfl) ?_
          refine gf_X7_20 C hP dX7_holds_158 ?_
          refine lv_iload_n hx hb dX7_holds_161 rfl (lv_at hl 3 rfl) ?_
          refine lv_iload_n hx hb dX7_holds_162 rfl (lv_at hl 4 rfl) ?_
          refine lv_bipush (v := (-9)) hx hb dX7_holds_163 (by decide) ?_
          obtain ⟨tv25, th26, tq24, hk⟩ := tr_okb2 hk
          refine tr_cvi (As := [.int tv1, .int tv2, .int (-9)]) (rest := []) C hP hS hl (c_X2_lay l w 4 tr_net_4 tv1 tv2 (-9) h tv25 th26 tq24) mz_X2_lay ml_X7_169 (by decide) rfl rfl rfl rfl ⟨Nat.le_of_ble_eq_true rfl, Nat.le_of_ble_eq_true rfl⟩ rfl rfl (Nat.le_of_ble_eq_true rfl) ⟨Nat.le_refl _, Nat.le_refl _⟩ dX7_holds_165 (fun H locs hP hS => ?_)
          refine lv_if_eq (tgt := 175) hx hb dX7_holds_168 (by decide) (fun tc27 => ?_) (fun tc27 => ?_)
          · replace hk := tr_ift hk tc27
            refine lv_iconst (v := 0) hx hb dX7_holds_175 (by decide) ?_
            exact tr_zret C hP hS hr hlocks rfl (tr_okS (P := (fun o => o = (r0, h0))) hk) dX7_holds_176
          · replace hk := tr_iff hk tc27
            refine lv_iconst (v := 1) hx hb dX7_holds_171 (by decide) ?_
            refine lv_goto (tgt := 176) hx hb dX7_holds_172 (by decide) ?_
            exact tr_zret C hP hS hr hlocks rfl (tr_okS (P := (fun o => o = (r0, h0))) hk) dX7_holds_176
    replace hk := tr_iff hk tc21
    rcases Decidable.em (tv8 = 3) with tc28 | tc28
    · replace hk := tr_ift hk tc28
      refine lv_tableIn (tgt := 177) hx hb dX7_holds_57 (by rw [tc28]; decide) (by rw [tc28]; decide) (by rw [tc28]; rfl) (by decide) ?_
      refine lv_iload hx hb dX7_holds_177 (lv_at hl 0 rfl) ?_
      refine lv_if_eq (tgt := 200) hx hb dX7_holds_179 (by decide) (fun tc29 => ?_) (fun tc29 => ?_)
      · replace hk := tr_ift hk tc29
        refine lv_iconst (v := 0) hx hb dX7_holds_200 (by decide) ?_
        exact tr_zret C hP hS hr hlocks rfl (tr_okS (P := (fun o => o = (r0, h0))) hk) dX7_holds_201
      · replace hk := tr_iff hk tc29
        refine lv_aload_n hx hb dX7_holds_182 rfl (lv_at hl 1 rfl) ?_
        refine gf_X7_20 C hP dX7_holds_183 ?_
        refine lv_iload_n hx hb dX7_holds_186 rfl (lv_at hl 3 rfl) ?_
        refine lv_iload_n hx hb dX7_holds_187 rfl (lv_at hl 4 rfl) ?_
        refine lv_iload hx hb dX7_holds_188 (lv_at hl 5 rfl) ?_
        obtain ⟨tv31, th32, tq30, hk⟩ := tr_okb2 hk
        refine tr_cvi (As := [.int tv1, .int tv2, .int tv3]) (rest := []) C hP hS hl (c_X2_lay l w 4 tr_net_4 tv1 tv2 tv3 h tv31 th32 tq30) mz_X2_lay ml_X7_169 (by decide) rfl rfl rfl rfl ⟨Nat.le_of_ble_eq_true rfl, Nat.le_of_ble_eq_true rfl⟩ rfl rfl (Nat.le_of_ble_eq_true rfl) ⟨Nat.le_refl _, Nat.le_refl _⟩ dX7_holds_190 (fun H locs hP hS => ?_)
        refine lv_if_eq (tgt := 200) hx hb dX7_holds_193 (by decide) (fun tc33 => ?_) (fun tc33 => ?_)
        · replace hk := tr_ift hk tc33
          refine lv_iconst (v := 0) hx hb dX7_holds_200 (by decide) ?_
          exact tr_zret C hP hS hr hlocks rfl (tr_okS (P := (fun o => o = (r0, h0))) hk) dX7_holds_201
        · replace hk := tr_iff hk tc33
          refine lv_iconst (v := 1) hx hb dX7_holds_196 (by decide) ?_
          refine lv_goto (tgt := 201) hx hb dX7_holds_197 (by decide) ?_
          exact tr_zret C hP hS hr hlocks rfl (tr_okS (P := (fun o => o = (r0, h0))) hk) dX7_holds_201
    replace hk := tr_iff hk tc28
    rcases Decidable.em (tv8 = 4) with tc34 | tc34
    · replace hk := tr_ift hk tc34
      refine lv_tableIn (tgt := 202) hx hb dX7_holds_57 (by rw [tc34]; decide) (by rw [tc34]; decide) (by rw [tc34]; rfl) (by decide) ?_
      refine lv_iload_n hx hb dX7_holds_202 rfl (lv_at hl 3 rfl) ?_
      refine lv_if_ne (tgt := 233) hx hb dX7_holds_203 (by decide) (fun tc35 => ?_) (fun tc35 => ?_)
      · replace hk := tr_iff hk tc35
        refine lv_iconst (v := 0) hx hb dX7_holds_233 (by decide) ?_
        exact tr_zret C hP hS hr hlocks rfl (tr_okS (P := (fun o => o = (r0, h0))) hk) dX7_holds_234
      · replace hk := tr_ift hk tc35
        refine lv_iload hx hb dX7_holds_206 (lv_at hl 6 rfl) ?_
        refine lv_bipush (v := 20) hx hb dX7_holds_208 (by decide) ?_
        refine lv_icmp_gt (tgt := 233) hx hb dX7_holds_210 (by decide) (fun tc36 => ?_) (fun tc36 => ?_)
        · replace hk := tr_ift hk tc36
          refine lv_iconst (v := 0) hx hb dX7_holds_233 (by decide) ?_
          exact tr_zret C hP hS hr hlocks rfl (tr_okS (P := (fun o => o = (r0, h0))) hk) dX7_holds_234
        · replace hk := tr_iff hk tc36
          refine lv_aload_n hx hb dX7_holds_213 rfl (lv_at hl 1 rfl) ?_
          refine gf_X7_55 C hP dX7_holds_214 ?_
          refine lv_aload_n hx hb dX7_holds_217 rfl (lv_at hl 1 rfl) ?_
          refine gf_X7_20 C hP dX7_holds_218 ?_
          refine lv_iload hx hb dX7_holds_221 (lv_at hl 6 rfl) ?_
          obtain ⟨tv38, th39, tq37, hk⟩ := tr_okb2 hk
          refine tr_cvi (As := [.ref (tr_ad w 4), .int tv4]) (rest := []) C hP hS hl (c_X6_isKept l w 4 tr_net_4 tv4 h tv38 th39 tq37) mz_X6_isKept ml_X7_142 (by decide) rfl rfl rfl rfl ⟨Nat.le_of_ble_eq_true rfl, Nat.le_of_ble_eq_true rfl⟩ rfl rfl (Nat.le_of_ble_eq_true rfl) ⟨Nat.le_refl _, Nat.le_refl _⟩ dX7_holds_223 (fun H locs hP hS => ?_)
          refine lv_if_eq (tgt := 233) hx hb dX7_holds_226 (by decide) (fun tc40 => ?_) (fun tc40 => ?_)
          · replace hk := tr_ift hk tc40
            refine lv_iconst (v := 0) hx hb dX7_holds_233 (by decide) ?_
            exact tr_zret C hP hS hr hlocks rfl (tr_okS (P := (fun o => o = (r0, h0))) hk) dX7_holds_234
          · replace hk := tr_iff hk tc40
            refine lv_iconst (v := 1) hx hb dX7_holds_229 (by decide) ?_
            refine lv_goto (tgt := 234) hx hb dX7_holds_230 (by decide) ?_
            exact tr_zret C hP hS hr hlocks rfl (tr_okS (P := (fun o => o = (r0, h0))) hk) dX7_holds_234
    replace hk := tr_iff hk tc34
    rcases Decidable.em (tv8 = 5) with tc41 | tc41
    · replace hk := tr_ift hk tc41
      refine lv_tableIn (tgt := 235) hx hb dX7_holds_57 (by rw [tc41]; decide) (by rw [tc41]; decide) (by rw [tc41]; rfl) (by decide) ?_
      refine lv_aload_n hx hb dX7_holds_235 rfl (lv_at hl 1 rfl) ?_
      refine gf_X7_55 C hP dX7_holds_236 ?_
      refine lv_aload_n hx hb dX7_holds_239 rfl (lv_at hl 1 rfl) ?_
      refine gf_X7_20 C hP dX7_holds_240 ?_
      obtain ⟨th43, tq42, hk⟩ := tr_okb hk
      refine tr_cvv (As := [.ref (tr_ad w 4)]) (rest := []) C hP hS hl (c_X6_compare l w 4 tr_net_4 h th43 tq42) mz_X6_compare ml_X7_135 (by decide) rfl rfl rfl rfl ⟨Nat.le_of_ble_eq_true rfl, Nat.le_of_ble_eq_true rfl⟩ rfl rfl (Nat.le_of_ble_eq_true rfl) ⟨Nat.le_refl _, Nat.le_refl _⟩ dX7_holds_243 (fun H locs hP hS => ?_)
      refine lv_iload hx hb dX7_holds_246 (lv_at hl 5 rfl) ?_
      refine lv_if_ne (tgt := 271) hx hb dX7_holds_248 (by decide) (fun tc44 => ?_) (fun tc44 => ?_)
      · replace hk := tr_iff hk tc44
        refine lv_iconst (v := 0) hx hb dX7_holds_271 (by decide) ?_
        exact tr_zret C hP hS hr hlocks rfl (tr_okS (P := (fun o => o = (r0, h0))) hk) dX7_holds_272
      · replace hk := tr_ift hk tc44
        refine lv_aload_n hx hb dX7_holds_251 rfl (lv_at hl 1 rfl) ?_
        refine gf_X7_55 C hP dX7_holds_252 ?_
        refine lv_aload_n hx hb dX7_holds_255 rfl (lv_at hl 1 rfl) ?_
        refine gf_X7_20 C hP dX7_holds_256 ?_
        refine lv_iload_n hx hb dX7_holds_259 rfl (lv_at hl 3 rfl) ?_
        refine lv_iload_n hx hb dX7_holds_260 rfl (lv_at hl 4 rfl) ?_
        obtain ⟨tv46, tq45, hk⟩ := tr_okb hk
        refine tr_cvi (As := [.ref (tr_ad w 4), .int tv1, .int tv2]) (rest := []) C hP hS hl (c_X6_isCritical l w 4 tr_net_4 tv1 tv2 th43 tv46 tq45) mz_X6_isCritical ml_X7_138 (by decide) rfl rfl rfl rfl ⟨Nat.le_of_ble_eq_true rfl, Nat.le_of_ble_eq_true rfl⟩ rfl rfl (Nat.le_of_ble_eq_true rfl) ⟨Nat.le_refl _, Nat.le_refl _⟩ dX7_holds_261 (fun H locs hP hS => ?_)
        refine lv_if_eq (tgt := 271) hx hb dX7_holds_264 (by decide) (fun tc47 => ?_) (fun tc47 => ?_)
        · replace hk := tr_ift hk tc47
          refine lv_iconst (v := 0) hx hb dX7_holds_271 (by decide) ?_
          exact tr_zret C hP hS hr hlocks rfl (tr_okS (P := (fun o => o = (r0, h0))) hk) dX7_holds_272
        · replace hk := tr_iff hk tc47
          refine lv_iconst (v := 1) hx hb dX7_holds_267 (by decide) ?_
          refine lv_goto (tgt := 272) hx hb dX7_holds_268 (by decide) ?_
          exact tr_zret C hP hS hr hlocks rfl (tr_okS (P := (fun o => o = (r0, h0))) hk) dX7_holds_272
    replace hk := tr_iff hk tc41
    rcases Decidable.em (tv8 = 6) with tc48 | tc48
    · replace hk := tr_ift hk tc48
      refine lv_tableIn (tgt := 273) hx hb dX7_holds_57 (by rw [tc48]; decide) (by rw [tc48]; decide) (by rw [tc48]; rfl) (by decide) ?_
      refine lv_aload_n hx hb dX7_holds_273 rfl (lv_at hl 1 rfl) ?_
      refine gf_X7_20 C hP dX7_holds_274 ?_
      refine lv_iload_n hx hb dX7_holds_277 rfl (lv_at hl 3 rfl) ?_
      obtain ⟨tv50, tq49, hk⟩ := tr_okb hk
      refine tr_cvi (As := [.int tv1]) (rest := []) C hP hS hl (c_X2_has l w 4 tr_net_4 tv1 h tv50 tq49) mz_X2_has ml_X7_112 (by decide) rfl rfl rfl rfl ⟨Nat.le_of_ble_eq_true rfl, Nat.le_of_ble_eq_true rfl⟩ rfl rfl (Nat.le_of_ble_eq_true rfl) ⟨Nat.le_refl _, Nat.le_refl _⟩ dX7_holds_278 (fun H locs hP hS => ?_)
      refine lv_if_eq (tgt := 298) hx hb dX7_holds_281 (by decide) (fun tc51 => ?_) (fun tc51 => ?_)
      · replace hk := tr_ift hk tc51
        refine lv_iconst (v := 0) hx hb dX7_holds_298 (by decide) ?_
        exact tr_zret C hP hS hr hlocks rfl (tr_okS (P := (fun o => o = (r0, h0))) hk) dX7_holds_299
      · replace hk := tr_iff hk tc51
        refine lv_aload_n hx hb dX7_holds_284 rfl (lv_at hl 1 rfl) ?_
        refine lv_iload_n hx hb dX7_holds_285 rfl (lv_at hl 3 rfl) ?_
        refine lv_iload hx hb dX7_holds_286 (lv_at hl 6 rfl) ?_
        obtain ⟨tv53, th54, tq52, hk⟩ := tr_okb2 hk
        refine tr_cvi (As := [.int tv1, .int tv4]) (rest := []) C hP hS hl (c_X7_departsAt l w tv1 tv4 h tv53 th54 tq52) mz_X7_departsAt ml_X7_222 (by decide) rfl rfl rfl rfl ⟨Nat.le_of_ble_eq_true rfl, Nat.le_of_ble_eq_true rfl⟩ rfl rfl (Nat.le_of_ble_eq_true rfl) ⟨Nat.le_refl _, Nat.le_refl _⟩ dX7_holds_288 (fun H locs hP hS => ?_)
        refine lv_if_eq (tgt := 298) hx hb dX7_holds_291 (by decide) (fun tc55 => ?_) (fun tc55 => ?_)
        · replace hk := tr_ift hk tc55
          refine lv_iconst (v := 0) hx hb dX7_holds_298 (by decide) ?_
          exact tr_zret C hP hS hr hlocks rfl (tr_okS (P := (fun o => o = (r0, h0))) hk) dX7_holds_299
        · replace hk := tr_iff hk tc55
          refine lv_iconst (v := 1) hx hb dX7_holds_294 (by decide) ?_
          refine lv_goto (tgt := 299) hx hb dX7_holds_295 (by decide) ?_
          exact tr_zret C hP hS hr hlocks rfl (tr_okS (P := (fun o => o = (r0, h0))) hk) dX7_holds_299
    replace hk := tr_iff hk tc48
    rcases Decidable.em (tv8 = 7) with tc56 | tc56
    · replace hk := tr_ift hk tc56
      refine lv_tableIn (tgt := 300) hx hb dX7_holds_57 (by rw [tc56]; decide) (by rw [tc56]; decide) (by rw [tc56]; rfl) (by decide) ?_
      refine lv_aload_n hx hb dX7_holds_300 rfl (lv_at hl 1 rfl) ?_
      refine gf_X7_20 C hP dX7_holds_301 ?_
      refine lv_iload_n hx hb dX7_holds_304 rfl (lv_at hl 3 rfl) ?_
      obtain ⟨tv58, tq57, hk⟩ := tr_okb hk
      refine tr_cvi (As := [.int tv1]) (rest := []) C hP hS hl (c_X2_has l w 4 tr_net_4 tv1 h tv58 tq57) mz_X2_has ml_X7_112 (by decide) rfl rfl rfl rfl ⟨Nat.le_of_ble_eq_true rfl, Nat.le_of_ble_eq_true rfl⟩ rfl rfl (Nat.le_of_ble_eq_true rfl) ⟨Nat.le_refl _, Nat.le_refl _⟩ dX7_holds_305 (fun H locs hP hS => ?_)
      refine lv_if_eq (tgt := 325) hx hb dX7_holds_308 (by decide) (fun tc59 => ?_) (fun tc59 => ?_)
      · replace hk := tr_ift hk tc59
        refine lv_iconst (v := 0) hx hb dX7_holds_325 (by decide) ?_
        exact tr_zret C hP hS hr hlocks rfl (tr_okS (P := (fun o => o = (r0, h0))) hk) dX7_holds_326
      · replace hk := tr_iff hk tc59
        refine lv_aload_n hx hb dX7_holds_311 rfl (lv_at hl 1 rfl) ?_
        refine lv_iload_n hx hb dX7_holds_312 rfl (lv_at hl 3 rfl) ?_
        refine lv_iload hx hb dX7_holds_313 (lv_at hl 6 rfl) ?_
        obtain ⟨tv61, th62, tq60, hk⟩ := tr_okb2 hk
        refine tr_cvi (As := [.int tv1, .int tv4]) (rest := []) C hP hS hl (c_X7_isOver l w tv1 tv4 h tv61 th62 tq60) mz_X7_isOver ml_X7_225 (by decide) rfl rfl rfl rfl ⟨Nat.le_of_ble_eq_true rfl, Nat.le_of_ble_eq_true rfl⟩ rfl rfl (Nat.le_of_ble_eq_true rfl) ⟨Nat.le_refl _, Nat.le_refl _⟩ dX7_holds_315 (fun H locs hP hS => ?_)
        refine lv_if_eq (tgt := 325) hx hb dX7_holds_318 (by decide) (fun tc63 => ?_) (fun tc63 => ?_)
        · replace hk := tr_ift hk tc63
          refine lv_iconst (v := 0) hx hb dX7_holds_325 (by decide) ?_
          exact tr_zret C hP hS hr hlocks rfl (tr_okS (P := (fun o => o = (r0, h0))) hk) dX7_holds_326
        · replace hk := tr_iff hk tc63
          refine lv_iconst (v := 1) hx hb dX7_holds_321 (by decide) ?_
          refine lv_goto (tgt := 326) hx hb dX7_holds_322 (by decide) ?_
          exact tr_zret C hP hS hr hlocks rfl (tr_okS (P := (fun o => o = (r0, h0))) hk) dX7_holds_326
    replace hk := tr_iff hk tc56
    refine lv_tableOut (tgt := 327) hx hb dX7_holds_57 (tr_tso (fun k h1 h2 => by
      rcases (show k = 1 ∨ k = 2 ∨ k = 3 ∨ k = 4 ∨ k = 5 ∨ k = 6 ∨ k = 7 by omega) with rfl | rfl | rfl | rfl | rfl | rfl | rfl
      · exact tc9
      · exact tc21
      · exact tc28
      · exact tc34
      · exact tc41
      · exact tc48
      · exact tc56)) (by decide) ?_
    refine lv_iconst (v := 0) hx hb dX7_holds_327 (by decide) ?_
    exact tr_zret C hP hS hr hlocks rfl (tr_okS (P := (fun o => o = (r0, h0))) hk) dX7_holds_328
  refine lv_icmp_eq (tgt := 49) hx hb dX7_holds_42 (by decide) (fun tc64 => ?_) (fun tc64 => ?_)
  · replace hk := tr_ift hk tc64
    refine lv_iconst (v := 0) hx hb dX7_holds_49 (by decide) ?_
    exact j50 0 hk _ _ _ hP hS (lv_sub hl [4, 5, 3, 2, 1, 0] rfl)
  · replace hk := tr_iff hk tc64
    refine lv_iconst (v := 1) hx hb dX7_holds_45 (by decide) ?_
    refine lv_goto (tgt := 50) hx hb dX7_holds_46 (by decide) ?_
    exact j50 1 hk _ _ _ hP hS (lv_sub hl [4, 5, 3, 2, 1, 0] rfl)
abbrev r_X7_judge : Room := { frames := 7, cells := 0, slots := 0, locals := 168 }
set_option maxHeartbeats 4000000 in
set_option maxRecDepth 100000 in
theorem c_X7_judge (l : Launch) (w : tr_E) (tv900 : Int32) (tv901 : Int64) (h : tr_H) (r0 : Int32) (h0 : tr_H) (hk : f_X7_judge tv900 tv901 h = some (r0, h0)) : Met l yX7_judge (Cond.code yX7_judge cX7_judge 5 (some .int) :: tr_T) r_X7_judge (va_Pc [.ref (tr_ad w 0), .int tv900, .long tv901] (tr_Wo tr_X w h)) (tr_Qi tr_X w r0 h0) 0 0 (tr_R tr_X w) := by
  refine tr_start (by decide) (Nat.le_refl _) ?_
  intro p e s m args below meth c C hr hlocks hargs hP
  have hx := C.1
  have hb := C.2.1
  have hS : va_S (tr_R tr_X w) s.heap s.heap [] := va_S.rf
  have hl := lv_entry ([.ref (tr_ad w 0), .int tv900, .long tv901]) (n := 5) (Nat.le_of_ble_eq_true rfl)
  rw [lg_entry_eq]
  generalize (lg_sl ([.ref (tr_ad w 0), .int tv900, .long tv901]) ++ List.replicate (5 - (lg_sl ([.ref (tr_ad w 0), .int tv900, .long tv901])).length) Slot.unset).toArray = ls at hl ⊢
  have hl : lv_has ls 5 [(0, .ref (tr_ad w 0)), (1, .int tv900), (2, .long tv901)] := hl
  replace hk : tr_ok (f_X7_judge tv900 tv901 h) (fun o => o = (r0, h0)) := ⟨_, hk, rfl⟩
  unfold f_X7_judge at hk
  refine lv_iload_n hx hb dX7_judge_0 rfl (lv_at hl 1 rfl) ?_
  refine lv_iconst (v := 1) hx hb dX7_judge_1 (by decide) ?_
  refine lv_icmp_lt (tgt := 26) hx hb dX7_judge_2 (by decide) (fun tc1 => ?_) (fun tc1 => ?_)
  · replace hk := tr_ift hk tc1
    refine lv_bipush (v := (-2)) hx hb dX7_judge_26 (by decide) ?_
    exact tr_iret C hP hS hr hlocks (tr_okS (P := (fun o => o = (r0, h0))) hk) dX7_judge_28
  · replace hk := tr_iff hk tc1
    refine lv_iload_n hx hb dX7_judge_5 rfl (lv_at hl 1 rfl) ?_
    refine lv_iconst (v := 4) hx hb dX7_judge_6 (by decide) ?_
    refine lv_icmp_gt (tgt := 26) hx hb dX7_judge_7 (by decide) (fun tc2 => ?_) (fun tc2 => ?_)
    · replace hk := tr_ift hk tc2
      refine lv_bipush (v := (-2)) hx hb dX7_judge_26 (by decide) ?_
      exact tr_iret C hP hS hr hlocks (tr_okS (P := (fun o => o = (r0, h0))) hk) dX7_judge_28
    · replace hk := tr_iff hk tc2
      refine lv_lload_n hx hb dX7_judge_10 rfl (lv_at hl 2 rfl) ?_
      refine lv_lconst (v := 0) hx hb dX7_judge_11 (by decide) ?_
      refine W.lcmp hx hb dX7_judge_12 ?_
      refine lv_if_lt (tgt := 26) hx hb dX7_judge_13 (by decide) (fun tc3 => ?_) (fun tc3 => ?_)
      · replace hk := tr_ift hk tc3
        refine lv_bipush (v := (-2)) hx hb dX7_judge_26 (by decide) ?_
        exact tr_iret C hP hS hr hlocks (tr_okS (P := (fun o => o = (r0, h0))) hk) dX7_judge_28
      · replace hk := tr_iff hk tc3
        refine lv_lload_n hx hb dX7_judge_16 rfl (lv_at hl 2 rfl) ?_
        refine gs_X7_173 C hS dX7_judge_17 ?_
        refine lv_iload_n hx hb dX7_judge_20 rfl (lv_at hl 1 rfl) ?_
        obtain ⟨tg4, hk⟩ := tr_okg hk
        refine tr_s2 C hS tg4 dX7_judge_21 ?_
        refine W.lcmp hx hb dX7_judge_22 ?_
        refine lv_if_lt (tgt := 29) hx hb dX7_judge_23 (by decide) (fun tc5 => ?_) (fun tc5 => ?_)
        · replace hk := tr_ift hk tc5
          refine lv_aload_n hx hb dX7_judge_29 rfl (lv_at hl 0 rfl) ?_
          refine gf_X7_20 C hP dX7_judge_30 ?_
          refine lv_aload_n hx hb dX7_judge_33 rfl (lv_at hl 0 rfl) ?_
          refine gf_X7_16 C hP dX7_judge_34 ?_
          obtain ⟨th7, tq6, hk⟩ := tr_okb hk
          refine tr_cvv (As := [.ref (tr_ad w 2)]) (rest := []) C hP hS hl (c_X2_copyFrom l w 4 tr_net_4 2 tr_net_2 h th7 tq6) mz_X2_copyFrom ml_X7_81 (by decide) rfl rfl rfl rfl ⟨Nat.le_of_ble_eq_true rfl, Nat.le_of_ble_eq_true rfl⟩ rfl rfl (Nat.le_of_ble_eq_true rfl) ⟨Nat.le_refl _, Nat.le_refl _⟩ dX7_judge_37 (fun H locs hP hS => ?_)
          refine lv_iconst (v := 0) hx hb dX7_judge_40 (by decide) ?_
          refine lv_istore (lv' := [(4, .int 0), (0, .ref (tr_ad w 0)), (1, .int tv900), (2, .long tv901)]) hx hb dX7_judge_41 hl (by decide) rfl (fun ls hl => ?_)
          have j75_43 : ∀ (th8 : tr_H), tr_ok (f_X7_judge_E75 th8) (fun o => o = (r0, h0)) → tr_Wd p l e r_X7_judge s m args below meth c (MQ below (tr_Qi tr_X w r0 h0) args s 0 0 (tr_R tr_X w)) tr_X w 5 75 [] [] th8 := by
            intro th8 hk H locs ls hP hS hl
            unfold f_X7_judge_E75 at hk
            refine lv_bipush (v := (-9)) hx hb dX7_judge_75 (by decide) ?_
            exact tr_iret C hP hS hr hlocks (tr_okS (P := (fun o => o = (r0, h0))) hk) dX7_judge_77
          refine tr_loop (fun q => tr_Wd p l e r_X7_judge s m args below meth c (MQ below (tr_Qi tr_X w r0 h0) args s 0 0 (tr_R tr_X w)) tr_X w 5 43 [(0, .ref (tr_ad w 0)), (1, .int tv900), (2, .long tv901), (4, .int q.1)] [] q.2) hk ?_ _ _ _ hP hS (lv_sub hl [1, 2, 3, 0] rfl)
          intro P43 hin43 hex43 q hk
          obtain ⟨tv9, th10⟩ := q
          intro H locs ls hP hS hl
          replace hk : tr_ok (f_X7_judge_L43 tv900 tv901 tv9 th10) P43 := hk
          unfold f_X7_judge_L43 at hk
          refine lv_iload hx hb dX7_judge_43 (lv_at hl 3 rfl) ?_
          refine lv_iload_n hx hb dX7_judge_45 rfl (lv_at hl 1 rfl) ?_
          refine lv_icmp_ge (tgt := 75) hx hb dX7_judge_46 (by decide) (fun tc11 => ?_) (fun tc11 => ?_)
          · replace hk := tr_ift hk tc11
            replace hk := hex43 _ (tr_okS hk)
            replace hk : tr_ok (f_X7_judge_E75 th10) (fun o => o = (r0, h0)) := hk
            exact j75_43 th10 hk _ _ _ hP hS (lv_sub hl [] rfl)
          · replace hk := tr_iff hk tc11
            refine lv_aload_n hx hb dX7_judge_49 rfl (lv_at hl 0 rfl) ?_
            refine lv_lload_n hx hb dX7_judge_50 rfl (lv_at hl 2 rfl) ?_
            refine lv_iload_n hx hb dX7_judge_51 rfl (lv_at hl 1 rfl) ?_
            refine lv_iconst (v := 1) hx hb dX7_judge_52 (by decide) ?_
            refine lv_isub hx hb dX7_judge_53 ?_
            refine lv_iload hx hb dX7_judge_54 (lv_at hl 3 rfl) ?_
            refine lv_isub hx hb dX7_judge_56 ?_
            obtain ⟨tv13, tq12, hk⟩ := tr_okb hk
            refine tr_csi (As := [.long tv901, .int ((tv900 - 1) - tv9)]) (rest := [.ref (tr_ad w 0)]) C hP hS hl (c_X7_figuresOf l w tv901 ((tv900 - 1) - tv9) th10 tv13 tq12) mz_X7_figuresOf ml_X7_177 rfl rfl ⟨Nat.le_of_ble_eq_true rfl, Nat.le_of_ble_eq_true rfl⟩ rfl rfl (Nat.le_of_ble_eq_true rfl) ⟨Nat.le_refl _, Nat.le_refl _⟩ dX7_judge_57 (fun H locs hP hS => ?_)
            obtain ⟨tv15, th16, tq14, hk⟩ := tr_okb2 hk
            refine tr_cvi (As := [.int tv13]) (rest := []) C hP hS hl (c_X7_holds l w tv13 th10 tv15 th16 tq14) mz_X7_holds ml_X7_181 (by decide) rfl rfl rfl rfl ⟨Nat.le_of_ble_eq_true rfl, Nat.le_of_ble_eq_true rfl⟩ rfl rfl (Nat.le_of_ble_eq_true rfl) ⟨Nat.le_refl _, Nat.le_refl _⟩ dX7_judge_60 (fun H locs hP hS => ?_)
            refine lv_if_ne (tgt := 69) hx hb dX7_judge_63 (by decide) (fun tc17 => ?_) (fun tc17 => ?_)
            · replace hk := tr_iff hk tc17
              obtain ⟨tv18, etv18, hk⟩ := tr_okd hk
              refine lv_iinc (v := tv18) (lv' := [(4, .int tv18), (0, .ref (tr_ad w 0)), (1, .int tv900), (2, .long tv901)]) hx hb dX7_judge_69 hl (k := 3) rfl (by rw [etv18]; rfl) (by decide) rfl (fun ls hl => ?_)
              refine lv_goto (tgt := 43) hx hb dX7_judge_72 (by decide) ?_
              exact hin43 _ (tr_okS hk) _ _ _ hP hS (lv_sub hl [1, 2, 3, 0] rfl)
            · replace hk := tr_ift hk tc17
              refine lv_iload hx hb dX7_judge_66 (lv_at hl 3 rfl) ?_
              replace hk := hex43 _ (tr_okS hk)
              replace hk : tr_ok (some (tv9, th16)) (fun o => o = (r0, h0)) := hk
              exact tr_iret C hP hS hr hlocks (tr_okS (P := (fun o => o = (r0, h0))) hk) dX7_judge_68
        · replace hk := tr_iff hk tc5
          refine lv_bipush (v := (-2)) hx hb dX7_judge_26 (by decide) ?_
          exact tr_iret C hP hS hr hlocks (tr_okS (P := (fun o => o = (r0, h0))) hk) dX7_judge_28
abbrev r_X7_share : Room := { frames := 3, cells := 0, slots := 0, locals := 75 }
set_option maxHeartbeats 4000000 in
set_option maxRecDepth 100000 in
theorem c_X7_share (l : Launch) (w : tr_E) (tv900 : Int32) (tv901 : Int32) (h : tr_H) (r0 : Int32) (h0 : tr_H) (hk : f_X7_share tv900 tv901 h = some (r0, h0)) : Met l yX7_share (Cond.code yX7_share cX7_share 4 (some .int) :: tr_T) r_X7_share (va_Pc [.ref (tr_ad w 0), .int tv900, .int tv901] (tr_Wo tr_X w h)) (tr_Qi tr_X w r0 h0) 0 0 (tr_R tr_X w) := by
  refine tr_start (by decide) (Nat.le_refl _) ?_
  intro p e s m args below meth c C hr hlocks hargs hP
  have hx := C.1
  have hb := C.2.1
  have hS : va_S (tr_R tr_X w) s.heap s.heap [] := va_S.rf
  have hl := lv_entry ([.ref (tr_ad w 0), .int tv900, .int tv901]) (n := 4) (Nat.le_of_ble_eq_true rfl)
  rw [lg_entry_eq]
  generalize (lg_sl ([.ref (tr_ad w 0), .int tv900, .int tv901]) ++ List.replicate (4 - (lg_sl ([.ref (tr_ad w 0), .int tv900, .int tv901])).length) Slot.unset).toArray = ls at hl ⊢
  have hl : lv_has ls 4 [(0, .ref (tr_ad w 0)), (1, .int tv900), (2, .int tv901)] := hl
  replace hk : tr_ok (f_X7_share tv900 tv901 h) (fun o => o = (r0, h0)) := ⟨_, hk, rfl⟩
  unfold f_X7_share at hk
  refine lv_aload_n hx hb dX7_share_0 rfl (lv_at hl 0 rfl) ?_
  refine gf_X7_16 C hP dX7_share_1 ?_
  refine lv_iload_n hx hb dX7_share_4 rfl (lv_at hl 1 rfl) ?_
  obtain ⟨tv2, tq1, hk⟩ := tr_okb hk
  refine tr_cvi (As := [.int tv900]) (rest := []) C hP hS hl (c_X2_has l w 2 tr_net_2 tv900 h tv2 tq1) mz_X2_has ml_X7_112 (by decide) rfl rfl rfl rfl ⟨Nat.le_of_ble_eq_true rfl, Nat.le_of_ble_eq_true rfl⟩ rfl rfl (Nat.le_of_ble_eq_true rfl) ⟨Nat.le_refl _, Nat.le_refl _⟩ dX7_share_5 (fun H locs hP hS => ?_)
  refine lv_if_ne (tgt := 13) hx hb dX7_share_8 (by decide) (fun tc3 => ?_) (fun tc3 => ?_)
  · replace hk := tr_iff hk tc3
    refine lv_aload_n hx hb dX7_share_13 rfl (lv_at hl 0 rfl) ?_
    refine gf_X7_69 C hP dX7_share_14 ?_
    refine lv_aload_n hx hb dX7_share_17 rfl (lv_at hl 0 rfl) ?_
    refine gf_X7_16 C hP dX7_share_18 ?_
    obtain ⟨th5, tq4, hk⟩ := tr_okb hk
    refine tr_cvv (As := [.ref (tr_ad w 2)]) (rest := []) C hP hS hl (c_X4_fill l w 2 tr_net_2 h th5 tq4) mz_X4_fill ml_X7_95 (by decide) rfl rfl rfl rfl ⟨Nat.le_of_ble_eq_true rfl, Nat.le_of_ble_eq_true rfl⟩ rfl rfl (Nat.le_of_ble_eq_true rfl) ⟨Nat.le_refl _, Nat.le_refl _⟩ dX7_share_21 (fun H locs hP hS => ?_)
    refine gs_X7_184 C hS dX7_share_24 ?_
    refine lv_aload_n hx hb dX7_share_27 rfl (lv_at hl 0 rfl) ?_
    refine gf_X7_16 C hP dX7_share_28 ?_
    refine gf_X7_92 tr_net_2 C hP dX7_share_31 ?_
    refine tr_ti hk (fun tv6 hk => ?_)
    obtain ⟨tg7, hk⟩ := tr_okg hk
    refine tr_s1 C hS tg7 dX7_share_34 ?_
    refine tr_ti hk (fun tv8 hk => ?_)
    refine lv_istore_n (lv' := [(3, .int tv8), (0, .ref (tr_ad w 0)), (1, .int tv900), (2, .int tv901)]) hx hb dX7_share_35 rfl hl (by decide) rfl (fun ls hl => ?_)
    refine lv_aload_n hx hb dX7_share_36 rfl (lv_at hl 1 rfl) ?_
    refine gf_X7_69 C hP dX7_share_37 ?_
    refine lv_iload_n hx hb dX7_share_40 rfl (lv_at hl 2 rfl) ?_
    refine lv_aload_n hx hb dX7_share_41 rfl (lv_at hl 1 rfl) ?_
    refine gf_X7_16 C hP dX7_share_42 ?_
    refine gf_X7_92 tr_net_2 C hP dX7_share_45 ?_
    obtain ⟨tv10, tq9, hk⟩ := tr_okb hk
    refine tr_cvi (As := [.int tv900, .int (th5.1 2 1)]) (rest := []) C hP hS hl (c_X4_added l w tv900 (th5.1 2 1) th5 tv10 tq9) mz_X4_added ml_X7_187 (by decide) rfl rfl rfl rfl ⟨Nat.le_of_ble_eq_true rfl, Nat.le_of_ble_eq_true rfl⟩ rfl rfl (Nat.le_of_ble_eq_true rfl) ⟨Nat.le_refl _, Nat.le_refl _⟩ dX7_share_48 (fun H locs hP hS => ?_)
    refine lv_iload_n hx hb dX7_share_51 rfl (lv_at hl 0 rfl) ?_
    refine lv_bipush (v := 60) hx hb dX7_share_52 (by decide) ?_
    refine lv_imul hx hb dX7_share_54 ?_
    refine lv_iload_n hx hb dX7_share_55 rfl (lv_at hl 3 rfl) ?_
    obtain ⟨tv12, tq11, hk⟩ := tr_okb hk
    refine tr_csi (As := [.int tv10, .int (tv8 * 60), .int tv901]) (rest := []) C hP hS hl (c_X7_told l w tv10 (tv8 * 60) tv901 th5 tv12 tq11) mz_X7_told ml_X7_131 rfl rfl ⟨Nat.le_of_ble_eq_true rfl, Nat.le_of_ble_eq_true rfl⟩ rfl rfl (Nat.le_of_ble_eq_true rfl) ⟨Nat.le_refl _, Nat.le_refl _⟩ dX7_share_56 (fun H locs hP hS => ?_)
    exact tr_iret C hP hS hr hlocks (tr_okS (P := (fun o => o = (r0, h0))) hk) dX7_share_59
  · replace hk := tr_ift hk tc3
    refine lv_iconst (v := (-1)) hx hb dX7_share_11 (by decide) ?_
    exact tr_iret C hP hS hr hlocks (tr_okS (P := (fun o => o = (r0, h0))) hk) dX7_share_12
abbrev r_X7_see : Room := { frames := 1, cells := 0, slots := 0, locals := 23 }
set_option maxHeartbeats 4000000 in
set_option maxRecDepth 100000 in
theorem c_X7_see (l : Launch) (w : tr_E) (tv900 : Int32) (tv901 : Int32) (tv902 : Int32) (h : tr_H) (r0 : Int32) (h0 : tr_H) (hk : f_X7_see tv900 tv901 tv902 h = some (r0, h0)) : Met l yX7_see (Cond.code yX7_see cX7_see 4 (some .int) :: tr_T) r_X7_see (va_Pc [.ref (tr_ad w 0), .int tv900, .int tv901, .int tv902] (tr_Wo tr_X w h)) (tr_Qi tr_X w r0 h0) 0 0 (tr_R tr_X w) := by
  refine tr_start (by decide) (Nat.le_refl _) ?_
  intro p e s m args below meth c C hr hlocks hargs hP
  have hx := C.1
  have hb := C.2.1
  have hS : va_S (tr_R tr_X w) s.heap s.heap [] := va_S.rf
  have hl := lv_entry ([.ref (tr_ad w 0), .int tv900, .int tv901, .int tv902]) (n := 4) (Nat.le_of_ble_eq_true rfl)
  rw [lg_entry_eq]
  generalize (lg_sl ([.ref (tr_ad w 0), .int tv900, .int tv901, .int tv902]) ++ List.replicate (4 - (lg_sl ([.ref (tr_ad w 0), .int tv900, .int tv901, .int tv902])).length) Slot.unset).toArray = ls at hl ⊢
  have hl : lv_has ls 4 [(0, .ref (tr_ad w 0)), (1, .int tv900), (2, .int tv901), (3, .int tv902)] := hl
  replace hk : tr_ok (f_X7_see tv900 tv901 tv902 h) (fun o => o = (r0, h0)) := ⟨_, hk, rfl⟩
  unfold f_X7_see at hk
  refine lv_aload_n hx hb dX7_see_0 rfl (lv_at hl 0 rfl) ?_
  refine gf_X7_16 C hP dX7_see_1 ?_
  refine lv_iload_n hx hb dX7_see_4 rfl (lv_at hl 1 rfl) ?_
  obtain ⟨tv2, tq1, hk⟩ := tr_okb hk
  refine tr_cvi (As := [.int tv900]) (rest := []) C hP hS hl (c_X2_has l w 2 tr_net_2 tv900 h tv2 tq1) mz_X2_has ml_X7_112 (by decide) rfl rfl rfl rfl ⟨Nat.le_of_ble_eq_true rfl, Nat.le_of_ble_eq_true rfl⟩ rfl rfl (Nat.le_of_ble_eq_true rfl) ⟨Nat.le_refl _, Nat.le_refl _⟩ dX7_see_5 (fun H locs hP hS => ?_)
  refine lv_if_ne (tgt := 13) hx hb dX7_see_8 (by decide) (fun tc3 => ?_) (fun tc3 => ?_)
  · replace hk := tr_iff hk tc3
    refine lv_iload_n hx hb dX7_see_13 rfl (lv_at hl 2 rfl) ?_
    refine lv_iconst (v := 1) hx hb dX7_see_14 (by decide) ?_
    refine lv_icmp_lt (tgt := 33) hx hb dX7_see_15 (by decide) (fun tc4 => ?_) (fun tc4 => ?_)
    · replace hk := tr_ift hk tc4
      refine lv_bipush (v := (-2)) hx hb dX7_see_33 (by decide) ?_
      exact tr_iret C hP hS hr hlocks (tr_okS (P := (fun o => o = (r0, h0))) hk) dX7_see_35
    · replace hk := tr_iff hk tc4
      refine lv_iload_n hx hb dX7_see_18 rfl (lv_at hl 2 rfl) ?_
      refine lv_bipush (v := 9) hx hb dX7_see_19 (by decide) ?_
      refine lv_icmp_gt (tgt := 33) hx hb dX7_see_21 (by decide) (fun tc5 => ?_) (fun tc5 => ?_)
      · replace hk := tr_ift hk tc5
        refine lv_bipush (v := (-2)) hx hb dX7_see_33 (by decide) ?_
        exact tr_iret C hP hS hr hlocks (tr_okS (P := (fun o => o = (r0, h0))) hk) dX7_see_35
      · replace hk := tr_iff hk tc5
        refine lv_iload_n hx hb dX7_see_24 rfl (lv_at hl 3 rfl) ?_
        refine lv_if_lt (tgt := 33) hx hb dX7_see_25 (by decide) (fun tc6 => ?_) (fun tc6 => ?_)
        · replace hk := tr_ift hk tc6
          refine lv_bipush (v := (-2)) hx hb dX7_see_33 (by decide) ?_
          exact tr_iret C hP hS hr hlocks (tr_okS (P := (fun o => o = (r0, h0))) hk) dX7_see_35
        · replace hk := tr_iff hk tc6
          refine lv_iload_n hx hb dX7_see_28 rfl (lv_at hl 3 rfl) ?_
          refine lv_iconst (v := 1) hx hb dX7_see_29 (by decide) ?_
          refine lv_icmp_le (tgt := 36) hx hb dX7_see_30 (by decide) (fun tc7 => ?_) (fun tc7 => ?_)
          · replace hk := tr_ift hk tc7
            refine lv_aload_n hx hb dX7_see_36 rfl (lv_at hl 0 rfl) ?_
            refine gf_X7_48 C hP dX7_see_37 ?_
            refine lv_iload_n hx hb dX7_see_40 rfl (lv_at hl 1 rfl) ?_
            refine lv_iload_n hx hb dX7_see_41 rfl (lv_at hl 2 rfl) ?_
            refine lv_iload_n hx hb dX7_see_42 rfl (lv_at hl 3 rfl) ?_
            obtain ⟨tv9, th10, tq8, hk⟩ := tr_okb2 hk
            refine tr_cvi (As := [.int tv900, .int tv901, .int tv902]) (rest := []) C hP hS hl (c_X5_add l w tv900 tv901 tv902 h tv9 th10 tq8) mz_X5_add ml_X7_190 (by decide) rfl rfl rfl rfl ⟨Nat.le_of_ble_eq_true rfl, Nat.le_of_ble_eq_true rfl⟩ rfl rfl (Nat.le_of_ble_eq_true rfl) ⟨Nat.le_refl _, Nat.le_refl _⟩ dX7_see_43 (fun H locs hP hS => ?_)
            refine lv_if_eq (tgt := 59) hx hb dX7_see_46 (by decide) (fun tc11 => ?_) (fun tc11 => ?_)
            · replace hk := tr_ift hk tc11
              refine lv_bipush (v := (-4)) hx hb dX7_see_59 (by decide) ?_
              exact tr_iret C hP hS hr hlocks (tr_okS (P := (fun o => o = (r0, h0))) hk) dX7_see_61
            · replace hk := tr_iff hk tc11
              refine lv_aload_n hx hb dX7_see_49 rfl (lv_at hl 0 rfl) ?_
              refine gf_X7_48 C hP dX7_see_50 ?_
              refine gf_X7_111 C hP dX7_see_53 ?_
              refine lv_goto (tgt := 61) hx hb dX7_see_56 (by decide) ?_
              exact tr_iret C hP hS hr hlocks (tr_okS (P := (fun o => o = (r0, h0))) hk) dX7_see_61
          · replace hk := tr_iff hk tc7
            refine lv_bipush (v := (-2)) hx hb dX7_see_33 (by decide) ?_
            exact tr_iret C hP hS hr hlocks (tr_okS (P := (fun o => o = (r0, h0))) hk) dX7_see_35
  · replace hk := tr_ift hk tc3
    refine lv_iconst (v := (-1)) hx hb dX7_see_11 (by decide) ?_
    exact tr_iret C hP hS hr hlocks (tr_okS (P := (fun o => o = (r0, h0))) hk) dX7_see_12
abbrev r_X7_unsee : Room := { frames := 0, cells := 0, slots := 0, locals := 0 }
set_option maxHeartbeats 4000000 in
set_option maxRecDepth 100000 in
theorem c_X7_unsee (l : Launch) (w : tr_E)  (h : tr_H) (r0 : Int32) (h0 : tr_H) (hk : f_X7_unsee h = some (r0, h0)) : Met l yX7_unsee (Cond.code yX7_unsee cX7_unsee 2 (some .int) :: tr_T) r_X7_unsee (va_Pc [.ref (tr_ad w 0)] (tr_Wo tr_X w h)) (tr_Qi tr_X w r0 h0) 0 0 (tr_R tr_X w) := by
  refine tr_start (by decide) (Nat.le_refl _) ?_
  intro p e s m args below meth c C hr hlocks hargs hP
  have hx := C.1
  have hb := C.2.1
  have hS : va_S (tr_R tr_X w) s.heap s.heap [] := va_S.rf
  have hl := lv_entry ([.ref (tr_ad w 0)]) (n := 2) (Nat.le_of_ble_eq_true rfl)
  rw [lg_entry_eq]
  generalize (lg_sl ([.ref (tr_ad w 0)]) ++ List.replicate (2 - (lg_sl ([.ref (tr_ad w 0)])).length) Slot.unset).toArray = ls at hl ⊢
  have hl : lv_has ls 2 [(0, .ref (tr_ad w 0))] := hl
  replace hk : tr_ok (f_X7_unsee h) (fun o => o = (r0, h0)) := ⟨_, hk, rfl⟩
  unfold f_X7_unsee at hk
  refine lv_aload_n hx hb dX7_unsee_0 rfl (lv_at hl 0 rfl) ?_
  refine gf_X7_48 C hP dX7_unsee_1 ?_
  refine gf_X7_111 C hP dX7_unsee_4 ?_
  refine tr_ti hk (fun tv1 hk => ?_)
  refine lv_istore_n (lv' := [(1, .int tv1), (0, .ref (tr_ad w 0))]) hx hb dX7_unsee_7 rfl hl (by decide) rfl (fun ls hl => ?_)
  refine lv_aload_n hx hb dX7_unsee_8 rfl (lv_at hl 1 rfl) ?_
  refine gf_X7_48 C hP dX7_unsee_9 ?_
  refine lv_iconst (v := 0) hx hb dX7_unsee_12 (by decide) ?_
  refine pf_X7_111 C hP hS dX7_unsee_13 (fun H locs hP hS => ?_)
  refine tr_th hk hP (fun th2 hk hP => ?_)
  refine lv_iload_n hx hb dX7_unsee_16 rfl (lv_at hl 0 rfl) ?_
  exact tr_iret C hP hS hr hlocks (tr_okS (P := (fun o => o = (r0, h0))) hk) dX7_unsee_17
abbrev r_X7_began : Room := { frames := 4, cells := 0, slots := 0, locals := 96 }
set_option maxHeartbeats 4000000 in
set_option maxRecDepth 100000 in
theorem c_X7_began (l : Launch) (w : tr_E) (tv900 : Int32) (h : tr_H) (r0 : Int32) (h0 : tr_H) (hk : f_X7_began tv900 h = some (r0, h0)) : Met l yX7_began (Cond.code yX7_began cX7_began 6 (some .int) :: tr_T) r_X7_began (va_Pc [.ref (tr_ad w 0), .int tv900] (tr_Wo tr_X w h)) (tr_Qi tr_X w r0 h0) 0 0 (tr_R tr_X w) := by
  refine tr_start (by decide) (Nat.le_refl _) ?_
  intro p e s m args below meth c C hr hlocks hargs hP
  have hx := C.1
  have hb := C.2.1
  have hS : va_S (tr_R tr_X w) s.heap s.heap [] := va_S.rf
  have hl := lv_entry ([.ref (tr_ad w 0), .int tv900]) (n := 6) (Nat.le_of_ble_eq_true rfl)
  rw [lg_entry_eq]
  generalize (lg_sl ([.ref (tr_ad w 0), .int tv900]) ++ List.replicate (6 - (lg_sl ([.ref (tr_ad w 0), .int tv900])).length) Slot.unset).toArray = ls at hl ⊢
  have hl : lv_has ls 6 [(0, .ref (tr_ad w 0)), (1, .int tv900)] := hl
  replace hk : tr_ok (f_X7_began tv900 h) (fun o => o = (r0, h0)) := ⟨_, hk, rfl⟩
  unfold f_X7_began at hk
  refine lv_iload_n hx hb dX7_began_0 rfl (lv_at hl 1 rfl) ?_
  have j12 : tr_ok (f_X7_began_J12 h tv900) (fun o => o = (r0, h0)) → tr_Wd p l e r_X7_began s m args below meth c (MQ below (tr_Qi tr_X w r0 h0) args s 0 0 (tr_R tr_X w)) tr_X w 6 12 [(0, .ref (tr_ad w 0)), (1, .int tv900)] [] h := by
    intro  hk H locs ls hP hS hl
    unfold f_X7_began_J12 at hk
    refine lv_bipush (v := (-9)) hx hb dX7_began_12 (by decide) ?_
    refine lv_istore_n (lv' := [(2, .int (-9)), (0, .ref (tr_ad w 0)), (1, .int tv900)]) hx hb dX7_began_14 rfl hl (by decide) rfl (fun ls hl => ?_)
    refine lv_iconst (v := 0) hx hb dX7_began_15 (by decide) ?_
    refine lv_istore_n (lv' := [(3, .int 0), (2, .int (-9)), (0, .ref (tr_ad w 0)), (1, .int tv900)]) hx hb dX7_began_16 rfl hl (by decide) rfl (fun ls hl => ?_)
    refine lv_aload_n hx hb dX7_began_17 rfl (lv_at hl 2 rfl) ?_
    refine gf_X7_55 C hP dX7_began_18 ?_
    refine lv_aload_n hx hb dX7_began_21 rfl (lv_at hl 2 rfl) ?_
    refine gf_X7_16 C hP dX7_began_22 ?_
    refine lv_bipush (v := 10) hx hb dX7_began_25 (by decide) ?_
    obtain ⟨tv2, th3, tq1, hk⟩ := tr_okb2 hk
    refine tr_cvi (As := [.ref (tr_ad w 2), .int 10]) (rest := []) C hP hS hl (c_X6_isKept l w 2 tr_net_2 10 h tv2 th3 tq1) mz_X6_isKept ml_X7_142 (by decide) rfl rfl rfl rfl ⟨Nat.le_of_ble_eq_true rfl, Nat.le_of_ble_eq_true rfl⟩ rfl rfl (Nat.le_of_ble_eq_true rfl) ⟨Nat.le_refl _, Nat.le_refl _⟩ dX7_began_27 (fun H locs hP hS => ?_)
    have j141 : ∀ (tv4 : Int32) (tv5 : Int32) (th6 : tr_H), tr_ok (f_X7_began_J141 tv900 tv4 tv5 th6) (fun o => o = (r0, h0)) → tr_Wd p l e r_X7_began s m args below meth c (MQ below (tr_Qi tr_X w r0 h0) args s 0 0 (tr_R tr_X w)) tr_X w 6 141 [(1, .int tv900), (2, .int tv4), (3, .int tv5)] [] th6 := by
      intro tv4 tv5 th6 hk H locs ls hP hS hl
      unfold f_X7_began_J141 at hk
      refine lv_iload_n hx hb dX7_began_141 rfl (lv_at hl 0 rfl) ?_
      refine lv_if_ne (tgt := 149) hx hb dX7_began_142 (by decide) (fun tc7 => ?_) (fun tc7 => ?_)
      · replace hk := tr_iff hk tc7
        refine lv_iload_n hx hb dX7_began_149 rfl (lv_at hl 1 rfl) ?_
        exact tr_iret C hP hS hr hlocks (tr_okS (P := (fun o => o = (r0, h0))) hk) dX7_began_150
      · replace hk := tr_ift hk tc7
        refine lv_iload_n hx hb dX7_began_145 rfl (lv_at hl 2 rfl) ?_
        refine lv_goto (tgt := 150) hx hb dX7_began_146 (by decide) ?_
        exact tr_iret C hP hS hr hlocks (tr_okS (P := (fun o => o = (r0, h0))) hk) dX7_began_150
    refine lv_if_eq (tgt := 141) hx hb dX7_began_30 (by decide) (fun tc8 => ?_) (fun tc8 => ?_)
    · replace hk := tr_ift hk tc8
      exact j141 (-9) 0 th3 hk _ _ _ hP hS (lv_sub hl [3, 1, 0] rfl)
    · replace hk := tr_iff hk tc8
      refine lv_aload_n hx hb dX7_began_33 rfl (lv_at hl 2 rfl) ?_
      refine gf_X7_62 C hP dX7_began_34 ?_
      refine lv_aload_n hx hb dX7_began_37 rfl (lv_at hl 2 rfl) ?_
      refine gf_X7_16 C hP dX7_began_38 ?_
      refine lv_bipush (v := 10) hx hb dX7_began_41 (by decide) ?_
      obtain ⟨th10, tq9, hk⟩ := tr_okb hk
      refine tr_cvv (As := [.ref (tr_ad w 2), .int 10]) (rest := []) C hP hS hl (c_X0_settle l w 2 tr_net_2 10 th3 th10 tq9) mz_X0_settle ml_X7_146 (by decide) rfl rfl rfl rfl ⟨Nat.le_of_ble_eq_true rfl, Nat.le_of_ble_eq_true rfl⟩ rfl rfl (Nat.le_of_ble_eq_true rfl) ⟨Nat.le_refl _, Nat.le_refl _⟩ dX7_began_43 (fun H locs hP hS => ?_)
      refine lv_iconst (v := 0) hx hb dX7_began_46 (by decide) ?_
      refine lv_istore (lv' := [(4, .int 0), (3, .int 0), (2, .int (-9)), (0, .ref (tr_ad w 0)), (1, .int tv900)]) hx hb dX7_began_47 hl (by decide) rfl (fun ls hl => ?_)
      have j141_49 : ∀ (tv11 : Int32) (tv12 : Int32) (th13 : tr_H), tr_ok (f_X7_began_E141 tv900 tv11 tv12 th13) (fun o => o = (r0, h0)) → tr_Wd p l e r_X7_began s m args below meth c (MQ below (tr_Qi tr_X w r0 h0) args s 0 0 (tr_R tr_X w)) tr_X w 6 141 [(1, .int tv900), (2, .int tv11), (3, .int tv12)] [] th13 := by
        intro tv11 tv12 th13 hk H locs ls hP hS hl
        unfold f_X7_began_E141 at hk
        exact j141 tv11 tv12 th13 hk _ _ _ hP hS (lv_sub hl [0, 1, 2] rfl)
      refine tr_loop (fun q => tr_Wd p l e r_X7_began s m args below meth c (MQ below (tr_Qi tr_X w r0 h0) args s 0 0 (tr_R tr_X w)) tr_X w 6 49 [(0, .ref (tr_ad w 0)), (1, .int tv900), (2, .int q.1), (3, .int q.2.1), (4, .int q.2.2.1)] [] q.2.2.2) hk ?_ _ _ _ hP hS (lv_sub hl [3, 4, 2, 1, 0] rfl)
      intro P49 hin49 hex49 q hk
      obtain ⟨tv14, tv15, tv16, th17⟩ := q
      intro H locs ls hP hS hl
      replace hk : tr_ok (f_X7_began_L49 tv14 tv15 tv16 th17) P49 := hk
      unfold f_X7_began_L49 at hk
      refine lv_iload hx hb dX7_began_49 (lv_at hl 4 rfl) ?_
      refine lv_aload_n hx hb dX7_began_51 rfl (lv_at hl 0 rfl) ?_
      refine gf_X7_16 C hP dX7_began_52 ?_
      refine gf_X7_92 tr_net_2 C hP dX7_began_55 ?_
      refine lv_icmp_ge (tgt := 141) hx hb dX7_began_58 (by decide) (fun tc18 => ?_) (fun tc18 => ?_)
      · replace hk := tr_ift hk tc18
        replace hk := hex49 _ (tr_okS hk)
        replace hk : tr_ok (f_X7_began_E141 tv900 tv14 tv15 th17) (fun o => o = (r0, h0)) := hk
        exact j141_49 tv14 tv15 th17 hk _ _ _ hP hS (lv_sub hl [1, 2, 3] rfl)
      · replace hk := tr_iff hk tc18
        refine lv_aload_n hx hb dX7_began_61 rfl (lv_at hl 0 rfl) ?_
        refine gf_X7_62 C hP dX7_began_62 ?_
        refine lv_aload_n hx hb dX7_began_65 rfl (lv_at hl 0 rfl) ?_
        refine gf_X7_16 C hP dX7_began_66 ?_
        refine lv_iload hx hb dX7_began_69 (lv_at hl 4 rfl) ?_
        refine lv_bipush (v := 9) hx hb dX7_began_71 (by decide) ?_
        obtain ⟨th20, tq19, hk⟩ := tr_okb hk
        refine tr_cvv (As := [.ref (tr_ad w 2), .int tv16, .int 9]) (rest := []) C hP hS hl (c_X0_spread l w 2 tr_net_2 tv16 9 th17 th20 tq19) mz_X0_spread ml_X7_157 (by decide) rfl rfl rfl rfl ⟨Nat.le_of_ble_eq_true rfl, Nat.le_of_ble_eq_true rfl⟩ rfl rfl (Nat.le_of_ble_eq_true rfl) ⟨Nat.le_refl _, Nat.le_refl _⟩ dX7_began_73 (fun H locs hP hS => ?_)
        refine lv_iconst (v := 1) hx hb dX7_began_76 (by decide) ?_
        refine lv_istore (lv' := [(5, .int 1), (0, .ref (tr_ad w 0)), (1, .int tv900), (2, .int tv14), (3, .int tv15), (4, .int tv16)]) hx hb dX7_began_77 hl (by decide) rfl (fun ls hl => ?_)
        have j135_79 : ∀ (tv21 : Int32) (tv22 : Int32), tr_ok (f_X7_began_E135 tv16 th20 tv21 tv22) P49 → tr_Wd p l e r_X7_began s m args below meth c (MQ below (tr_Qi tr_X w r0 h0) args s 0 0 (tr_R tr_X w)) tr_X w 6 135 [(0, .ref (tr_ad w 0)), (1, .int tv900), (2, .int tv21), (3, .int tv22), (4, .int tv16)] [] th20 := by
          intro tv21 tv22 hk H locs ls hP hS hl
          unfold f_X7_began_E135 at hk
          obtain ⟨tv23, etv23, hk⟩ := tr_okd hk
          refine lv_iinc (v := tv23) (lv' := [(4, .int tv23), (0, .ref (tr_ad w 0)), (1, .int tv900), (2, .int tv21), (3, .int tv22)]) hx hb dX7_began_135 hl (k := 4) rfl (by rw [etv23]; rfl) (by decide) rfl (fun ls hl => ?_)
          refine lv_goto (tgt := 49) hx hb dX7_began_138 (by decide) ?_
          exact hin49 _ (tr_okS hk) _ _ _ hP hS (lv_sub hl [1, 2, 3, 4, 0] rfl)
        refine tr_loop (fun q => tr_Wd p l e r_X7_began s m args below meth c (MQ below (tr_Qi tr_X w r0 h0) args s 0 0 (tr_R tr_X w)) tr_X w 6 79 [(0, .ref (tr_ad w 0)), (1, .int tv900), (2, .int q.1), (3, .int q.2.1), (4, .int tv16), (5, .int q.2.2)] [] th20) hk ?_ _ _ _ hP hS (lv_sub hl [1, 2, 3, 4, 5, 0] rfl)
        intro P79 hin79 hex79 q hk
        obtain ⟨tv24, tv25, tv26⟩ := q
        intro H locs ls hP hS hl
        replace hk : tr_ok (f_X7_began_L79 th20 tv16 tv24 tv25 tv26) P79 := hk
        unfold f_X7_began_L79 at hk
        refine lv_iload hx hb dX7_began_79 (lv_at hl 5 rfl) ?_
        refine lv_bipush (v := 30) hx hb dX7_began_81 (by decide) ?_
        refine lv_icmp_gt (tgt := 135) hx hb dX7_began_83 (by decide) (fun tc27 => ?_) (fun tc27 => ?_)
        · replace hk := tr_ift hk tc27
          replace hk := hex79 _ (tr_okS hk)
          replace hk : tr_ok (f_X7_began_E135 tv16 th20 tv24 tv25) P49 := hk
          exact j135_79 tv24 tv25 hk _ _ _ hP hS (lv_sub hl [0, 1, 2, 3, 4] rfl)
        · replace hk := tr_iff hk tc27
          refine lv_aload_n hx hb dX7_began_86 rfl (lv_at hl 0 rfl) ?_
          refine gf_X7_48 C hP dX7_began_87 ?_
          refine lv_aload_n hx hb dX7_began_90 rfl (lv_at hl 0 rfl) ?_
          refine gf_X7_62 C hP dX7_began_91 ?_
          refine lv_iload hx hb dX7_began_94 (lv_at hl 5 rfl) ?_
          refine lv_aload_n hx hb dX7_began_96 rfl (lv_at hl 0 rfl) ?_
          refine gf_X7_16 C hP dX7_began_97 ?_
          refine gf_X7_92 tr_net_2 C hP dX7_began_100 ?_
          obtain ⟨tv29, tq28, hk⟩ := tr_okb hk
          refine tr_cvi (As := [.ref (tr_ad w 24), .int tv26, .int (th20.1 2 1)]) (rest := []) C hP hS hl (c_X5_fits l w tv26 (th20.1 2 1) th20 tv29 tq28) mz_X5_fits ml_X7_193 (by decide) rfl rfl rfl rfl ⟨Nat.le_of_ble_eq_true rfl, Nat.le_of_ble_eq_true rfl⟩ rfl rfl (Nat.le_of_ble_eq_true rfl) ⟨Nat.le_refl _, Nat.le_refl _⟩ dX7_began_103 (fun H locs hP hS => ?_)
          refine lv_if_eq (tgt := 129) hx hb dX7_began_106 (by decide) (fun tc30 => ?_) (fun tc30 => ?_)
          · replace hk := tr_ift hk tc30
            obtain ⟨tv31, etv31, hk⟩ := tr_okd hk
            refine lv_iinc (v := tv31) (lv' := [(5, .int tv31), (0, .ref (tr_ad w 0)), (1, .int tv900), (2, .int tv24), (3, .int tv25), (4, .int tv16)]) hx hb dX7_began_129 hl (k := 5) rfl (by rw [etv31]; rfl) (by decide) rfl (fun ls hl => ?_)
            refine lv_goto (tgt := 79) hx hb dX7_began_132 (by decide) ?_
            exact hin79 _ (tr_okS hk) _ _ _ hP hS (lv_sub hl [1, 2, 3, 4, 5, 0] rfl)
          · replace hk := tr_iff hk tc30
            refine lv_iload_n hx hb dX7_began_109 rfl (lv_at hl 3 rfl) ?_
            refine lv_if_ne (tgt := 124) hx hb dX7_began_110 (by decide) (fun tc32 => ?_) (fun tc32 => ?_)
            · replace hk := tr_iff hk tc32
              refine lv_iload_n hx hb dX7_began_124 rfl (lv_at hl 2 rfl) ?_
              refine lv_istore_n (lv' := [(2, .int tv24), (0, .ref (tr_ad w 0)), (1, .int tv900), (3, .int tv25), (4, .int tv16), (5, .int tv26)]) hx hb dX7_began_125 rfl hl (by decide) rfl (fun ls hl => ?_)
              obtain ⟨tv33, etv33, hk⟩ := tr_okd hk
              refine lv_iinc (v := tv33) (lv' := [(3, .int tv33), (2, .int tv24), (0, .ref (tr_ad w 0)), (1, .int tv900), (4, .int tv16), (5, .int tv26)]) hx hb dX7_began_126 hl (k := 3) rfl (by rw [etv33]; rfl) (by decide) rfl (fun ls hl => ?_)
              obtain ⟨tv34, etv34, hk⟩ := tr_okd hk
              refine lv_iinc (v := tv34) (lv' := [(5, .int tv34), (3, .int tv33), (2, .int tv24), (0, .ref (tr_ad w 0)), (1, .int tv900), (4, .int tv16)]) hx hb dX7_began_129 hl (k := 5) rfl (by rw [etv34]; rfl) (by decide) rfl (fun ls hl => ?_)
              refine lv_goto (tgt := 79) hx hb dX7_began_132 (by decide) ?_
              exact hin79 _ (tr_okS hk) _ _ _ hP hS (lv_sub hl [3, 4, 2, 1, 5, 0] rfl)
            · replace hk := tr_ift hk tc32
              refine lv_bipush (v := 100) hx hb dX7_began_113 (by decide) ?_
              refine lv_iload hx hb dX7_began_115 (lv_at hl 4 rfl) ?_
              refine lv_imul hx hb dX7_began_117 ?_
              refine lv_iload hx hb dX7_began_118 (lv_at hl 5 rfl) ?_
              refine lv_iadd hx hb dX7_began_120 ?_
              refine lv_goto (tgt := 125) hx hb dX7_began_121 (by decide) ?_
              refine tr_ti hk (fun tv35 hk => ?_)
              refine lv_istore_n (lv' := [(2, .int tv35), (0, .ref (tr_ad w 0)), (1, .int tv900), (3, .int tv25), (4, .int tv16), (5, .int tv26)]) hx hb dX7_began_125 rfl hl (by decide) rfl (fun ls hl => ?_)
              obtain ⟨tv36, etv36, hk⟩ := tr_okd hk
              refine lv_iinc (v := tv36) (lv' := [(3, .int tv36), (2, .int tv35), (0, .ref (tr_ad w 0)), (1, .int tv900), (4, .int tv16), (5, .int tv26)]) hx hb dX7_began_126 hl (k := 3) rfl (by rw [etv36]; rfl) (by decide) rfl (fun ls hl => ?_)
              obtain ⟨tv37, etv37, hk⟩ := tr_okd hk
              refine lv_iinc (v := tv37) (lv' := [(5, .int tv37), (3, .int tv36), (2, .int tv35), (0, .ref (tr_ad w 0)), (1, .int tv900), (4, .int tv16)]) hx hb dX7_began_129 hl (k := 5) rfl (by rw [etv37]; rfl) (by decide) rfl (fun ls hl => ?_)
              refine lv_goto (tgt := 79) hx hb dX7_began_132 (by decide) ?_
              exact hin79 _ (tr_okS hk) _ _ _ hP hS (lv_sub hl [3, 4, 2, 1, 5, 0] rfl)
  refine lv_if_eq (tgt := 12) hx hb dX7_began_1 (by decide) (fun tc38 => ?_) (fun tc38 => ?_)
  · replace hk := tr_ift hk tc38
    exact j12 hk _ _ _ hP hS (lv_sub hl [0, 1] rfl)
  · replace hk := tr_iff hk tc38
    refine lv_iload_n hx hb dX7_began_4 rfl (lv_at hl 1 rfl) ?_
    refine lv_iconst (v := 1) hx hb dX7_began_5 (by decide) ?_
    refine lv_icmp_eq (tgt := 12) hx hb dX7_began_6 (by decide) (fun tc39 => ?_) (fun tc39 => ?_)
    · replace hk := tr_ift hk tc39
      exact j12 hk _ _ _ hP hS (lv_sub hl [0, 1] rfl)
    · replace hk := tr_iff hk tc39
      refine lv_bipush (v := (-2)) hx hb dX7_began_9 (by decide) ?_
      exact tr_iret C hP hS hr hlocks (tr_okS (P := (fun o => o = (r0, h0))) hk) dX7_began_11
abbrev r_X7_dropped : Room := { frames := 4, cells := 0, slots := 0, locals := 94 }
set_option maxHeartbeats 4000000 in
set_option maxRecDepth 100000 in
theorem c_X7_dropped (l : Launch) (w : tr_E) (tv900 : Int32) (tv901 : Int32) (tv902 : Int32) (tv903 : Int32) (h : tr_H) (r0 : Int32) (h0 : tr_H) (hk : f_X7_dropped tv900 tv901 tv902 tv903 h = some (r0, h0)) : Met l yX7_dropped (Cond.code yX7_dropped cX7_dropped 8 (some .int) :: tr_T) r_X7_dropped (va_Pc [.ref (tr_ad w 0), .int tv900, .int tv901, .int tv902, .int tv903] (tr_Wo tr_X w h)) (tr_Qi tr_X w r0 h0) 0 0 (tr_R tr_X w) := by
  refine tr_start (by decide) (Nat.le_refl _) ?_
  intro p e s m args below meth c C hr hlocks hargs hP
  have hx := C.1
  have hb := C.2.1
  have hS : va_S (tr_R tr_X w) s.heap s.heap [] := va_S.rf
  have hl := lv_entry ([.ref (tr_ad w 0), .int tv900, .int tv901, .int tv902, .int tv903]) (n := 8) (Nat.le_of_ble_eq_true rfl)
  rw [lg_entry_eq]
  generalize (lg_sl ([.ref (tr_ad w 0), .int tv900, .int tv901, .int tv902, .int tv903]) ++ List.replicate (8 - (lg_sl ([.ref (tr_ad w 0), .int tv900, .int tv901, .int tv902, .int tv903])).length) Slot.unset).toArray = ls at hl ⊢
  have hl : lv_has ls 8 [(0, .ref (tr_ad w 0)), (1, .int tv900), (2, .int tv901), (3, .int tv902), (4, .int tv903)] := hl
  replace hk : tr_ok (f_X7_dropped tv900 tv901 tv902 tv903 h) (fun o => o = (r0, h0)) := ⟨_, hk, rfl⟩
  unfold f_X7_dropped at hk
  refine lv_aload_n hx hb dX7_dropped_0 rfl (lv_at hl 0 rfl) ?_
  refine gf_X7_16 C hP dX7_dropped_1 ?_
  refine lv_iload_n hx hb dX7_dropped_4 rfl (lv_at hl 1 rfl) ?_
  obtain ⟨tv2, tq1, hk⟩ := tr_okb hk
  refine tr_cvi (As := [.int tv900]) (rest := []) C hP hS hl (c_X2_has l w 2 tr_net_2 tv900 h tv2 tq1) mz_X2_has ml_X7_112 (by decide) rfl rfl rfl rfl ⟨Nat.le_of_ble_eq_true rfl, Nat.le_of_ble_eq_true rfl⟩ rfl rfl (Nat.le_of_ble_eq_true rfl) ⟨Nat.le_refl _, Nat.le_refl _⟩ dX7_dropped_5 (fun H locs hP hS => ?_)
  refine lv_if_ne (tgt := 13) hx hb dX7_dropped_8 (by decide) (fun tc3 => ?_) (fun tc3 => ?_)
  · replace hk := tr_iff hk tc3
    refine lv_iload_n hx hb dX7_dropped_13 rfl (lv_at hl 2 rfl) ?_
    refine lv_if_lt (tgt := 33) hx hb dX7_dropped_14 (by decide) (fun tc4 => ?_) (fun tc4 => ?_)
    · replace hk := tr_ift hk tc4
      refine lv_bipush (v := (-2)) hx hb dX7_dropped_33 (by decide) ?_
      exact tr_iret C hP hS hr hlocks (tr_okS (P := (fun o => o = (r0, h0))) hk) dX7_dropped_35
    · replace hk := tr_iff hk tc4
      refine lv_iload_n hx hb dX7_dropped_17 rfl (lv_at hl 2 rfl) ?_
      refine lv_bipush (v := 20) hx hb dX7_dropped_18 (by decide) ?_
      refine lv_icmp_gt (tgt := 33) hx hb dX7_dropped_20 (by decide) (fun tc5 => ?_) (fun tc5 => ?_)
      · replace hk := tr_ift hk tc5
        refine lv_bipush (v := (-2)) hx hb dX7_dropped_33 (by decide) ?_
        exact tr_iret C hP hS hr hlocks (tr_okS (P := (fun o => o = (r0, h0))) hk) dX7_dropped_35
      · replace hk := tr_iff hk tc5
        refine lv_iload_n hx hb dX7_dropped_23 rfl (lv_at hl 3 rfl) ?_
        refine lv_if_lt (tgt := 33) hx hb dX7_dropped_24 (by decide) (fun tc6 => ?_) (fun tc6 => ?_)
        · replace hk := tr_ift hk tc6
          refine lv_bipush (v := (-2)) hx hb dX7_dropped_33 (by decide) ?_
          exact tr_iret C hP hS hr hlocks (tr_okS (P := (fun o => o = (r0, h0))) hk) dX7_dropped_35
        · replace hk := tr_iff hk tc6
          refine lv_iload_n hx hb dX7_dropped_27 rfl (lv_at hl 3 rfl) ?_
          refine lv_bipush (v := 10) hx hb dX7_dropped_28 (by decide) ?_
          refine lv_icmp_le (tgt := 36) hx hb dX7_dropped_30 (by decide) (fun tc7 => ?_) (fun tc7 => ?_)
          · replace hk := tr_ift hk tc7
            refine lv_aload_n hx hb dX7_dropped_36 rfl (lv_at hl 0 rfl) ?_
            refine gf_X7_20 C hP dX7_dropped_37 ?_
            refine lv_aload_n hx hb dX7_dropped_40 rfl (lv_at hl 0 rfl) ?_
            refine gf_X7_16 C hP dX7_dropped_41 ?_
            obtain ⟨th9, tq8, hk⟩ := tr_okb hk
            refine tr_cvv (As := [.ref (tr_ad w 2)]) (rest := []) C hP hS hl (c_X2_copyFrom l w 4 tr_net_4 2 tr_net_2 h th9 tq8) mz_X2_copyFrom ml_X7_81 (by decide) rfl rfl rfl rfl ⟨Nat.le_of_ble_eq_true rfl, Nat.le_of_ble_eq_true rfl⟩ rfl rfl (Nat.le_of_ble_eq_true rfl) ⟨Nat.le_refl _, Nat.le_refl _⟩ dX7_dropped_44 (fun H locs hP hS => ?_)
            refine lv_iconst (v := 0) hx hb dX7_dropped_47 (by decide) ?_
            refine lv_istore (lv' := [(5, .int 0), (0, .ref (tr_ad w 0)), (1, .int tv900), (2, .int tv901), (3, .int tv902), (4, .int tv903)]) hx hb dX7_dropped_48 hl (by decide) rfl (fun ls hl => ?_)
            have j81_50 : ∀ (th10 : tr_H), tr_ok (f_X7_dropped_E81 tv901 tv903 tv900 tv902 th10) (fun o => o = (r0, h0)) → tr_Wd p l e r_X7_dropped s m args below meth c (MQ below (tr_Qi tr_X w r0 h0) args s 0 0 (tr_R tr_X w)) tr_X w 8 81 [(0, .ref (tr_ad w 0)), (1, .int tv900), (2, .int tv901), (3, .int tv902), (4, .int tv903)] [] th10 := by
              intro th10 hk H locs ls hP hS hl
              unfold f_X7_dropped_E81 at hk
              refine lv_aload_n hx hb dX7_dropped_81 rfl (lv_at hl 0 rfl) ?_
              refine gf_X7_55 C hP dX7_dropped_82 ?_
              refine lv_aload_n hx hb dX7_dropped_85 rfl (lv_at hl 0 rfl) ?_
              refine gf_X7_20 C hP dX7_dropped_86 ?_
              refine lv_iload_n hx hb dX7_dropped_89 rfl (lv_at hl 2 rfl) ?_
              obtain ⟨tv12, th13, tq11, hk⟩ := tr_okb2 hk
              refine tr_cvi (As := [.ref (tr_ad w 4), .int tv901]) (rest := []) C hP hS hl (c_X6_isKept l w 4 tr_net_4 tv901 th10 tv12 th13 tq11) mz_X6_isKept ml_X7_142 (by decide) rfl rfl rfl rfl ⟨Nat.le_of_ble_eq_true rfl, Nat.le_of_ble_eq_true rfl⟩ rfl rfl (Nat.le_of_ble_eq_true rfl) ⟨Nat.le_refl _, Nat.le_refl _⟩ dX7_dropped_90 (fun H locs hP hS => ?_)
              refine lv_if_ne (tgt := 104) hx hb dX7_dropped_93 (by decide) (fun tc14 => ?_) (fun tc14 => ?_)
              · replace hk := tr_iff hk tc14
                refine lv_iconst (v := 1) hx hb dX7_dropped_104 (by decide) ?_
                refine lv_istore (lv' := [(5, .int 1), (0, .ref (tr_ad w 0)), (1, .int tv900), (2, .int tv901), (3, .int tv902), (4, .int tv903)]) hx hb dX7_dropped_105 hl (by decide) rfl (fun ls hl => ?_)
                refine lv_iconst (v := 1) hx hb dX7_dropped_107 (by decide) ?_
                refine lv_istore (lv' := [(6, .int 1), (5, .int 1), (0, .ref (tr_ad w 0)), (1, .int tv900), (2, .int tv901), (3, .int tv902), (4, .int tv903)]) hx hb dX7_dropped_108 hl (by decide) rfl (fun ls hl => ?_)
                refine lv_iconst (v := 0) hx hb dX7_dropped_110 (by decide) ?_
                refine lv_istore (lv' := [(7, .int 0), (6, .int 1), (5, .int 1), (0, .ref (tr_ad w 0)), (1, .int tv900), (2, .int tv901), (3, .int tv902), (4, .int tv903)]) hx hb dX7_dropped_111 hl (by decide) rfl (fun ls hl => ?_)
                have j193_113 : ∀ (tv15 : Int32) (tv16 : Int32) (th17 : tr_H), tr_ok (f_X7_dropped_E193 tv903 tv15 tv16 th17) (fun o => o = (r0, h0)) → tr_Wd p l e r_X7_dropped s m args below meth c (MQ below (tr_Qi tr_X w r0 h0) args s 0 0 (tr_R tr_X w)) tr_X w 8 193 [(4, .int tv903), (5, .int tv15), (6, .int tv16)] [] th17 := by
                  intro tv15 tv16 th17 hk H locs ls hP hS hl
                  unfold f_X7_dropped_E193 at hk
                  refine lv_iload hx hb dX7_dropped_193 (lv_at hl 1 rfl) ?_
                  refine lv_iload hx hb dX7_dropped_195 (lv_at hl 2 rfl) ?_
                  refine lv_iload hx hb dX7_dropped_197 (lv_at hl 0 rfl) ?_
                  obtain ⟨tv19, tq18, hk⟩ := tr_okb hk
                  refine tr_csi (As := [.int tv15, .int tv16, .int tv903]) (rest := []) C hP hS hl (c_X7_told l w tv15 tv16 tv903 th17 tv19 tq18) mz_X7_told ml_X7_131 rfl rfl ⟨Nat.le_of_ble_eq_true rfl, Nat.le_of_ble_eq_true rfl⟩ rfl rfl (Nat.le_of_ble_eq_true rfl) ⟨Nat.le_refl _, Nat.le_refl _⟩ dX7_dropped_199 (fun H locs hP hS => ?_)
                  exact tr_iret C hP hS hr hlocks (tr_okS (P := (fun o => o = (r0, h0))) hk) dX7_dropped_202
                refine tr_loop (fun q => tr_Wd p l e r_X7_dropped s m args below meth c (MQ below (tr_Qi tr_X w r0 h0) args s 0 0 (tr_R tr_X w)) tr_X w 8 113 [(0, .ref (tr_ad w 0)), (1, .int tv900), (2, .int tv901), (3, .int tv902), (4, .int tv903), (5, .int q.1), (6, .int q.2.1), (7, .int q.2.2.1)] [] q.2.2.2) hk ?_ _ _ _ hP hS (lv_sub hl [3, 4, 5, 6, 7, 2, 1, 0] rfl)
                intro P113 hin113 hex113 q hk
                obtain ⟨tv20, tv21, tv22, th23⟩ := q
                intro H locs ls hP hS hl
                replace hk : tr_ok (f_X7_dropped_L113 tv900 tv901 tv902 tv20 tv21 tv22 th23) P113 := hk
                unfold f_X7_dropped_L113 at hk
                refine lv_iload hx hb dX7_dropped_113 (lv_at hl 7 rfl) ?_
                refine lv_aload_n hx hb dX7_dropped_115 rfl (lv_at hl 0 rfl) ?_
                refine gf_X7_16 C hP dX7_dropped_116 ?_
                refine gf_X7_92 tr_net_2 C hP dX7_dropped_119 ?_
                refine lv_icmp_ge (tgt := 193) hx hb dX7_dropped_122 (by decide) (fun tc24 => ?_) (fun tc24 => ?_)
                · replace hk := tr_ift hk tc24
                  replace hk := hex113 _ (tr_okS hk)
                  replace hk : tr_ok (f_X7_dropped_E193 tv903 tv20 tv21 th23) (fun o => o = (r0, h0)) := hk
                  exact j193_113 tv20 tv21 th23 hk _ _ _ hP hS (lv_sub hl [4, 5, 6] rfl)
                · replace hk := tr_iff hk tc24
                  refine lv_aload_n hx hb dX7_dropped_125 rfl (lv_at hl 0 rfl) ?_
                  refine gf_X7_20 C hP dX7_dropped_126 ?_
                  refine lv_iload_n hx hb dX7_dropped_129 rfl (lv_at hl 1 rfl) ?_
                  refine lv_iload hx hb dX7_dropped_130 (lv_at hl 7 rfl) ?_
                  refine lv_aload_n hx hb dX7_dropped_132 rfl (lv_at hl 0 rfl) ?_
                  refine gf_X7_16 C hP dX7_dropped_133 ?_
                  refine lv_iload_n hx hb dX7_dropped_136 rfl (lv_at hl 1 rfl) ?_
                  refine lv_iload hx hb dX7_dropped_137 (lv_at hl 7 rfl) ?_
                  obtain ⟨tv26, tq25, hk⟩ := tr_okb hk
                  refine tr_cvi (As := [.int tv900, .int tv22]) (rest := [.int tv22, .int tv900, .ref (tr_ad w 4)]) C hP hS hl (c_X2_of l w 2 tr_net_2 tv900 tv22 th23 tv26 tq25) mz_X2_of ml_X7_116 (by decide) rfl rfl rfl rfl ⟨Nat.le_of_ble_eq_true rfl, Nat.le_of_ble_eq_true rfl⟩ rfl rfl (Nat.le_of_ble_eq_true rfl) ⟨Nat.le_refl _, Nat.le_refl _⟩ dX7_dropped_139 (fun H locs hP hS => ?_)
                  obtain ⟨tv28, th29, tq27, hk⟩ := tr_okb2 hk
                  refine tr_cvi (As := [.int tv900, .int tv22, .int tv26]) (rest := []) C hP hS hl (c_X2_lay l w 4 tr_net_4 tv900 tv22 tv26 th23 tv28 th29 tq27) mz_X2_lay ml_X7_169 (by decide) rfl rfl rfl rfl ⟨Nat.le_of_ble_eq_true rfl, Nat.le_of_ble_eq_true rfl⟩ rfl rfl (Nat.le_of_ble_eq_true rfl) ⟨Nat.le_refl _, Nat.le_refl _⟩ dX7_dropped_142 (fun H locs hP hS => ?_)
                  refine lv_pop hx hb dX7_dropped_145 rfl ?_
                  refine lv_aload_n hx hb dX7_dropped_146 rfl (lv_at hl 0 rfl) ?_
                  refine gf_X7_55 C hP dX7_dropped_147 ?_
                  refine lv_aload_n hx hb dX7_dropped_150 rfl (lv_at hl 0 rfl) ?_
                  refine gf_X7_20 C hP dX7_dropped_151 ?_
                  refine lv_iload_n hx hb dX7_dropped_154 rfl (lv_at hl 2 rfl) ?_
                  obtain ⟨tv31, th32, tq30, hk⟩ := tr_okb2 hk
                  refine tr_cvi (As := [.ref (tr_ad w 4), .int tv901]) (rest := []) C hP hS hl (c_X6_isKept l w 4 tr_net_4 tv901 th29 tv31 th32 tq30) mz_X6_isKept ml_X7_142 (by decide) rfl rfl rfl rfl ⟨Nat.le_of_ble_eq_true rfl, Nat.le_of_ble_eq_true rfl⟩ rfl rfl (Nat.le_of_ble_eq_true rfl) ⟨Nat.le_refl _, Nat.le_refl _⟩ dX7_dropped_155 (fun H locs hP hS => ?_)
                  refine lv_if_ne (tgt := 174) hx hb dX7_dropped_158 (by decide) (fun tc33 => ?_) (fun tc33 => ?_)
                  · replace hk := tr_iff hk tc33
                    refine lv_aload_n hx hb dX7_dropped_174 rfl (lv_at hl 0 rfl) ?_
                    refine gf_X7_20 C hP dX7_dropped_175 ?_
                    refine lv_iload_n hx hb dX7_dropped_178 rfl (lv_at hl 1 rfl) ?_
                    refine lv_iload hx hb dX7_dropped_179 (lv_at hl 7 rfl) ?_
                    refine lv_bipush (v := (-9)) hx hb dX7_dropped_181 (by decide) ?_
                    obtain ⟨tv35, th36, tq34, hk⟩ := tr_okb2 hk
                    refine tr_cvi (As := [.int tv900, .int tv22, .int (-9)]) (rest := []) C hP hS hl (c_X2_lay l w 4 tr_net_4 tv900 tv22 (-9) th32 tv35 th36 tq34) mz_X2_lay ml_X7_169 (by decide) rfl rfl rfl rfl ⟨Nat.le_of_ble_eq_true rfl, Nat.le_of_ble_eq_true rfl⟩ rfl rfl (Nat.le_of_ble_eq_true rfl) ⟨Nat.le_refl _, Nat.le_refl _⟩ dX7_dropped_183 (fun H locs hP hS => ?_)
                    refine lv_pop hx hb dX7_dropped_186 rfl ?_
                    obtain ⟨tv37, etv37, hk⟩ := tr_okd hk
                    refine lv_iinc (v := tv37) (lv' := [(7, .int tv37), (0, .ref (tr_ad w 0)), (1, .int tv900), (2, .int tv901), (3, .int tv902), (4, .int tv903), (5, .int tv20), (6, .int tv21)]) hx hb dX7_dropped_187 hl (k := 7) rfl (by rw [etv37]; rfl) (by decide) rfl (fun ls hl => ?_)
                    refine lv_goto (tgt := 113) hx hb dX7_dropped_190 (by decide) ?_
                    exact hin113 _ (tr_okS hk) _ _ _ hP hS (lv_sub hl [1, 2, 3, 4, 5, 6, 7, 0] rfl)
                  · replace hk := tr_ift hk tc33
                    refine lv_iload hx hb dX7_dropped_161 (lv_at hl 5 rfl) ?_
                    refine lv_iload_n hx hb dX7_dropped_163 rfl (lv_at hl 3 rfl) ?_
                    refine lv_imul hx hb dX7_dropped_164 ?_
                    refine tr_ti hk (fun tv38 hk => ?_)
                    refine lv_istore (lv' := [(5, .int tv38), (0, .ref (tr_ad w 0)), (1, .int tv900), (2, .int tv901), (3, .int tv902), (4, .int tv903), (6, .int tv21), (7, .int tv22)]) hx hb dX7_dropped_165 hl (by decide) rfl (fun ls hl => ?_)
                    refine lv_iload hx hb dX7_dropped_167 (lv_at hl 6 rfl) ?_
                    refine lv_bipush (v := 10) hx hb dX7_dropped_169 (by decide) ?_
                    refine lv_imul hx hb dX7_dropped_171 ?_
                    refine tr_ti hk (fun tv39 hk => ?_)
                    refine lv_istore (lv' := [(6, .int tv39), (5, .int tv38), (0, .ref (tr_ad w 0)), (1, .int tv900), (2, .int tv901), (3, .int tv902), (4, .int tv903), (7, .int tv22)]) hx hb dX7_dropped_172 hl (by decide) rfl (fun ls hl => ?_)
                    refine lv_aload_n hx hb dX7_dropped_174 rfl (lv_at hl 2 rfl) ?_
                    refine gf_X7_20 C hP dX7_dropped_175 ?_
                    refine lv_iload_n hx hb dX7_dropped_178 rfl (lv_at hl 3 rfl) ?_
                    refine lv_iload hx hb dX7_dropped_179 (lv_at hl 7 rfl) ?_
                    refine lv_bipush (v := (-9)) hx hb dX7_dropped_181 (by decide) ?_
                    obtain ⟨tv41, th42, tq40, hk⟩ := tr_okb2 hk
                    refine tr_cvi (As := [.int tv900, .int tv22, .int (-9)]) (rest := []) C hP hS hl (c_X2_lay l w 4 tr_net_4 tv900 tv22 (-9) th32 tv41 th42 tq40) mz_X2_lay ml_X7_169 (by decide) rfl rfl rfl rfl ⟨Nat.le_of_ble_eq_true rfl, Nat.le_of_ble_eq_true rfl⟩ rfl rfl (Nat.le_of_ble_eq_true rfl) ⟨Nat.le_refl _, Nat.le_refl _⟩ dX7_dropped_183 (fun H locs hP hS => ?_)
                    refine lv_pop hx hb dX7_dropped_186 rfl ?_
                    obtain ⟨tv43, etv43, hk⟩ := tr_okd hk
                    refine lv_iinc (v := tv43) (lv' := [(7, .int tv43), (6, .int tv39), (5, .int tv38), (0, .ref (tr_ad w 0)), (1, .int tv900), (2, .int tv901), (3, .int tv902), (4, .int tv903)]) hx hb dX7_dropped_187 hl (k := 7) rfl (by rw [etv43]; rfl) (by decide) rfl (fun ls hl => ?_)
                    refine lv_goto (tgt := 113) hx hb dX7_dropped_190 (by decide) ?_
                    exact hin113 _ (tr_okS hk) _ _ _ hP hS (lv_sub hl [3, 4, 5, 6, 7, 2, 1, 0] rfl)
              · replace hk := tr_ift hk tc14
                refine lv_iconst (v := 0) hx hb dX7_dropped_96 (by decide) ?_
                refine lv_iconst (v := 1) hx hb dX7_dropped_97 (by decide) ?_
                refine lv_iload hx hb dX7_dropped_98 (lv_at hl 4 rfl) ?_
                obtain ⟨tv45, tq44, hk⟩ := tr_okb hk
                refine tr_csi (As := [.int 0, .int 1, .int tv903]) (rest := []) C hP hS hl (c_X7_told l w 0 1 tv903 th13 tv45 tq44) mz_X7_told ml_X7_131 rfl rfl ⟨Nat.le_of_ble_eq_true rfl, Nat.le_of_ble_eq_true rfl⟩ rfl rfl (Nat.le_of_ble_eq_true rfl) ⟨Nat.le_refl _, Nat.le_refl _⟩ dX7_dropped_100 (fun H locs hP hS => ?_)
                exact tr_iret C hP hS hr hlocks (tr_okS (P := (fun o => o = (r0, h0))) hk) dX7_dropped_103
            refine tr_loop (fun q => tr_Wd p l e r_X7_dropped s m args below meth c (MQ below (tr_Qi tr_X w r0 h0) args s 0 0 (tr_R tr_X w)) tr_X w 8 50 [(0, .ref (tr_ad w 0)), (1, .int tv900), (2, .int tv901), (3, .int tv902), (4, .int tv903), (5, .int q.1)] [] q.2) hk ?_ _ _ _ hP hS (lv_sub hl [1, 2, 3, 4, 5, 0] rfl)
            intro P50 hin50 hex50 q hk
            obtain ⟨tv46, th47⟩ := q
            intro H locs ls hP hS hl
            replace hk : tr_ok (f_X7_dropped_L50 tv900 tv46 th47) P50 := hk
            unfold f_X7_dropped_L50 at hk
            refine lv_iload hx hb dX7_dropped_50 (lv_at hl 5 rfl) ?_
            refine lv_aload_n hx hb dX7_dropped_52 rfl (lv_at hl 0 rfl) ?_
            refine gf_X7_16 C hP dX7_dropped_53 ?_
            refine gf_X7_92 tr_net_2 C hP dX7_dropped_56 ?_
            refine lv_icmp_ge (tgt := 81) hx hb dX7_dropped_59 (by decide) (fun tc48 => ?_) (fun tc48 => ?_)
            · replace hk := tr_ift hk tc48
              replace hk := hex50 _ (tr_okS hk)
              replace hk : tr_ok (f_X7_dropped_E81 tv901 tv903 tv900 tv902 th47) (fun o => o = (r0, h0)) := hk
              exact j81_50 th47 hk _ _ _ hP hS (lv_sub hl [0, 1, 2, 3, 4] rfl)
            · replace hk := tr_iff hk tc48
              refine lv_aload_n hx hb dX7_dropped_62 rfl (lv_at hl 0 rfl) ?_
              refine gf_X7_20 C hP dX7_dropped_63 ?_
              refine lv_iload_n hx hb dX7_dropped_66 rfl (lv_at hl 1 rfl) ?_
              refine lv_iload hx hb dX7_dropped_67 (lv_at hl 5 rfl) ?_
              refine lv_bipush (v := (-9)) hx hb dX7_dropped_69 (by decide) ?_
              obtain ⟨tv50, th51, tq49, hk⟩ := tr_okb2 hk
              refine tr_cvi (As := [.int tv900, .int tv46, .int (-9)]) (rest := []) C hP hS hl (c_X2_lay l w 4 tr_net_4 tv900 tv46 (-9) th47 tv50 th51 tq49) mz_X2_lay ml_X7_169 (by decide) rfl rfl rfl rfl ⟨Nat.le_of_ble_eq_true rfl, Nat.le_of_ble_eq_true rfl⟩ rfl rfl (Nat.le_of_ble_eq_true rfl) ⟨Nat.le_refl _, Nat.le_refl _⟩ dX7_dropped_71 (fun H locs hP hS => ?_)
              refine lv_pop hx hb dX7_dropped_74 rfl ?_
              obtain ⟨tv52, etv52, hk⟩ := tr_okd hk
              refine lv_iinc (v := tv52) (lv' := [(5, .int tv52), (0, .ref (tr_ad w 0)), (1, .int tv900), (2, .int tv901), (3, .int tv902), (4, .int tv903)]) hx hb dX7_dropped_75 hl (k := 5) rfl (by rw [etv52]; rfl) (by decide) rfl (fun ls hl => ?_)
              refine lv_goto (tgt := 50) hx hb dX7_dropped_78 (by decide) ?_
              exact hin50 _ (tr_okS hk) _ _ _ hP hS (lv_sub hl [1, 2, 3, 4, 5, 0] rfl)
          · replace hk := tr_iff hk tc7
            refine lv_bipush (v := (-2)) hx hb dX7_dropped_33 (by decide) ?_
            exact tr_iret C hP hS hr hlocks (tr_okS (P := (fun o => o = (r0, h0))) hk) dX7_dropped_35
  · replace hk := tr_ift hk tc3
    refine lv_iconst (v := (-1)) hx hb dX7_dropped_11 (by decide) ?_
    exact tr_iret C hP hS hr hlocks (tr_okS (P := (fun o => o = (r0, h0))) hk) dX7_dropped_12
abbrev r_X7_seed : Room := { frames := 0, cells := 0, slots := 0, locals := 0 }
set_option maxHeartbeats 4000000 in
set_option maxRecDepth 100000 in
theorem c_X7_seed (l : Launch) (w : tr_E) (tv900 : Int64) (h : tr_H) (r0 : Int64) (h0 : tr_H) (hk : f_X7_seed tv900 h = some (r0, h0)) : Met l yX7_seed (Cond.code yX7_seed cX7_seed 5 (some .long) :: tr_T) r_X7_seed (va_Pc [.ref (tr_ad w 0), .long tv900] (tr_Wo tr_X w h)) (tr_Ql tr_X w r0 h0) 0 0 (tr_R tr_X w) := by
  refine tr_start (by decide) (Nat.le_refl _) ?_
  intro p e s m args below meth c C hr hlocks hargs hP
  have hx := C.1
  have hb := C.2.1
  have hS : va_S (tr_R tr_X w) s.heap s.heap [] := va_S.rf
  have hl := lv_entry ([.ref (tr_ad w 0), .long tv900]) (n := 5) (Nat.le_of_ble_eq_true rfl)
  rw [lg_entry_eq]
  generalize (lg_sl ([.ref (tr_ad w 0), .long tv900]) ++ List.replicate (5 - (lg_sl ([.ref (tr_ad w 0), .long tv900])).length) Slot.unset).toArray = ls at hl ⊢
  have hl : lv_has ls 5 [(0, .ref (tr_ad w 0)), (1, .long tv900)] := hl
  replace hk : tr_ok (f_X7_seed tv900 h) (fun o => o = (r0, h0)) := ⟨_, hk, rfl⟩
  unfold f_X7_seed at hk
  refine lv_aload_n hx hb dX7_seed_0 rfl (lv_at hl 0 rfl) ?_
  refine gf_X7_197 C hP dX7_seed_1 ?_
  refine tr_tl hk (fun tv1 hk => ?_)
  refine lv_lstore_n (lv' := [(3, .long tv1), (0, .ref (tr_ad w 0)), (1, .long tv900)]) hx hb dX7_seed_4 rfl hl (by decide) rfl (fun ls hl => ?_)
  refine lv_aload_n hx hb dX7_seed_5 rfl (lv_at hl 1 rfl) ?_
  refine lv_lload_n hx hb dX7_seed_6 rfl (lv_at hl 2 rfl) ?_
  refine pf_X7_197 C hP hS dX7_seed_7 (fun H locs hP hS => ?_)
  refine tr_th hk hP (fun th2 hk hP => ?_)
  refine lv_lload_n hx hb dX7_seed_10 rfl (lv_at hl 0 rfl) ?_
  exact tr_lret C hP hS hr hlocks (tr_okS (P := (fun o => o = (r0, h0))) hk) dX7_seed_11
abbrev r_X7_drawn : Room := { frames := 3, cells := 0, slots := 0, locals := 72 }
set_option maxHeartbeats 4000000 in
set_option maxRecDepth 100000 in
theorem c_X7_drawn (l : Launch) (w : tr_E) (tv900 : Int32) (h : tr_H) (r0 : Int32) (h0 : tr_H) (hk : f_X7_drawn tv900 h = some (r0, h0)) : Met l yX7_drawn (Cond.code yX7_drawn cX7_drawn 6 (some .int) :: tr_T) r_X7_drawn (va_Pc [.ref (tr_ad w 0), .int tv900] (tr_Wo tr_X w h)) (tr_Qi tr_X w r0 h0) 0 0 (tr_R tr_X w) := by
  refine tr_start (by decide) (Nat.le_refl _) ?_
  intro p e s m args below meth c C hr hlocks hargs hP
  have hx := C.1
  have hb := C.2.1
  have hS : va_S (tr_R tr_X w) s.heap s.heap [] := va_S.rf
  have hl := lv_entry ([.ref (tr_ad w 0), .int tv900]) (n := 6) (Nat.le_of_ble_eq_true rfl)
  rw [lg_entry_eq]
  generalize (lg_sl ([.ref (tr_ad w 0), .int tv900]) ++ List.replicate (6 - (lg_sl ([.ref (tr_ad w 0), .int tv900])).length) Slot.unset).toArray = ls at hl ⊢
  have hl : lv_has ls 6 [(0, .ref (tr_ad w 0)), (1, .int tv900)] := hl
  replace hk : tr_ok (f_X7_drawn tv900 h) (fun o => o = (r0, h0)) := ⟨_, hk, rfl⟩
  unfold f_X7_drawn at hk
  refine lv_iload_n hx hb dX7_drawn_0 rfl (lv_at hl 1 rfl) ?_
  refine lv_iconst (v := 1) hx hb dX7_drawn_1 (by decide) ?_
  refine lv_icmp_lt (tgt := 11) hx hb dX7_drawn_2 (by decide) (fun tc1 => ?_) (fun tc1 => ?_)
  · replace hk := tr_ift hk tc1
    refine lv_bipush (v := (-2)) hx hb dX7_drawn_11 (by decide) ?_
    exact tr_iret C hP hS hr hlocks (tr_okS (P := (fun o => o = (r0, h0))) hk) dX7_drawn_13
  · replace hk := tr_iff hk tc1
    refine lv_iload_n hx hb dX7_drawn_5 rfl (lv_at hl 1 rfl) ?_
    refine lv_bipush (v := 20) hx hb dX7_drawn_6 (by decide) ?_
    refine lv_icmp_le (tgt := 14) hx hb dX7_drawn_8 (by decide) (fun tc2 => ?_) (fun tc2 => ?_)
    · replace hk := tr_ift hk tc2
      refine lv_aload_n hx hb dX7_drawn_14 rfl (lv_at hl 0 rfl) ?_
      refine gf_X7_20 C hP dX7_drawn_15 ?_
      refine lv_aload_n hx hb dX7_drawn_18 rfl (lv_at hl 0 rfl) ?_
      refine gf_X7_16 C hP dX7_drawn_19 ?_
      obtain ⟨th4, tq3, hk⟩ := tr_okb hk
      refine tr_cvv (As := [.ref (tr_ad w 2)]) (rest := []) C hP hS hl (c_X2_copyFrom l w 4 tr_net_4 2 tr_net_2 h th4 tq3) mz_X2_copyFrom ml_X7_81 (by decide) rfl rfl rfl rfl ⟨Nat.le_of_ble_eq_true rfl, Nat.le_of_ble_eq_true rfl⟩ rfl rfl (Nat.le_of_ble_eq_true rfl) ⟨Nat.le_refl _, Nat.le_refl _⟩ dX7_drawn_22 (fun H locs hP hS => ?_)
      refine lv_iconst (v := 0) hx hb dX7_drawn_25 (by decide) ?_
      refine lv_istore_n (lv' := [(2, .int 0), (0, .ref (tr_ad w 0)), (1, .int tv900)]) hx hb dX7_drawn_26 rfl hl (by decide) rfl (fun ls hl => ?_)
      refine lv_iconst (v := 0) hx hb dX7_drawn_27 (by decide) ?_
      refine lv_istore_n (lv' := [(3, .int 0), (2, .int 0), (0, .ref (tr_ad w 0)), (1, .int tv900)]) hx hb dX7_drawn_28 rfl hl (by decide) rfl (fun ls hl => ?_)
      have j132_29 : ∀ (tv5 : Int32) (th6 : tr_H), tr_ok (f_X7_drawn_E132 tv5 th6) (fun o => o = (r0, h0)) → tr_Wd p l e r_X7_drawn s m args below meth c (MQ below (tr_Qi tr_X w r0 h0) args s 0 0 (tr_R tr_X w)) tr_X w 6 132 [(2, .int tv5)] [] th6 := by
        intro tv5 th6 hk H locs ls hP hS hl
        unfold f_X7_drawn_E132 at hk
        refine lv_iload_n hx hb dX7_drawn_132 rfl (lv_at hl 0 rfl) ?_
        exact tr_iret C hP hS hr hlocks (tr_okS (P := (fun o => o = (r0, h0))) hk) dX7_drawn_133
      refine tr_loop (fun q => tr_Wd p l e r_X7_drawn s m args below meth c (MQ below (tr_Qi tr_X w r0 h0) args s 0 0 (tr_R tr_X w)) tr_X w 6 29 [(0, .ref (tr_ad w 0)), (1, .int tv900), (2, .int q.1), (3, .int q.2.1)] [] q.2.2) hk ?_ _ _ _ hP hS (lv_sub hl [2, 3, 1, 0] rfl)
      intro P29 hin29 hex29 q hk
      obtain ⟨tv7, tv8, th9⟩ := q
      intro H locs ls hP hS hl
      replace hk : tr_ok (f_X7_drawn_L29 tv900 tv7 tv8 th9) P29 := hk
      unfold f_X7_drawn_L29 at hk
      refine lv_iload_n hx hb dX7_drawn_29 rfl (lv_at hl 3 rfl) ?_
      refine lv_iload_n hx hb dX7_drawn_30 rfl (lv_at hl 1 rfl) ?_
      refine lv_icmp_ge (tgt := 132) hx hb dX7_drawn_31 (by decide) (fun tc10 => ?_) (fun tc10 => ?_)
      · replace hk := tr_ift hk tc10
        replace hk := hex29 _ (tr_okS hk)
        replace hk : tr_ok (f_X7_drawn_E132 tv7 th9) (fun o => o = (r0, h0)) := hk
        exact j132_29 tv7 th9 hk _ _ _ hP hS (lv_sub hl [2] rfl)
      · replace hk := tr_iff hk tc10
        refine lv_aload_n hx hb dX7_drawn_34 rfl (lv_at hl 0 rfl) ?_
        refine lv_aload_n hx hb dX7_drawn_35 rfl (lv_at hl 0 rfl) ?_
        refine gf_X7_197 C hP dX7_drawn_36 ?_
        refine lv_ldc2 (v := 6364136223846793005) hx hb C.2.2.2.1 (C.2.2.2.2.1 _ mc_X7_201) dX7_drawn_39 ?_
        refine lv_lmul hx hb dX7_drawn_42 ?_
        refine lv_ldc2 (v := 1442695040888963407) hx hb C.2.2.2.1 (C.2.2.2.2.1 _ mc_X7_203) dX7_drawn_43 ?_
        refine lv_ladd hx hb dX7_drawn_46 ?_
        refine pf_X7_197 C hP hS dX7_drawn_47 (fun H locs hP hS => ?_)
        refine tr_th hk hP (fun th11 hk hP => ?_)
        refine lv_aload_n hx hb dX7_drawn_50 rfl (lv_at hl 0 rfl) ?_
        refine gf_X7_197 C hP dX7_drawn_51 ?_
        refine lv_bipush (v := 33) hx hb dX7_drawn_54 (by decide) ?_
        refine lv_lushr hx hb dX7_drawn_56 rfl ?_
        refine lv_l2i hx hb dX7_drawn_57 rfl ?_
        refine tr_ti hk (fun tv12 hk => ?_)
        refine lv_istore (lv' := [(4, .int tv12), (0, .ref (tr_ad w 0)), (1, .int tv900), (2, .int tv7), (3, .int tv8)]) hx hb dX7_drawn_58 hl (by decide) rfl (fun ls hl => ?_)
        refine lv_iload hx hb dX7_drawn_60 (lv_at hl 0 rfl) ?_
        refine lv_bipush (v := 64) hx hb dX7_drawn_62 (by decide) ?_
        refine lv_idiv hx hb dX7_drawn_64 (by decide) ?_
        refine lv_bipush (v := 11) hx hb dX7_drawn_65 (by decide) ?_
        refine lv_irem hx hb dX7_drawn_67 (by decide) ?_
        refine tr_ti hk (fun tv13 hk => ?_)
        refine lv_istore (lv' := [(5, .int tv13), (4, .int tv12), (0, .ref (tr_ad w 0)), (1, .int tv900), (2, .int tv7), (3, .int tv8)]) hx hb dX7_drawn_68 hl (by decide) rfl (fun ls hl => ?_)
        refine lv_aload_n hx hb dX7_drawn_70 rfl (lv_at hl 2 rfl) ?_
        refine gf_X7_20 C hP dX7_drawn_71 ?_
        refine lv_iload hx hb dX7_drawn_74 (lv_at hl 1 rfl) ?_
        refine lv_bipush (v := 6) hx hb dX7_drawn_76 (by decide) ?_
        refine lv_irem hx hb dX7_drawn_78 (by decide) ?_
        refine lv_iload hx hb dX7_drawn_79 (lv_at hl 1 rfl) ?_
        refine lv_bipush (v := 8) hx hb dX7_drawn_81 (by decide) ?_
        refine lv_idiv hx hb dX7_drawn_83 (by decide) ?_
        refine lv_bipush (v := 6) hx hb dX7_drawn_84 (by decide) ?_
        refine lv_irem hx hb dX7_drawn_86 (by decide) ?_
        refine lv_iload hx hb dX7_drawn_87 (lv_at hl 0 rfl) ?_
        refine lv_bipush (v := 9) hx hb dX7_drawn_89 (by decide) ?_
        have j101 : ∀ (tv14 : Int32), tr_ok (f_X7_drawn_J101 tv12 th11 tv7 tv8 tv14) P29 → tr_Wd p l e r_X7_drawn s m args below meth c (MQ below (tr_Qi tr_X w r0 h0) args s 0 0 (tr_R tr_X w)) tr_X w 6 101 [(0, .ref (tr_ad w 0)), (1, .int tv900), (2, .int tv7), (3, .int tv8)] [.int tv14, .int ((tv12 / 8) - (tv12 / 8) / 6 * 6), .int (tv12 - tv12 / 6 * 6), .ref (tr_ad w 4)] th11 := by
          intro tv14 hk H locs ls hP hS hl
          unfold f_X7_drawn_J101 at hk
          obtain ⟨tv16, th17, tq15, hk⟩ := tr_okb2 hk
          refine tr_cvi (As := [.int (tv12 - tv12 / 6 * 6), .int ((tv12 / 8) - (tv12 / 8) / 6 * 6), .int tv14]) (rest := []) C hP hS hl (c_X2_lay l w 4 tr_net_4 (tv12 - tv12 / 6 * 6) ((tv12 / 8) - (tv12 / 8) / 6 * 6) tv14 th11 tv16 th17 tq15) mz_X2_lay ml_X7_169 (by decide) rfl rfl rfl rfl ⟨Nat.le_of_ble_eq_true rfl, Nat.le_of_ble_eq_true rfl⟩ rfl rfl (Nat.le_of_ble_eq_true rfl) ⟨Nat.le_refl _, Nat.le_refl _⟩ dX7_drawn_101 (fun H locs hP hS => ?_)
          refine lv_pop hx hb dX7_drawn_104 rfl ?_
          refine lv_iload_n hx hb dX7_drawn_105 rfl (lv_at hl 2 rfl) ?_
          refine lv_iconst (v := 0) hx hb dX7_drawn_106 (by decide) ?_
          refine lv_aload_n hx hb dX7_drawn_107 rfl (lv_at hl 0 rfl) ?_
          refine gf_X7_55 C hP dX7_drawn_108 ?_
          refine lv_aload_n hx hb dX7_drawn_111 rfl (lv_at hl 0 rfl) ?_
          refine gf_X7_20 C hP dX7_drawn_112 ?_
          obtain ⟨tv19, th20, tq18, hk⟩ := tr_okb2 hk
          refine tr_cvi (As := [.ref (tr_ad w 4)]) (rest := [.int 0, .int tv7]) C hP hS hl (c_X6_slowest l w 4 tr_net_4 th17 tv19 th20 tq18) mz_X6_slowest ml_X7_127 (by decide) rfl rfl rfl rfl ⟨Nat.le_of_ble_eq_true rfl, Nat.le_of_ble_eq_true rfl⟩ rfl rfl (Nat.le_of_ble_eq_true rfl) ⟨Nat.le_refl _, Nat.le_refl _⟩ dX7_drawn_115 (fun H locs hP hS => ?_)
          refine tr_mx C hl ml_X7_205 ⟨Nat.le_of_ble_eq_true rfl, Nat.le_of_ble_eq_true rfl⟩ ⟨Nat.le_refl _, Nat.le_refl _⟩ dX7_drawn_118 ?_
          refine lv_bipush (v := 60) hx hb dX7_drawn_121 (by decide) ?_
          refine lv_idiv hx hb dX7_drawn_123 (by decide) ?_
          refine lv_iadd hx hb dX7_drawn_124 ?_
          refine tr_ti hk (fun tv21 hk => ?_)
          refine lv_istore_n (lv' := [(2, .int tv21), (0, .ref (tr_ad w 0)), (1, .int tv900), (3, .int tv8)]) hx hb dX7_drawn_125 rfl hl (by decide) rfl (fun ls hl => ?_)
          obtain ⟨tv22, etv22, hk⟩ := tr_okd hk
          refine lv_iinc (v := tv22) (lv' := [(3, .int tv22), (2, .int tv21), (0, .ref (tr_ad w 0)), (1, .int tv900)]) hx hb dX7_drawn_126 hl (k := 3) rfl (by rw [etv22]; rfl) (by decide) rfl (fun ls hl => ?_)
          refine lv_goto (tgt := 29) hx hb dX7_drawn_129 (by decide) ?_
          exact hin29 _ (tr_okS hk) _ _ _ hP hS (lv_sub hl [2, 3, 1, 0] rfl)
        refine lv_icmp_le (tgt := 99) hx hb dX7_drawn_91 (by decide) (fun tc23 => ?_) (fun tc23 => ?_)
        · replace hk := tr_ift hk tc23
          refine lv_iload hx hb dX7_drawn_99 (lv_at hl 0 rfl) ?_
          exact j101 tv13 hk _ _ _ hP hS (lv_sub hl [2, 3, 4, 5] rfl)
        · replace hk := tr_iff hk tc23
          refine lv_bipush (v := (-9)) hx hb dX7_drawn_94 (by decide) ?_
          refine lv_goto (tgt := 101) hx hb dX7_drawn_96 (by decide) ?_
          exact j101 (-9) hk _ _ _ hP hS (lv_sub hl [2, 3, 4, 5] rfl)
    · replace hk := tr_iff hk tc2
      refine lv_bipush (v := (-2)) hx hb dX7_drawn_11 (by decide) ?_
      exact tr_iret C hP hS hr hlocks (tr_okS (P := (fun o => o = (r0, h0))) hk) dX7_drawn_13
abbrev r_X7_keep : Room := { frames := 2, cells := 0, slots := 0, locals := 47 }
set_option maxHeartbeats 4000000 in
set_option maxRecDepth 100000 in
theorem c_X7_keep (l : Launch) (w : tr_E) (tv900 : Int32) (h : tr_H) (r0 : Int32) (h0 : tr_H) (hk : f_X7_keep tv900 h = some (r0, h0)) : Met l yX7_keep (Cond.code yX7_keep cX7_keep 2 (some .int) :: tr_T) r_X7_keep (va_Pc [.ref (tr_ad w 0), .int tv900] (tr_Wo tr_X w h)) (tr_Qi tr_X w r0 h0) 0 0 (tr_R tr_X w) := by
  refine tr_start (by decide) (Nat.le_refl _) ?_
  intro p e s m args below meth c C hr hlocks hargs hP
  have hx := C.1
  have hb := C.2.1
  have hS : va_S (tr_R tr_X w) s.heap s.heap [] := va_S.rf
  have hl := lv_entry ([.ref (tr_ad w 0), .int tv900]) (n := 2) (Nat.le_of_ble_eq_true rfl)
  rw [lg_entry_eq]
  generalize (lg_sl ([.ref (tr_ad w 0), .int tv900]) ++ List.replicate (2 - (lg_sl ([.ref (tr_ad w 0), .int tv900])).length) Slot.unset).toArray = ls at hl ⊢
  have hl : lv_has ls 2 [(0, .ref (tr_ad w 0)), (1, .int tv900)] := hl
  replace hk : tr_ok (f_X7_keep tv900 h) (fun o => o = (r0, h0)) := ⟨_, hk, rfl⟩
  unfold f_X7_keep at hk
  refine lv_iload_n hx hb dX7_keep_0 rfl (lv_at hl 1 rfl) ?_
  refine lv_if_lt (tgt := 9) hx hb dX7_keep_1 (by decide) (fun tc1 => ?_) (fun tc1 => ?_)
  · replace hk := tr_ift hk tc1
    refine lv_iconst (v := (-1)) hx hb dX7_keep_9 (by decide) ?_
    exact tr_iret C hP hS hr hlocks (tr_okS (P := (fun o => o = (r0, h0))) hk) dX7_keep_10
  · replace hk := tr_iff hk tc1
    refine lv_iload_n hx hb dX7_keep_4 rfl (lv_at hl 1 rfl) ?_
    refine lv_iconst (v := 2) hx hb dX7_keep_5 (by decide) ?_
    refine lv_icmp_lt (tgt := 11) hx hb dX7_keep_6 (by decide) (fun tc2 => ?_) (fun tc2 => ?_)
    · replace hk := tr_ift hk tc2
      refine lv_aload_n hx hb dX7_keep_11 rfl (lv_at hl 0 rfl) ?_
      refine gf_X7_23 C hP dX7_keep_12 ?_
      refine lv_iload_n hx hb dX7_keep_15 rfl (lv_at hl 1 rfl) ?_
      obtain ⟨tg3, hk⟩ := tr_okg hk
      refine tr_nal C hP tg3 dX7_keep_16 ?_
      refine lv_aload_n hx hb dX7_keep_17 rfl (lv_at hl 0 rfl) ?_
      refine gf_X7_16 C hP dX7_keep_18 ?_
      obtain ⟨th5, tq4, hk⟩ := tr_okb hk
      refine tr_cvv (As := [.ref (tr_ad w 2)]) (rest := []) C hP hS hl (c_X2_copyFrom l w (6 + 2 * tv900.toNatClampNeg) (tr_net_sl tg3) 2 tr_net_2 h th5 tq4) mz_X2_copyFrom ml_X7_81 (tr_net_lt (tr_net_sl tg3)) (tr_net_cx (tr_net_sl tg3) (tr_ad w) w.2.1 (h.1 (6 + 2 * tv900.toNatClampNeg)) (h.2 (6 + 2 * tv900.toNatClampNeg))) rfl rfl rfl ⟨Nat.le_of_ble_eq_true rfl, Nat.le_of_ble_eq_true rfl⟩ rfl rfl (Nat.le_of_ble_eq_true rfl) ⟨Nat.le_refl _, Nat.le_refl _⟩ dX7_keep_21 (fun H locs hP hS => ?_)
      refine lv_aload_n hx hb dX7_keep_24 rfl (lv_at hl 0 rfl) ?_
      refine gf_X7_27 C hP dX7_keep_25 ?_
      refine lv_iload_n hx hb dX7_keep_28 rfl (lv_at hl 1 rfl) ?_
      refine lv_iconst (v := 1) hx hb dX7_keep_29 (by decide) ?_
      obtain ⟨tg6, hk⟩ := tr_okg hk
      refine tr_zas C hP hS (ar_X_11 w) tg6 rfl dX7_keep_30 (fun H locs hP hS => ?_)
      refine tr_th hk hP (fun th7 hk hP => ?_)
      refine lv_aload_n hx hb dX7_keep_31 rfl (lv_at hl 0 rfl) ?_
      refine gf_X7_16 C hP dX7_keep_32 ?_
      obtain ⟨tv9, tq8, hk⟩ := tr_okb hk
      refine tr_cvi (As := []) (rest := []) C hP hS hl (c_X2_waits l w 2 tr_net_2 th7 tv9 tq8) mz_X2_waits ml_X7_88 (by decide) rfl rfl rfl rfl ⟨Nat.le_of_ble_eq_true rfl, Nat.le_of_ble_eq_true rfl⟩ rfl rfl (Nat.le_of_ble_eq_true rfl) ⟨Nat.le_refl _, Nat.le_refl _⟩ dX7_keep_35 (fun H locs hP hS => ?_)
      exact tr_iret C hP hS hr hlocks (tr_okS (P := (fun o => o = (r0, h0))) hk) dX7_keep_38
    · replace hk := tr_iff hk tc2
      refine lv_iconst (v := (-1)) hx hb dX7_keep_9 (by decide) ?_
      exact tr_iret C hP hS hr hlocks (tr_okS (P := (fun o => o = (r0, h0))) hk) dX7_keep_10
abbrev r_X7_again : Room := { frames := 2, cells := 0, slots := 0, locals := 47 }
set_option maxHeartbeats 4000000 in
set_option maxRecDepth 100000 in
theorem c_X7_again (l : Launch) (w : tr_E) (tv900 : Int32) (h : tr_H) (r0 : Int32) (h0 : tr_H) (hk : f_X7_again tv900 h = some (r0, h0)) : Met l yX7_again (Cond.code yX7_again cX7_again 2 (some .int) :: tr_T) r_X7_again (va_Pc [.ref (tr_ad w 0), .int tv900] (tr_Wo tr_X w h)) (tr_Qi tr_X w r0 h0) 0 0 (tr_R tr_X w) := by
  refine tr_start (by decide) (Nat.le_refl _) ?_
  intro p e s m args below meth c C hr hlocks hargs hP
  have hx := C.1
  have hb := C.2.1
  have hS : va_S (tr_R tr_X w) s.heap s.heap [] := va_S.rf
  have hl := lv_entry ([.ref (tr_ad w 0), .int tv900]) (n := 2) (Nat.le_of_ble_eq_true rfl)
  rw [lg_entry_eq]
  generalize (lg_sl ([.ref (tr_ad w 0), .int tv900]) ++ List.replicate (2 - (lg_sl ([.ref (tr_ad w 0), .int tv900])).length) Slot.unset).toArray = ls at hl ⊢
  have hl : lv_has ls 2 [(0, .ref (tr_ad w 0)), (1, .int tv900)] := hl
  replace hk : tr_ok (f_X7_again tv900 h) (fun o => o = (r0, h0)) := ⟨_, hk, rfl⟩
  unfold f_X7_again at hk
  refine lv_iload_n hx hb dX7_again_0 rfl (lv_at hl 1 rfl) ?_
  refine lv_if_lt (tgt := 9) hx hb dX7_again_1 (by decide) (fun tc1 => ?_) (fun tc1 => ?_)
  · replace hk := tr_ift hk tc1
    refine lv_iconst (v := (-1)) hx hb dX7_again_9 (by decide) ?_
    exact tr_iret C hP hS hr hlocks (tr_okS (P := (fun o => o = (r0, h0))) hk) dX7_again_10
  · replace hk := tr_iff hk tc1
    refine lv_iload_n hx hb dX7_again_4 rfl (lv_at hl 1 rfl) ?_
    refine lv_iconst (v := 2) hx hb dX7_again_5 (by decide) ?_
    refine lv_icmp_lt (tgt := 11) hx hb dX7_again_6 (by decide) (fun tc2 => ?_) (fun tc2 => ?_)
    · replace hk := tr_ift hk tc2
      refine lv_aload_n hx hb dX7_again_11 rfl (lv_at hl 0 rfl) ?_
      refine gf_X7_27 C hP dX7_again_12 ?_
      refine lv_iload_n hx hb dX7_again_15 rfl (lv_at hl 1 rfl) ?_
      obtain ⟨tg3, hk⟩ := tr_okg hk
      refine tr_zal C hP (ar_X_11 w) tg3 dX7_again_16 ?_
      refine lv_if_ne (tgt := 23) hx hb dX7_again_17 (by decide) (fun tc4 => ?_) (fun tc4 => ?_)
      · replace hk := tr_iff hk tc4
        refine lv_aload_n hx hb dX7_again_23 rfl (lv_at hl 0 rfl) ?_
        refine gf_X7_16 C hP dX7_again_24 ?_
        refine lv_aload_n hx hb dX7_again_27 rfl (lv_at hl 0 rfl) ?_
        refine gf_X7_23 C hP dX7_again_28 ?_
        refine lv_iload_n hx hb dX7_again_31 rfl (lv_at hl 1 rfl) ?_
        obtain ⟨tg5, hk⟩ := tr_okg hk
        refine tr_nal C hP tg5 dX7_again_32 ?_
        obtain ⟨th7, tq6, hk⟩ := tr_okb hk
        refine tr_cvv (As := [.ref (tr_ad w (6 + 2 * tv900.toNatClampNeg))]) (rest := []) C hP hS hl (c_X2_copyFrom l w 2 tr_net_2 (6 + 2 * tv900.toNatClampNeg) (tr_net_sl tg5) h th7 tq6) mz_X2_copyFrom ml_X7_81 (by decide) rfl rfl rfl rfl ⟨Nat.le_of_ble_eq_true rfl, Nat.le_of_ble_eq_true rfl⟩ rfl rfl (Nat.le_of_ble_eq_true rfl) ⟨Nat.le_refl _, Nat.le_refl _⟩ dX7_again_33 (fun H locs hP hS => ?_)
        refine lv_aload_n hx hb dX7_again_36 rfl (lv_at hl 0 rfl) ?_
        refine gf_X7_41 C hP dX7_again_37 ?_
        obtain ⟨th9, tq8, hk⟩ := tr_okb hk
        refine tr_cvv (As := []) (rest := []) C hP hS hl (c_X1_forget l w th7 th9 tq8) mz_X1_forget ml_X7_85 (by decide) rfl rfl rfl rfl ⟨Nat.le_of_ble_eq_true rfl, Nat.le_of_ble_eq_true rfl⟩ rfl rfl (Nat.le_of_ble_eq_true rfl) ⟨Nat.le_refl _, Nat.le_refl _⟩ dX7_again_40 (fun H locs hP hS => ?_)
        refine lv_aload_n hx hb dX7_again_43 rfl (lv_at hl 0 rfl) ?_
        refine gf_X7_16 C hP dX7_again_44 ?_
        obtain ⟨tv11, tq10, hk⟩ := tr_okb hk
        refine tr_cvi (As := []) (rest := []) C hP hS hl (c_X2_waits l w 2 tr_net_2 th9 tv11 tq10) mz_X2_waits ml_X7_88 (by decide) rfl rfl rfl rfl ⟨Nat.le_of_ble_eq_true rfl, Nat.le_of_ble_eq_true rfl⟩ rfl rfl (Nat.le_of_ble_eq_true rfl) ⟨Nat.le_refl _, Nat.le_refl _⟩ dX7_again_47 (fun H locs hP hS => ?_)
        exact tr_iret C hP hS hr hlocks (tr_okS (P := (fun o => o = (r0, h0))) hk) dX7_again_50
      · replace hk := tr_ift hk tc4
        refine lv_bipush (v := (-3)) hx hb dX7_again_20 (by decide) ?_
        exact tr_iret C hP hS hr hlocks (tr_okS (P := (fun o => o = (r0, h0))) hk) dX7_again_22
    · replace hk := tr_iff hk tc2
      refine lv_iconst (v := (-1)) hx hb dX7_again_9 (by decide) ?_
      exact tr_iret C hP hS hr hlocks (tr_okS (P := (fun o => o = (r0, h0))) hk) dX7_again_10
