abbrev r_X0_settle : Room := { frames := 1, cells := 0, slots := 0, locals := 23 }
set_option maxHeartbeats 4000000 in
set_option maxRecDepth 100000 in
theorem c_X0_settle (l : Launch) (w : tr_E) (tn1 : Nat) (htn1 : tr_net tn1) (tv901 : Int32) (h : tr_H) (h0 : tr_H) (hk : f_X0_settle tn1 tv901 h = some h0) : Met l yX0_settle (Cond.code yX0_settle cX0_settle 7 none :: tr_T) r_X0_settle (va_Pc [.ref (tr_ad w 24), .ref (tr_ad w tn1), .int tv901] (tr_Wo tr_X w h)) (tr_Qv tr_X w h0) 0 0 (tr_R tr_X w) := by
  refine tr_start (by decide) (Nat.le_refl _) ?_
  intro p e s m args below meth c C hr hlocks hargs hP
  have hx := C.1
  have hb := C.2.1
  have hS : va_S (tr_R tr_X w) s.heap s.heap [] := va_S.rf
  have hl := lv_entry ([.ref (tr_ad w 24), .ref (tr_ad w tn1), .int tv901]) (n := 7) (Nat.le_of_ble_eq_true rfl)
  rw [lg_entry_eq]
  generalize (lg_sl ([.ref (tr_ad w 24), .ref (tr_ad w tn1), .int tv901]) ++ List.replicate (7 - (lg_sl ([.ref (tr_ad w 24), .ref (tr_ad w tn1), .int tv901])).length) Slot.unset).toArray = ls at hl ⊢
  have hl : lv_has ls 7 [(0, .ref (tr_ad w 24)), (1, .ref (tr_ad w tn1)), (2, .int tv901)] := hl
  replace hk : tr_ok (f_X0_settle tn1 tv901 h) (fun o => o = h0) := ⟨_, hk, rfl⟩
  unfold f_X0_settle at hk
  refine lv_aload_n hx hb dX0_settle_0 rfl (lv_at hl 0 rfl) ?_
  refine lv_iload_n hx hb dX0_settle_1 rfl (lv_at hl 2 rfl) ?_
  refine pf_X0_18 C hP hS dX0_settle_2 (fun H locs hP hS => ?_)
  refine tr_th hk hP (fun th1 hk hP => ?_)
  refine lv_aload_n hx hb dX0_settle_5 rfl (lv_at hl 0 rfl) ?_
  refine gf_X0_9 C hP dX0_settle_6 ?_
  refine lv_iconst (v := 0) hx hb dX0_settle_9 (by decide) ?_
  obtain ⟨th3, tq2, hk⟩ := tr_okb hk
  refine tr_csv (As := [.ref (tr_ad w 25), .int 0]) (rest := []) C hP hS hl (c_J7_fill_53178 l w 25 6 (ar_X_25 w) 0 th1 th3 tq2) mz_J7_fill_53178 ml_X0_22 rfl rfl ⟨Nat.le_of_ble_eq_true rfl, Nat.le_of_ble_eq_true rfl⟩ rfl rfl (Nat.le_of_ble_eq_true rfl) ⟨Nat.le_refl _, Nat.le_refl _⟩ dX0_settle_10 (fun H locs hP hS => ?_)
  refine lv_iconst (v := 0) hx hb dX0_settle_13 (by decide) ?_
  refine lv_istore_n (lv' := [(3, .int 0), (0, .ref (tr_ad w 24)), (1, .ref (tr_ad w tn1)), (2, .int tv901)]) hx hb dX0_settle_14 rfl hl (by decide) rfl (fun ls hl => ?_)
  have j114_15 : ∀ (th4 : tr_H), tr_ok (f_X0_settle_E114 th4) (fun o => o = h0) → tr_Wd p l e r_X0_settle s m args below meth c (MQ below (tr_Qv tr_X w h0) args s 0 0 (tr_R tr_X w)) tr_X w 7 114 [] [] th4 := by
    intro th4 hk H locs ls hP hS hl
    unfold f_X0_settle_E114 at hk
    exact tr_vret C hP hS hr hlocks (tr_okS (P := (fun o => o = h0)) hk) dX0_settle_114
  refine tr_loop (fun q => tr_Wd p l e r_X0_settle s m args below meth c (MQ below (tr_Qv tr_X w h0) args s 0 0 (tr_R tr_X w)) tr_X w 7 15 [(0, .ref (tr_ad w 24)), (1, .ref (tr_ad w tn1)), (3, .int q.1)] [] q.2) hk ?_ _ _ _ hP hS (lv_sub hl [1, 2, 0] rfl)
  intro P15 hin15 hex15 q hk
  obtain ⟨tv5, th6⟩ := q
  intro H locs ls hP hS hl
  replace hk : tr_ok (f_X0_settle_L15 tn1 tv5 th6) P15 := hk
  unfold f_X0_settle_L15 at hk
  refine lv_iload_n hx hb dX0_settle_15 rfl (lv_at hl 2 rfl) ?_
  refine lv_aload_n hx hb dX0_settle_16 rfl (lv_at hl 1 rfl) ?_
  refine gf_X0_28 htn1 C hP dX0_settle_17 ?_
  refine lv_icmp_ge (tgt := 114) hx hb dX0_settle_20 (by decide) (fun tc7 => ?_) (fun tc7 => ?_)
  · replace hk := tr_ift hk tc7
    replace hk := hex15 _ (tr_okS hk)
    replace hk : tr_ok (f_X0_settle_E114 th6) (fun o => o = h0) := hk
    exact j114_15 th6 hk _ _ _ hP hS (lv_sub hl [] rfl)
  · replace hk := tr_iff hk tc7
    refine lv_iconst (v := 0) hx hb dX0_settle_23 (by decide) ?_
    refine lv_istore (lv' := [(4, .int 0), (0, .ref (tr_ad w 24)), (1, .ref (tr_ad w tn1)), (3, .int tv5)]) hx hb dX0_settle_24 hl (by decide) rfl (fun ls hl => ?_)
    have j108_26 : ∀ (th8 : tr_H), tr_ok (f_X0_settle_E108 tv5 th8) P15 → tr_Wd p l e r_X0_settle s m args below meth c (MQ below (tr_Qv tr_X w h0) args s 0 0 (tr_R tr_X w)) tr_X w 7 108 [(0, .ref (tr_ad w 24)), (1, .ref (tr_ad w tn1)), (3, .int tv5)] [] th8 := by
      intro th8 hk H locs ls hP hS hl
      unfold f_X0_settle_E108 at hk
      obtain ⟨tv9, etv9, hk⟩ := tr_okd hk
      refine lv_iinc (v := tv9) (lv' := [(3, .int tv9), (0, .ref (tr_ad w 24)), (1, .ref (tr_ad w tn1))]) hx hb dX0_settle_108 hl (k := 2) rfl (by rw [etv9]; rfl) (by decide) rfl (fun ls hl => ?_)
      refine lv_goto (tgt := 15) hx hb dX0_settle_111 (by decide) ?_
      exact hin15 _ (tr_okS hk) _ _ _ hP hS (lv_sub hl [1, 2, 0] rfl)
    refine tr_loop (fun q => tr_Wd p l e r_X0_settle s m args below meth c (MQ below (tr_Qv tr_X w h0) args s 0 0 (tr_R tr_X w)) tr_X w 7 26 [(0, .ref (tr_ad w 24)), (1, .ref (tr_ad w tn1)), (3, .int tv5), (4, .int q.1)] [] q.2) hk ?_ _ _ _ hP hS (lv_sub hl [1, 2, 3, 0] rfl)
    intro P26 hin26 hex26 q hk
    obtain ⟨tv10, th11⟩ := q
    intro H locs ls hP hS hl
    replace hk : tr_ok (f_X0_settle_L26 tn1 tv10 th11) P26 := hk
    unfold f_X0_settle_L26 at hk
    refine lv_iload hx hb dX0_settle_26 (lv_at hl 3 rfl) ?_
    refine lv_aload_n hx hb dX0_settle_28 rfl (lv_at hl 1 rfl) ?_
    refine gf_X0_28 htn1 C hP dX0_settle_29 ?_
    refine lv_icmp_ge (tgt := 108) hx hb dX0_settle_32 (by decide) (fun tc12 => ?_) (fun tc12 => ?_)
    · replace hk := tr_ift hk tc12
      replace hk := hex26 _ (tr_okS hk)
      replace hk : tr_ok (f_X0_settle_E108 tv5 th11) P15 := hk
      exact j108_26 th11 hk _ _ _ hP hS (lv_sub hl [0, 1, 2] rfl)
    · replace hk := tr_iff hk tc12
      refine lv_iconst (v := 0) hx hb dX0_settle_35 (by decide) ?_
      refine lv_istore (lv' := [(5, .int 0), (0, .ref (tr_ad w 24)), (1, .ref (tr_ad w tn1)), (3, .int tv5), (4, .int tv10)]) hx hb dX0_settle_36 hl (by decide) rfl (fun ls hl => ?_)
      have j102_38 : ∀ (th13 : tr_H), tr_ok (f_X0_settle_E102 tv10 th13) P26 → tr_Wd p l e r_X0_settle s m args below meth c (MQ below (tr_Qv tr_X w h0) args s 0 0 (tr_R tr_X w)) tr_X w 7 102 [(0, .ref (tr_ad w 24)), (1, .ref (tr_ad w tn1)), (3, .int tv5), (4, .int tv10)] [] th13 := by
        intro th13 hk H locs ls hP hS hl
        unfold f_X0_settle_E102 at hk
        obtain ⟨tv14, etv14, hk⟩ := tr_okd hk
        refine lv_iinc (v := tv14) (lv' := [(4, .int tv14), (0, .ref (tr_ad w 24)), (1, .ref (tr_ad w tn1)), (3, .int tv5)]) hx hb dX0_settle_102 hl (k := 3) rfl (by rw [etv14]; rfl) (by decide) rfl (fun ls hl => ?_)
        refine lv_goto (tgt := 26) hx hb dX0_settle_105 (by decide) ?_
        exact hin26 _ (tr_okS hk) _ _ _ hP hS (lv_sub hl [1, 2, 3, 0] rfl)
      refine tr_loop (fun q => tr_Wd p l e r_X0_settle s m args below meth c (MQ below (tr_Qv tr_X w h0) args s 0 0 (tr_R tr_X w)) tr_X w 7 38 [(0, .ref (tr_ad w 24)), (1, .ref (tr_ad w tn1)), (3, .int tv5), (4, .int tv10), (5, .int q.1)] [] q.2) hk ?_ _ _ _ hP hS (lv_sub hl [1, 2, 3, 4, 0] rfl)
      intro P38 hin38 hex38 q hk
      obtain ⟨tv15, th16⟩ := q
      intro H locs ls hP hS hl
      replace hk : tr_ok (f_X0_settle_L38 tn1 tv10 tv15 th16) P38 := hk
      unfold f_X0_settle_L38 at hk
      refine lv_iload hx hb dX0_settle_38 (lv_at hl 4 rfl) ?_
      refine lv_aload_n hx hb dX0_settle_40 rfl (lv_at hl 1 rfl) ?_
      refine gf_X0_28 htn1 C hP dX0_settle_41 ?_
      refine lv_icmp_ge (tgt := 102) hx hb dX0_settle_44 (by decide) (fun tc17 => ?_) (fun tc17 => ?_)
      · replace hk := tr_ift hk tc17
        replace hk := hex38 _ (tr_okS hk)
        replace hk : tr_ok (f_X0_settle_E102 tv10 th16) P26 := hk
        exact j102_38 th16 hk _ _ _ hP hS (lv_sub hl [0, 1, 2, 3] rfl)
      · replace hk := tr_iff hk tc17
        refine lv_aload_n hx hb dX0_settle_47 rfl (lv_at hl 1 rfl) ?_
        refine lv_iload hx hb dX0_settle_48 (lv_at hl 3 rfl) ?_
        refine lv_iload hx hb dX0_settle_50 (lv_at hl 4 rfl) ?_
        obtain ⟨tv19, tq18, hk⟩ := tr_okb hk
        refine tr_cvi (As := [.int tv10, .int tv15]) (rest := []) C hP hS hl (c_X2_of l w tn1 htn1 tv10 tv15 th16 tv19 tq18) mz_X2_of ml_X0_33 (tr_net_lt htn1) (tr_net_cx htn1 (tr_ad w) w.2.1 (th16.1 tn1) (th16.2 tn1)) rfl rfl rfl ⟨Nat.le_of_ble_eq_true rfl, Nat.le_of_ble_eq_true rfl⟩ rfl rfl (Nat.le_of_ble_eq_true rfl) ⟨Nat.le_refl _, Nat.le_refl _⟩ dX0_settle_52 (fun H locs hP hS => ?_)
        refine lv_istore (lv' := [(6, .int tv19), (0, .ref (tr_ad w 24)), (1, .ref (tr_ad w tn1)), (3, .int tv5), (4, .int tv10), (5, .int tv15)]) hx hb dX0_settle_55 hl (by decide) rfl (fun ls hl => ?_)
        refine lv_iload hx hb dX0_settle_57 (lv_at hl 0 rfl) ?_
        refine lv_bipush (v := (-9)) hx hb dX0_settle_59 (by decide) ?_
        refine lv_icmp_eq (tgt := 96) hx hb dX0_settle_61 (by decide) (fun tc20 => ?_) (fun tc20 => ?_)
        · replace hk := tr_ift hk tc20
          obtain ⟨tv21, etv21, hk⟩ := tr_okd hk
          refine lv_iinc (v := tv21) (lv' := [(5, .int tv21), (6, .int tv19), (0, .ref (tr_ad w 24)), (1, .ref (tr_ad w tn1)), (3, .int tv5), (4, .int tv10)]) hx hb dX0_settle_96 hl (k := 5) rfl (by rw [etv21]; rfl) (by decide) rfl (fun ls hl => ?_)
          refine lv_goto (tgt := 38) hx hb dX0_settle_99 (by decide) ?_
          exact hin38 _ (tr_okS hk) _ _ _ hP hS (lv_sub hl [2, 3, 4, 5, 0] rfl)
        · replace hk := tr_iff hk tc20
          refine lv_aload_n hx hb dX0_settle_64 rfl (lv_at hl 1 rfl) ?_
          refine gf_X0_9 C hP dX0_settle_65 ?_
          refine lv_iload hx hb dX0_settle_68 (lv_at hl 5 rfl) ?_
          refine lv_aload_n hx hb dX0_settle_70 rfl (lv_at hl 1 rfl) ?_
          refine gf_X0_9 C hP dX0_settle_71 ?_
          refine lv_iload hx hb dX0_settle_74 (lv_at hl 5 rfl) ?_
          obtain ⟨tg22, hk⟩ := tr_okg hk
          refine tr_ial C hP (ar_X_25 w) tg22 dX0_settle_76 ?_
          refine lv_aload_n hx hb dX0_settle_77 rfl (lv_at hl 1 rfl) ?_
          refine gf_X0_9 C hP dX0_settle_78 ?_
          refine lv_iload hx hb dX0_settle_81 (lv_at hl 4 rfl) ?_
          obtain ⟨tg23, hk⟩ := tr_okg hk
          refine tr_ial C hP (ar_X_25 w) tg23 dX0_settle_83 ?_
          refine lv_iload hx hb dX0_settle_84 (lv_at hl 0 rfl) ?_
          refine lv_iadd hx hb dX0_settle_86 ?_
          refine lv_aload_n hx hb dX0_settle_87 rfl (lv_at hl 1 rfl) ?_
          refine gf_X0_18 C hP dX0_settle_88 ?_
          refine lv_isub hx hb dX0_settle_91 ?_
          refine tr_mx C hl ml_X0_37 ⟨Nat.le_of_ble_eq_true rfl, Nat.le_of_ble_eq_true rfl⟩ ⟨Nat.le_refl _, Nat.le_refl _⟩ dX0_settle_92 ?_
          obtain ⟨tg24, hk⟩ := tr_okg hk
          refine tr_ias C hP hS (ar_X_25 w) tg24 dX0_settle_95 (fun H locs hP hS => ?_)
          refine tr_th hk hP (fun th25 hk hP => ?_)
          obtain ⟨tv26, etv26, hk⟩ := tr_okd hk
          refine lv_iinc (v := tv26) (lv' := [(5, .int tv26), (6, .int tv19), (0, .ref (tr_ad w 24)), (1, .ref (tr_ad w tn1)), (3, .int tv5), (4, .int tv10)]) hx hb dX0_settle_96 hl (k := 5) rfl (by rw [etv26]; rfl) (by decide) rfl (fun ls hl => ?_)
          refine lv_goto (tgt := 38) hx hb dX0_settle_99 (by decide) ?_
          exact hin38 _ (tr_okS hk) _ _ _ hP hS (lv_sub hl [2, 3, 4, 5, 0] rfl)
abbrev r_X0_timeOf : Room := { frames := 0, cells := 0, slots := 0, locals := 0 }
set_option maxHeartbeats 4000000 in
set_option maxRecDepth 100000 in
theorem c_X0_timeOf (l : Launch) (w : tr_E) (tv900 : Int32) (h : tr_H) (r0 : Int32) (hk : f_X0_timeOf tv900 h = some r0) : Met l yX0_timeOf (Cond.code yX0_timeOf cX0_timeOf 2 (some .int) :: tr_T) r_X0_timeOf (va_Pc [.ref (tr_ad w 24), .int tv900] (tr_Wo tr_X w h)) (tr_Qi tr_X w r0 h) 0 0 (tr_R tr_X w) := by
  refine tr_start (by decide) (Nat.le_refl _) ?_
  intro p e s m args below meth c C hr hlocks hargs hP
  have hx := C.1
  have hb := C.2.1
  have hS : va_S (tr_R tr_X w) s.heap s.heap [] := va_S.rf
  have hl := lv_entry ([.ref (tr_ad w 24), .int tv900]) (n := 2) (Nat.le_of_ble_eq_true rfl)
  rw [lg_entry_eq]
  generalize (lg_sl ([.ref (tr_ad w 24), .int tv900]) ++ List.replicate (2 - (lg_sl ([.ref (tr_ad w 24), .int tv900])).length) Slot.unset).toArray = ls at hl ⊢
  have hl : lv_has ls 2 [(0, .ref (tr_ad w 24)), (1, .int tv900)] := hl
  replace hk : tr_ok (f_X0_timeOf tv900 h) (fun o => o = r0) := ⟨_, hk, rfl⟩
  unfold f_X0_timeOf at hk
  refine lv_iload_n hx hb dX0_timeOf_0 rfl (lv_at hl 1 rfl) ?_
  refine lv_if_lt (tgt := 19) hx hb dX0_timeOf_1 (by decide) (fun tc1 => ?_) (fun tc1 => ?_)
  · replace hk := tr_ift hk tc1
    refine lv_iconst (v := 0) hx hb dX0_timeOf_19 (by decide) ?_
    exact tr_iret C hP hS hr hlocks (congrArg (fun x => (x, h)) (tr_okS (P := (fun o => o = r0)) hk)) dX0_timeOf_20
  · replace hk := tr_iff hk tc1
    refine lv_iload_n hx hb dX0_timeOf_4 rfl (lv_at hl 1 rfl) ?_
    refine lv_bipush (v := 6) hx hb dX0_timeOf_5 (by decide) ?_
    refine lv_icmp_ge (tgt := 19) hx hb dX0_timeOf_7 (by decide) (fun tc2 => ?_) (fun tc2 => ?_)
    · replace hk := tr_ift hk tc2
      refine lv_iconst (v := 0) hx hb dX0_timeOf_19 (by decide) ?_
      exact tr_iret C hP hS hr hlocks (congrArg (fun x => (x, h)) (tr_okS (P := (fun o => o = r0)) hk)) dX0_timeOf_20
    · replace hk := tr_iff hk tc2
      refine lv_aload_n hx hb dX0_timeOf_10 rfl (lv_at hl 0 rfl) ?_
      refine gf_X0_9 C hP dX0_timeOf_11 ?_
      refine lv_iload_n hx hb dX0_timeOf_14 rfl (lv_at hl 1 rfl) ?_
      obtain ⟨tg3, hk⟩ := tr_okg hk
      refine tr_ial C hP (ar_X_25 w) tg3 dX0_timeOf_15 ?_
      refine lv_goto (tgt := 20) hx hb dX0_timeOf_16 (by decide) ?_
      exact tr_iret C hP hS hr hlocks (congrArg (fun x => (x, h)) (tr_okS (P := (fun o => o = r0)) hk)) dX0_timeOf_20
abbrev r_X0_spareOf : Room := { frames := 1, cells := 0, slots := 0, locals := 22 }
set_option maxHeartbeats 4000000 in
set_option maxRecDepth 100000 in
theorem c_X0_spareOf (l : Launch) (w : tr_E) (tn1 : Nat) (htn1 : tr_net tn1) (tv901 : Int32) (tv902 : Int32) (h : tr_H) (r0 : Int32) (hk : f_X0_spareOf tn1 tv901 tv902 h = some r0) : Met l yX0_spareOf (Cond.code yX0_spareOf cX0_spareOf 4 (some .int) :: tr_T) r_X0_spareOf (va_Pc [.ref (tr_ad w 24), .ref (tr_ad w tn1), .int tv901, .int tv902] (tr_Wo tr_X w h)) (tr_Qi tr_X w r0 h) 0 0 (tr_R tr_X w) := by
  refine tr_start (by decide) (Nat.le_refl _) ?_
  intro p e s m args below meth c C hr hlocks hargs hP
  have hx := C.1
  have hb := C.2.1
  have hS : va_S (tr_R tr_X w) s.heap s.heap [] := va_S.rf
  have hl := lv_entry ([.ref (tr_ad w 24), .ref (tr_ad w tn1), .int tv901, .int tv902]) (n := 4) (Nat.le_of_ble_eq_true rfl)
  rw [lg_entry_eq]
  generalize (lg_sl ([.ref (tr_ad w 24), .ref (tr_ad w tn1), .int tv901, .int tv902]) ++ List.replicate (4 - (lg_sl ([.ref (tr_ad w 24), .ref (tr_ad w tn1), .int tv901, .int tv902])).length) Slot.unset).toArray = ls at hl ⊢
  have hl : lv_has ls 4 [(0, .ref (tr_ad w 24)), (1, .ref (tr_ad w tn1)), (2, .int tv901), (3, .int tv902)] := hl
  replace hk : tr_ok (f_X0_spareOf tn1 tv901 tv902 h) (fun o => o = r0) := ⟨_, hk, rfl⟩
  unfold f_X0_spareOf at hk
  refine lv_aload_n hx hb dX0_spareOf_0 rfl (lv_at hl 0 rfl) ?_
  refine lv_iload_n hx hb dX0_spareOf_1 rfl (lv_at hl 3 rfl) ?_
  obtain ⟨tv2, tq1, hk⟩ := tr_okb hk
  refine tr_cvi (As := [.int tv902]) (rest := []) C hP hS hl (c_X0_timeOf l w tv902 h tv2 tq1) mz_X0_timeOf ml_X0_42 (by decide) rfl rfl rfl rfl ⟨Nat.le_of_ble_eq_true rfl, Nat.le_of_ble_eq_true rfl⟩ rfl rfl (Nat.le_of_ble_eq_true rfl) ⟨Nat.le_refl _, Nat.le_refl _⟩ dX0_spareOf_2 (fun H locs hP hS => ?_)
  refine lv_aload_n hx hb dX0_spareOf_5 rfl (lv_at hl 0 rfl) ?_
  refine gf_X0_18 C hP dX0_spareOf_6 ?_
  refine lv_iadd hx hb dX0_spareOf_9 ?_
  refine lv_aload_n hx hb dX0_spareOf_10 rfl (lv_at hl 0 rfl) ?_
  refine lv_iload_n hx hb dX0_spareOf_11 rfl (lv_at hl 2 rfl) ?_
  obtain ⟨tv4, tq3, hk⟩ := tr_okb hk
  refine tr_cvi (As := [.int tv901]) (rest := [.int (tv2 + (h.1 24 2))]) C hP hS hl (c_X0_timeOf l w tv901 h tv4 tq3) mz_X0_timeOf ml_X0_42 (by decide) rfl rfl rfl rfl ⟨Nat.le_of_ble_eq_true rfl, Nat.le_of_ble_eq_true rfl⟩ rfl rfl (Nat.le_of_ble_eq_true rfl) ⟨Nat.le_refl _, Nat.le_refl _⟩ dX0_spareOf_12 (fun H locs hP hS => ?_)
  refine lv_isub hx hb dX0_spareOf_15 ?_
  refine lv_aload_n hx hb dX0_spareOf_16 rfl (lv_at hl 1 rfl) ?_
  refine lv_iload_n hx hb dX0_spareOf_17 rfl (lv_at hl 2 rfl) ?_
  refine lv_iload_n hx hb dX0_spareOf_18 rfl (lv_at hl 3 rfl) ?_
  obtain ⟨tv6, tq5, hk⟩ := tr_okb hk
  refine tr_cvi (As := [.int tv901, .int tv902]) (rest := [.int ((tv2 + (h.1 24 2)) - tv4)]) C hP hS hl (c_X2_of l w tn1 htn1 tv901 tv902 h tv6 tq5) mz_X2_of ml_X0_33 (tr_net_lt htn1) (tr_net_cx htn1 (tr_ad w) w.2.1 (h.1 tn1) (h.2 tn1)) rfl rfl rfl ⟨Nat.le_of_ble_eq_true rfl, Nat.le_of_ble_eq_true rfl⟩ rfl rfl (Nat.le_of_ble_eq_true rfl) ⟨Nat.le_refl _, Nat.le_refl _⟩ dX0_spareOf_19 (fun H locs hP hS => ?_)
  refine lv_isub hx hb dX0_spareOf_22 ?_
  exact tr_iret C hP hS hr hlocks (congrArg (fun x => (x, h)) (tr_okS (P := (fun o => o = r0)) hk)) dX0_spareOf_23
abbrev r_X0_leastSpare : Room := { frames := 2, cells := 0, slots := 0, locals := 45 }
set_option maxHeartbeats 4000000 in
set_option maxRecDepth 100000 in
theorem c_X0_leastSpare (l : Launch) (w : tr_E) (tn1 : Nat) (htn1 : tr_net tn1) (tv901 : Int32) (tv902 : Int32) (h : tr_H) (r0 : Int32) (hk : f_X0_leastSpare tn1 tv901 tv902 h = some r0) : Met l yX0_leastSpare (Cond.code yX0_leastSpare cX0_leastSpare 7 (some .int) :: tr_T) r_X0_leastSpare (va_Pc [.ref (tr_ad w 24), .ref (tr_ad w tn1), .int tv901, .int tv902] (tr_Wo tr_X w h)) (tr_Qi tr_X w r0 h) 0 0 (tr_R tr_X w) := by
  refine tr_start (by decide) (Nat.le_refl _) ?_
  intro p e s m args below meth c C hr hlocks hargs hP
  have hx := C.1
  have hb := C.2.1
  have hS : va_S (tr_R tr_X w) s.heap s.heap [] := va_S.rf
  have hl := lv_entry ([.ref (tr_ad w 24), .ref (tr_ad w tn1), .int tv901, .int tv902]) (n := 7) (Nat.le_of_ble_eq_true rfl)
  rw [lg_entry_eq]
  generalize (lg_sl ([.ref (tr_ad w 24), .ref (tr_ad w tn1), .int tv901, .int tv902]) ++ List.replicate (7 - (lg_sl ([.ref (tr_ad w 24), .ref (tr_ad w tn1), .int tv901, .int tv902])).length) Slot.unset).toArray = ls at hl ⊢
  have hl : lv_has ls 7 [(0, .ref (tr_ad w 24)), (1, .ref (tr_ad w tn1)), (2, .int tv901), (3, .int tv902)] := hl
  replace hk : tr_ok (f_X0_leastSpare tn1 tv901 tv902 h) (fun o => o = r0) := ⟨_, hk, rfl⟩
  unfold f_X0_leastSpare at hk
  refine lv_ldc (v := 1000000) hx hb C.2.2.2.1 (C.2.2.2.2.1 _ mc_X0_46) dX0_leastSpare_0 ?_
  refine lv_istore (lv' := [(4, .int 1000000), (0, .ref (tr_ad w 24)), (1, .ref (tr_ad w tn1)), (2, .int tv901), (3, .int tv902)]) hx hb dX0_leastSpare_2 hl (by decide) rfl (fun ls hl => ?_)
  refine lv_iconst (v := 0) hx hb dX0_leastSpare_4 (by decide) ?_
  refine lv_istore (lv' := [(5, .int 0), (4, .int 1000000), (0, .ref (tr_ad w 24)), (1, .ref (tr_ad w tn1)), (2, .int tv901), (3, .int tv902)]) hx hb dX0_leastSpare_5 hl (by decide) rfl (fun ls hl => ?_)
  have j73_7 : ∀ (tv1 : Int32), tr_ok (f_X0_leastSpare_E73 tv1) (fun o => o = r0) → tr_Wd p l e r_X0_leastSpare s m args below meth c (MQ below (tr_Qi tr_X w r0 h) args s 0 0 (tr_R tr_X w)) tr_X w 7 73 [(4, .int tv1)] [] h := by
    intro tv1 hk H locs ls hP hS hl
    unfold f_X0_leastSpare_E73 at hk
    refine lv_iload hx hb dX0_leastSpare_73 (lv_at hl 0 rfl) ?_
    exact tr_iret C hP hS hr hlocks (congrArg (fun x => (x, h)) (tr_okS (P := (fun o => o = r0)) hk)) dX0_leastSpare_75
  refine tr_loop (fun q => tr_Wd p l e r_X0_leastSpare s m args below meth c (MQ below (tr_Qi tr_X w r0 h) args s 0 0 (tr_R tr_X w)) tr_X w 7 7 [(0, .ref (tr_ad w 24)), (1, .ref (tr_ad w tn1)), (2, .int tv901), (3, .int tv902), (4, .int q.1), (5, .int q.2)] [] h) hk ?_ _ _ _ hP hS (lv_sub hl [2, 3, 4, 5, 1, 0] rfl)
  intro P7 hin7 hex7 q hk
  obtain ⟨tv2, tv3⟩ := q
  intro H locs ls hP hS hl
  replace hk : tr_ok (f_X0_leastSpare_L7 h tn1 tv901 tv902 tv2 tv3) P7 := hk
  unfold f_X0_leastSpare_L7 at hk
  refine lv_iload hx hb dX0_leastSpare_7 (lv_at hl 5 rfl) ?_
  refine lv_aload_n hx hb dX0_leastSpare_9 rfl (lv_at hl 1 rfl) ?_
  refine gf_X0_28 htn1 C hP dX0_leastSpare_10 ?_
  refine lv_icmp_ge (tgt := 73) hx hb dX0_leastSpare_13 (by decide) (fun tc4 => ?_) (fun tc4 => ?_)
  · replace hk := tr_ift hk tc4
    replace hk := hex7 _ (tr_okS hk)
    replace hk : tr_ok (f_X0_leastSpare_E73 tv2) (fun o => o = r0) := hk
    exact j73_7 tv2 hk _ _ _ hP hS (lv_sub hl [4] rfl)
  · replace hk := tr_iff hk tc4
    refine lv_aload_n hx hb dX0_leastSpare_16 rfl (lv_at hl 0 rfl) ?_
    refine gf_X0_15 C hP dX0_leastSpare_17 ?_
    refine lv_iload_n hx hb dX0_leastSpare_20 rfl (lv_at hl 2 rfl) ?_
    refine lv_bipush (v := 6) hx hb dX0_leastSpare_21 (by decide) ?_
    refine lv_imul hx hb dX0_leastSpare_23 ?_
    refine lv_iload hx hb dX0_leastSpare_24 (lv_at hl 5 rfl) ?_
    refine lv_iadd hx hb dX0_leastSpare_26 ?_
    refine tr_ti hk (fun tv5 hk => ?_)
    obtain ⟨tg6, hk⟩ := tr_okg hk
    refine tr_ial C hP (ar_X_26 w) tg6 dX0_leastSpare_27 ?_
    refine tr_ti hk (fun tv7 hk => ?_)
    refine lv_istore (lv' := [(6, .int tv7), (0, .ref (tr_ad w 24)), (1, .ref (tr_ad w tn1)), (2, .int tv901), (3, .int tv902), (4, .int tv2), (5, .int tv3)]) hx hb dX0_leastSpare_28 hl (by decide) rfl (fun ls hl => ?_)
    refine lv_iload hx hb dX0_leastSpare_30 (lv_at hl 0 rfl) ?_
    refine lv_ldc (v := 1000000) hx hb C.2.2.2.1 (C.2.2.2.2.1 _ mc_X0_46) dX0_leastSpare_32 ?_
    refine lv_icmp_eq (tgt := 67) hx hb dX0_leastSpare_34 (by decide) (fun tc8 => ?_) (fun tc8 => ?_)
    · replace hk := tr_ift hk tc8
      obtain ⟨tv9, etv9, hk⟩ := tr_okd hk
      refine lv_iinc (v := tv9) (lv' := [(5, .int tv9), (6, .int tv7), (0, .ref (tr_ad w 24)), (1, .ref (tr_ad w tn1)), (2, .int tv901), (3, .int tv902), (4, .int tv2)]) hx hb dX0_leastSpare_67 hl (k := 6) rfl (by rw [etv9]; rfl) (by decide) rfl (fun ls hl => ?_)
      refine lv_goto (tgt := 7) hx hb dX0_leastSpare_70 (by decide) ?_
      exact hin7 _ (tr_okS hk) _ _ _ hP hS (lv_sub hl [2, 3, 4, 5, 6, 0] rfl)
    · replace hk := tr_iff hk tc8
      refine lv_aload_n hx hb dX0_leastSpare_37 rfl (lv_at hl 2 rfl) ?_
      refine lv_iload hx hb dX0_leastSpare_38 (lv_at hl 6 rfl) ?_
      refine lv_iload_n hx hb dX0_leastSpare_40 rfl (lv_at hl 4 rfl) ?_
      obtain ⟨tv11, tq10, hk⟩ := tr_okb hk
      refine tr_cvi (As := [.int tv3, .int tv902]) (rest := []) C hP hS hl (c_X2_of l w tn1 htn1 tv3 tv902 h tv11 tq10) mz_X2_of ml_X0_33 (tr_net_lt htn1) (tr_net_cx htn1 (tr_ad w) w.2.1 (h.1 tn1) (h.2 tn1)) rfl rfl rfl ⟨Nat.le_of_ble_eq_true rfl, Nat.le_of_ble_eq_true rfl⟩ rfl rfl (Nat.le_of_ble_eq_true rfl) ⟨Nat.le_refl _, Nat.le_refl _⟩ dX0_leastSpare_41 (fun H locs hP hS => ?_)
      refine lv_bipush (v := (-9)) hx hb dX0_leastSpare_44 (by decide) ?_
      refine lv_icmp_eq (tgt := 67) hx hb dX0_leastSpare_46 (by decide) (fun tc12 => ?_) (fun tc12 => ?_)
      · replace hk := tr_ift hk tc12
        obtain ⟨tv13, etv13, hk⟩ := tr_okd hk
        refine lv_iinc (v := tv13) (lv' := [(5, .int tv13), (6, .int tv7), (0, .ref (tr_ad w 24)), (1, .ref (tr_ad w tn1)), (2, .int tv901), (3, .int tv902), (4, .int tv2)]) hx hb dX0_leastSpare_67 hl (k := 6) rfl (by rw [etv13]; rfl) (by decide) rfl (fun ls hl => ?_)
        refine lv_goto (tgt := 7) hx hb dX0_leastSpare_70 (by decide) ?_
        exact hin7 _ (tr_okS hk) _ _ _ hP hS (lv_sub hl [2, 3, 4, 5, 6, 0] rfl)
      · replace hk := tr_iff hk tc12
        refine lv_iload hx hb dX0_leastSpare_49 (lv_at hl 5 rfl) ?_
        refine lv_iload hx hb dX0_leastSpare_51 (lv_at hl 0 rfl) ?_
        refine lv_aload_n hx hb dX0_leastSpare_53 rfl (lv_at hl 1 rfl) ?_
        refine lv_aload_n hx hb dX0_leastSpare_54 rfl (lv_at hl 2 rfl) ?_
        refine lv_iload hx hb dX0_leastSpare_55 (lv_at hl 6 rfl) ?_
        refine lv_iload_n hx hb dX0_leastSpare_57 rfl (lv_at hl 4 rfl) ?_
        obtain ⟨tv15, tq14, hk⟩ := tr_okb hk
        refine tr_cvi (As := [.ref (tr_ad w tn1), .int tv3, .int tv902]) (rest := [.int tv7, .int tv2]) C hP hS hl (c_X0_spareOf l w tn1 htn1 tv3 tv902 h tv15 tq14) mz_X0_spareOf ml_X0_51 (by decide) rfl rfl rfl rfl ⟨Nat.le_of_ble_eq_true rfl, Nat.le_of_ble_eq_true rfl⟩ rfl rfl (Nat.le_of_ble_eq_true rfl) ⟨Nat.le_refl _, Nat.le_refl _⟩ dX0_leastSpare_58 (fun H locs hP hS => ?_)
        refine lv_iadd hx hb dX0_leastSpare_61 ?_
        refine tr_mn C hl ml_X0_54 ⟨Nat.le_of_ble_eq_true rfl, Nat.le_of_ble_eq_true rfl⟩ ⟨Nat.le_refl _, Nat.le_refl _⟩ dX0_leastSpare_62 ?_
        refine tr_ti hk (fun tv16 hk => ?_)
        refine lv_istore (lv' := [(4, .int tv16), (6, .int tv7), (0, .ref (tr_ad w 24)), (1, .ref (tr_ad w tn1)), (2, .int tv901), (3, .int tv902), (5, .int tv3)]) hx hb dX0_leastSpare_65 hl (by decide) rfl (fun ls hl => ?_)
        obtain ⟨tv17, etv17, hk⟩ := tr_okd hk
        refine lv_iinc (v := tv17) (lv' := [(5, .int tv17), (4, .int tv16), (6, .int tv7), (0, .ref (tr_ad w 24)), (1, .ref (tr_ad w tn1)), (2, .int tv901), (3, .int tv902)]) hx hb dX0_leastSpare_67 hl (k := 6) rfl (by rw [etv17]; rfl) (by decide) rfl (fun ls hl => ?_)
        refine lv_goto (tgt := 7) hx hb dX0_leastSpare_70 (by decide) ?_
        exact hin7 _ (tr_okS hk) _ _ _ hP hS (lv_sub hl [3, 4, 5, 6, 1, 0] rfl)
abbrev r_X0_spread : Room := { frames := 3, cells := 0, slots := 0, locals := 71 }
set_option maxHeartbeats 4000000 in
set_option maxRecDepth 100000 in
theorem c_X0_spread (l : Launch) (w : tr_E) (tn1 : Nat) (htn1 : tr_net tn1) (tv901 : Int32) (tv902 : Int32) (h : tr_H) (h0 : tr_H) (hk : f_X0_spread tn1 tv901 tv902 h = some h0) : Met l yX0_spread (Cond.code yX0_spread cX0_spread 6 none :: tr_T) r_X0_spread (va_Pc [.ref (tr_ad w 24), .ref (tr_ad w tn1), .int tv901, .int tv902] (tr_Wo tr_X w h)) (tr_Qv tr_X w h0) 0 0 (tr_R tr_X w) := by
  refine tr_start (by decide) (Nat.le_refl _) ?_
  intro p e s m args below meth c C hr hlocks hargs hP
  have hx := C.1
  have hb := C.2.1
  have hS : va_S (tr_R tr_X w) s.heap s.heap [] := va_S.rf
  have hl := lv_entry ([.ref (tr_ad w 24), .ref (tr_ad w tn1), .int tv901, .int tv902]) (n := 6) (Nat.le_of_ble_eq_true rfl)
  rw [lg_entry_eq]
  generalize (lg_sl ([.ref (tr_ad w 24), .ref (tr_ad w tn1), .int tv901, .int tv902]) ++ List.replicate (6 - (lg_sl ([.ref (tr_ad w 24), .ref (tr_ad w tn1), .int tv901, .int tv902])).length) Slot.unset).toArray = ls at hl ⊢
  have hl : lv_has ls 6 [(0, .ref (tr_ad w 24)), (1, .ref (tr_ad w tn1)), (2, .int tv901), (3, .int tv902)] := hl
  replace hk : tr_ok (f_X0_spread tn1 tv901 tv902 h) (fun o => o = h0) := ⟨_, hk, rfl⟩
  unfold f_X0_spread at hk
  refine lv_iconst (v := 0) hx hb dX0_spread_0 (by decide) ?_
  refine lv_istore (lv' := [(4, .int 0), (0, .ref (tr_ad w 24)), (1, .ref (tr_ad w tn1)), (2, .int tv901), (3, .int tv902)]) hx hb dX0_spread_1 hl (by decide) rfl (fun ls hl => ?_)
  have j37_3 : ∀ (th1 : tr_H), tr_ok (f_X0_spread_E37 tv902 tn1 th1) (fun o => o = h0) → tr_Wd p l e r_X0_spread s m args below meth c (MQ below (tr_Qv tr_X w h0) args s 0 0 (tr_R tr_X w)) tr_X w 6 37 [(0, .ref (tr_ad w 24)), (1, .ref (tr_ad w tn1)), (3, .int tv902)] [] th1 := by
    intro th1 hk H locs ls hP hS hl
    unfold f_X0_spread_E37 at hk
    refine lv_iconst (v := 1) hx hb dX0_spread_37 (by decide) ?_
    refine lv_istore (lv' := [(4, .int 1), (0, .ref (tr_ad w 24)), (1, .ref (tr_ad w tn1)), (3, .int tv902)]) hx hb dX0_spread_38 hl (by decide) rfl (fun ls hl => ?_)
    have j101_40 : ∀ (th2 : tr_H), tr_ok (f_X0_spread_E101 th2) (fun o => o = h0) → tr_Wd p l e r_X0_spread s m args below meth c (MQ below (tr_Qv tr_X w h0) args s 0 0 (tr_R tr_X w)) tr_X w 6 101 [] [] th2 := by
      intro th2 hk H locs ls hP hS hl
      unfold f_X0_spread_E101 at hk
      exact tr_vret C hP hS hr hlocks (tr_okS (P := (fun o => o = h0)) hk) dX0_spread_101
    refine tr_loop (fun q => tr_Wd p l e r_X0_spread s m args below meth c (MQ below (tr_Qv tr_X w h0) args s 0 0 (tr_R tr_X w)) tr_X w 6 40 [(0, .ref (tr_ad w 24)), (1, .ref (tr_ad w tn1)), (3, .int tv902), (4, .int q.1)] [] q.2) hk ?_ _ _ _ hP hS (lv_sub hl [1, 2, 3, 0] rfl)
    intro P40 hin40 hex40 q hk
    obtain ⟨tv3, th4⟩ := q
    intro H locs ls hP hS hl
    replace hk : tr_ok (f_X0_spread_L40 tv902 tn1 tv3 th4) P40 := hk
    unfold f_X0_spread_L40 at hk
    refine lv_iload hx hb dX0_spread_40 (lv_at hl 3 rfl) ?_
    refine lv_iload_n hx hb dX0_spread_42 rfl (lv_at hl 2 rfl) ?_
    refine lv_icmp_gt (tgt := 101) hx hb dX0_spread_43 (by decide) (fun tc5 => ?_) (fun tc5 => ?_)
    · replace hk := tr_ift hk tc5
      replace hk := hex40 _ (tr_okS hk)
      replace hk : tr_ok (f_X0_spread_E101 th4) (fun o => o = h0) := hk
      exact j101_40 th4 hk _ _ _ hP hS (lv_sub hl [] rfl)
    · replace hk := tr_iff hk tc5
      refine lv_iload hx hb dX0_spread_46 (lv_at hl 3 rfl) ?_
      refine lv_bipush (v := 40) hx hb dX0_spread_48 (by decide) ?_
      refine lv_icmp_gt (tgt := 101) hx hb dX0_spread_50 (by decide) (fun tc6 => ?_) (fun tc6 => ?_)
      · replace hk := tr_ift hk tc6
        replace hk := hex40 _ (tr_okS hk)
        replace hk : tr_ok (f_X0_spread_E101 th4) (fun o => o = h0) := hk
        exact j101_40 th4 hk _ _ _ hP hS (lv_sub hl [] rfl)
      · replace hk := tr_iff hk tc6
        refine lv_iconst (v := 0) hx hb dX0_spread_53 (by decide) ?_
        refine lv_istore (lv' := [(5, .int 0), (0, .ref (tr_ad w 24)), (1, .ref (tr_ad w tn1)), (3, .int tv902), (4, .int tv3)]) hx hb dX0_spread_54 hl (by decide) rfl (fun ls hl => ?_)
        have j95_56 : ∀ (th7 : tr_H), tr_ok (f_X0_spread_E95 tv3 th7) P40 → tr_Wd p l e r_X0_spread s m args below meth c (MQ below (tr_Qv tr_X w h0) args s 0 0 (tr_R tr_X w)) tr_X w 6 95 [(0, .ref (tr_ad w 24)), (1, .ref (tr_ad w tn1)), (3, .int tv902), (4, .int tv3)] [] th7 := by
          intro th7 hk H locs ls hP hS hl
          unfold f_X0_spread_E95 at hk
          obtain ⟨tv8, etv8, hk⟩ := tr_okd hk
          refine lv_iinc (v := tv8) (lv' := [(4, .int tv8), (0, .ref (tr_ad w 24)), (1, .ref (tr_ad w tn1)), (3, .int tv902)]) hx hb dX0_spread_95 hl (k := 3) rfl (by rw [etv8]; rfl) (by decide) rfl (fun ls hl => ?_)
          refine lv_goto (tgt := 40) hx hb dX0_spread_98 (by decide) ?_
          exact hin40 _ (tr_okS hk) _ _ _ hP hS (lv_sub hl [1, 2, 3, 0] rfl)
        refine tr_loop (fun q => tr_Wd p l e r_X0_spread s m args below meth c (MQ below (tr_Qv tr_X w h0) args s 0 0 (tr_R tr_X w)) tr_X w 6 56 [(0, .ref (tr_ad w 24)), (1, .ref (tr_ad w tn1)), (3, .int tv902), (4, .int tv3), (5, .int q.1)] [] q.2) hk ?_ _ _ _ hP hS (lv_sub hl [1, 2, 3, 4, 0] rfl)
        intro P56 hin56 hex56 q hk
        obtain ⟨tv9, th10⟩ := q
        intro H locs ls hP hS hl
        replace hk : tr_ok (f_X0_spread_L56 tn1 tv3 tv9 th10) P56 := hk
        unfold f_X0_spread_L56 at hk
        refine lv_iload hx hb dX0_spread_56 (lv_at hl 4 rfl) ?_
        refine lv_aload_n hx hb dX0_spread_58 rfl (lv_at hl 1 rfl) ?_
        refine gf_X0_28 htn1 C hP dX0_spread_59 ?_
        refine lv_icmp_ge (tgt := 95) hx hb dX0_spread_62 (by decide) (fun tc11 => ?_) (fun tc11 => ?_)
        · replace hk := tr_ift hk tc11
          replace hk := hex56 _ (tr_okS hk)
          replace hk : tr_ok (f_X0_spread_E95 tv3 th10) P40 := hk
          exact j95_56 th10 hk _ _ _ hP hS (lv_sub hl [0, 1, 2, 3] rfl)
        · replace hk := tr_iff hk tc11
          refine lv_aload_n hx hb dX0_spread_65 rfl (lv_at hl 0 rfl) ?_
          refine gf_X0_15 C hP dX0_spread_66 ?_
          refine lv_iload hx hb dX0_spread_69 (lv_at hl 3 rfl) ?_
          refine lv_bipush (v := 6) hx hb dX0_spread_71 (by decide) ?_
          refine lv_imul hx hb dX0_spread_73 ?_
          refine lv_iload hx hb dX0_spread_74 (lv_at hl 4 rfl) ?_
          refine lv_iadd hx hb dX0_spread_76 ?_
          refine lv_aload_n hx hb dX0_spread_77 rfl (lv_at hl 0 rfl) ?_
          refine lv_aload_n hx hb dX0_spread_78 rfl (lv_at hl 1 rfl) ?_
          refine lv_iload hx hb dX0_spread_79 (lv_at hl 3 rfl) ?_
          refine lv_iconst (v := 1) hx hb dX0_spread_81 (by decide) ?_
          refine lv_isub hx hb dX0_spread_82 ?_
          refine lv_iload hx hb dX0_spread_83 (lv_at hl 4 rfl) ?_
          obtain ⟨tv13, tq12, hk⟩ := tr_okb hk
          refine tr_cvi (As := [.ref (tr_ad w tn1), .int (tv3 - 1), .int tv9]) (rest := [.int ((tv3 * 6) + tv9), .ref (tr_ad w 26)]) C hP hS hl (c_X0_leastSpare l w tn1 htn1 (tv3 - 1) tv9 th10 tv13 tq12) mz_X0_leastSpare ml_X0_47 (by decide) rfl rfl rfl rfl ⟨Nat.le_of_ble_eq_true rfl, Nat.le_of_ble_eq_true rfl⟩ rfl rfl (Nat.le_of_ble_eq_true rfl) ⟨Nat.le_refl _, Nat.le_refl _⟩ dX0_spread_85 (fun H locs hP hS => ?_)
          obtain ⟨tv14, etv14, hk⟩ := tr_okd hk
          rw [← etv14]
          obtain ⟨tg15, hk⟩ := tr_okg hk
          refine tr_ias C hP hS (ar_X_26 w) tg15 dX0_spread_88 (fun H locs hP hS => ?_)
          refine tr_th hk hP (fun th16 hk hP => ?_)
          obtain ⟨tv17, etv17, hk⟩ := tr_okd hk
          refine lv_iinc (v := tv17) (lv' := [(5, .int tv17), (0, .ref (tr_ad w 24)), (1, .ref (tr_ad w tn1)), (3, .int tv902), (4, .int tv3)]) hx hb dX0_spread_89 hl (k := 4) rfl (by rw [etv17]; rfl) (by decide) rfl (fun ls hl => ?_)
          refine lv_goto (tgt := 56) hx hb dX0_spread_92 (by decide) ?_
          exact hin56 _ (tr_okS hk) _ _ _ hP hS (lv_sub hl [1, 2, 3, 4, 0] rfl)
  refine tr_loop (fun q => tr_Wd p l e r_X0_spread s m args below meth c (MQ below (tr_Qv tr_X w h0) args s 0 0 (tr_R tr_X w)) tr_X w 6 3 [(0, .ref (tr_ad w 24)), (1, .ref (tr_ad w tn1)), (2, .int tv901), (3, .int tv902), (4, .int q.1)] [] q.2) hk ?_ _ _ _ hP hS (lv_sub hl [1, 2, 3, 4, 0] rfl)
  intro P3 hin3 hex3 q hk
  obtain ⟨tv18, th19⟩ := q
  intro H locs ls hP hS hl
  replace hk : tr_ok (f_X0_spread_L3 tn1 tv901 tv18 th19) P3 := hk
  unfold f_X0_spread_L3 at hk
  refine lv_iload hx hb dX0_spread_3 (lv_at hl 4 rfl) ?_
  refine lv_aload_n hx hb dX0_spread_5 rfl (lv_at hl 1 rfl) ?_
  refine gf_X0_28 htn1 C hP dX0_spread_6 ?_
  refine lv_icmp_ge (tgt := 37) hx hb dX0_spread_9 (by decide) (fun tc20 => ?_) (fun tc20 => ?_)
  · replace hk := tr_ift hk tc20
    replace hk := hex3 _ (tr_okS hk)
    replace hk : tr_ok (f_X0_spread_E37 tv902 tn1 th19) (fun o => o = h0) := hk
    exact j37_3 th19 hk _ _ _ hP hS (lv_sub hl [0, 1, 3] rfl)
  · replace hk := tr_iff hk tc20
    refine lv_aload_n hx hb dX0_spread_12 rfl (lv_at hl 0 rfl) ?_
    refine gf_X0_15 C hP dX0_spread_13 ?_
    refine lv_iload hx hb dX0_spread_16 (lv_at hl 4 rfl) ?_
    refine lv_iload hx hb dX0_spread_18 (lv_at hl 4 rfl) ?_
    refine lv_iload_n hx hb dX0_spread_20 rfl (lv_at hl 2 rfl) ?_
    refine lv_icmp_ne (tgt := 28) hx hb dX0_spread_21 (by decide) (fun tc21 => ?_) (fun tc21 => ?_)
    · replace hk := tr_iff hk tc21
      refine lv_ldc (v := 1000000) hx hb C.2.2.2.1 (C.2.2.2.2.1 _ mc_X0_46) dX0_spread_28 ?_
      obtain ⟨tg22, hk⟩ := tr_okg hk
      refine tr_ias C hP hS (ar_X_26 w) tg22 dX0_spread_30 (fun H locs hP hS => ?_)
      refine tr_th hk hP (fun th23 hk hP => ?_)
      obtain ⟨tv24, etv24, hk⟩ := tr_okd hk
      refine lv_iinc (v := tv24) (lv' := [(4, .int tv24), (0, .ref (tr_ad w 24)), (1, .ref (tr_ad w tn1)), (2, .int tv901), (3, .int tv902)]) hx hb dX0_spread_31 hl (k := 4) rfl (by rw [etv24]; rfl) (by decide) rfl (fun ls hl => ?_)
      refine lv_goto (tgt := 3) hx hb dX0_spread_34 (by decide) ?_
      exact hin3 _ (tr_okS hk) _ _ _ hP hS (lv_sub hl [1, 2, 3, 4, 0] rfl)
    · replace hk := tr_ift hk tc21
      refine lv_iconst (v := 0) hx hb dX0_spread_24 (by decide) ?_
      refine lv_goto (tgt := 30) hx hb dX0_spread_25 (by decide) ?_
      obtain ⟨tg25, hk⟩ := tr_okg hk
      refine tr_ias C hP hS (ar_X_26 w) tg25 dX0_spread_30 (fun H locs hP hS => ?_)
      refine tr_th hk hP (fun th26 hk hP => ?_)
      obtain ⟨tv27, etv27, hk⟩ := tr_okd hk
      refine lv_iinc (v := tv27) (lv' := [(4, .int tv27), (0, .ref (tr_ad w 24)), (1, .ref (tr_ad w tn1)), (2, .int tv901), (3, .int tv902)]) hx hb dX0_spread_31 hl (k := 4) rfl (by rw [etv27]; rfl) (by decide) rfl (fun ls hl => ?_)
      refine lv_goto (tgt := 3) hx hb dX0_spread_34 (by decide) ?_
      exact hin3 _ (tr_okS hk) _ _ _ hP hS (lv_sub hl [1, 2, 3, 4, 0] rfl)
abbrev r_X0_lateness : Room := { frames := 1, cells := 0, slots := 0, locals := 21 }
set_option maxHeartbeats 4000000 in
set_option maxRecDepth 100000 in
theorem c_X0_lateness (l : Launch) (w : tr_E) (tv900 : Int32) (tv901 : Int32) (tv902 : Int32) (h : tr_H) (r0 : Int32) (hk : f_X0_lateness tv900 tv901 tv902 h = some r0) : Met l yX0_lateness (Cond.code yX0_lateness cX0_lateness 4 (some .int) :: tr_T) r_X0_lateness (va_Pc [.ref (tr_ad w 24), .int tv900, .int tv901, .int tv902] (tr_Wo tr_X w h)) (tr_Qi tr_X w r0 h) 0 0 (tr_R tr_X w) := by
  refine tr_start (by decide) (Nat.le_refl _) ?_
  intro p e s m args below meth c C hr hlocks hargs hP
  have hx := C.1
  have hb := C.2.1
  have hS : va_S (tr_R tr_X w) s.heap s.heap [] := va_S.rf
  have hl := lv_entry ([.ref (tr_ad w 24), .int tv900, .int tv901, .int tv902]) (n := 4) (Nat.le_of_ble_eq_true rfl)
  rw [lg_entry_eq]
  generalize (lg_sl ([.ref (tr_ad w 24), .int tv900, .int tv901, .int tv902]) ++ List.replicate (4 - (lg_sl ([.ref (tr_ad w 24), .int tv900, .int tv901, .int tv902])).length) Slot.unset).toArray = ls at hl ⊢
  have hl : lv_has ls 4 [(0, .ref (tr_ad w 24)), (1, .int tv900), (2, .int tv901), (3, .int tv902)] := hl
  replace hk : tr_ok (f_X0_lateness tv900 tv901 tv902 h) (fun o => o = r0) := ⟨_, hk, rfl⟩
  unfold f_X0_lateness at hk
  refine lv_iload_n hx hb dX0_lateness_0 rfl (lv_at hl 2 rfl) ?_
  refine lv_if_lt (tgt := 20) hx hb dX0_lateness_1 (by decide) (fun tc1 => ?_) (fun tc1 => ?_)
  · replace hk := tr_ift hk tc1
    refine lv_iconst (v := 0) hx hb dX0_lateness_20 (by decide) ?_
    exact tr_iret C hP hS hr hlocks (congrArg (fun x => (x, h)) (tr_okS (P := (fun o => o = r0)) hk)) dX0_lateness_21
  · replace hk := tr_iff hk tc1
    refine lv_iload_n hx hb dX0_lateness_4 rfl (lv_at hl 2 rfl) ?_
    refine lv_bipush (v := 6) hx hb dX0_lateness_5 (by decide) ?_
    refine lv_icmp_ge (tgt := 20) hx hb dX0_lateness_7 (by decide) (fun tc2 => ?_) (fun tc2 => ?_)
    · replace hk := tr_ift hk tc2
      refine lv_iconst (v := 0) hx hb dX0_lateness_20 (by decide) ?_
      exact tr_iret C hP hS hr hlocks (congrArg (fun x => (x, h)) (tr_okS (P := (fun o => o = r0)) hk)) dX0_lateness_21
    · replace hk := tr_iff hk tc2
      refine lv_iload_n hx hb dX0_lateness_10 rfl (lv_at hl 3 rfl) ?_
      refine lv_if_lt (tgt := 20) hx hb dX0_lateness_11 (by decide) (fun tc3 => ?_) (fun tc3 => ?_)
      · replace hk := tr_ift hk tc3
        refine lv_iconst (v := 0) hx hb dX0_lateness_20 (by decide) ?_
        exact tr_iret C hP hS hr hlocks (congrArg (fun x => (x, h)) (tr_okS (P := (fun o => o = r0)) hk)) dX0_lateness_21
      · replace hk := tr_iff hk tc3
        refine lv_iload_n hx hb dX0_lateness_14 rfl (lv_at hl 3 rfl) ?_
        refine lv_bipush (v := 40) hx hb dX0_lateness_15 (by decide) ?_
        refine lv_icmp_le (tgt := 22) hx hb dX0_lateness_17 (by decide) (fun tc4 => ?_) (fun tc4 => ?_)
        · replace hk := tr_ift hk tc4
          refine lv_iconst (v := 0) hx hb dX0_lateness_22 (by decide) ?_
          refine lv_iload_n hx hb dX0_lateness_23 rfl (lv_at hl 1 rfl) ?_
          refine lv_aload_n hx hb dX0_lateness_24 rfl (lv_at hl 0 rfl) ?_
          refine gf_X0_15 C hP dX0_lateness_25 ?_
          refine lv_iload_n hx hb dX0_lateness_28 rfl (lv_at hl 3 rfl) ?_
          refine lv_bipush (v := 6) hx hb dX0_lateness_29 (by decide) ?_
          refine lv_imul hx hb dX0_lateness_31 ?_
          refine lv_iload_n hx hb dX0_lateness_32 rfl (lv_at hl 2 rfl) ?_
          refine lv_iadd hx hb dX0_lateness_33 ?_
          refine tr_ti hk (fun tv5 hk => ?_)
          obtain ⟨tg6, hk⟩ := tr_okg hk
          refine tr_ial C hP (ar_X_26 w) tg6 dX0_lateness_34 ?_
          refine lv_isub hx hb dX0_lateness_35 ?_
          refine tr_mx C hl ml_X0_37 ⟨Nat.le_of_ble_eq_true rfl, Nat.le_of_ble_eq_true rfl⟩ ⟨Nat.le_refl _, Nat.le_refl _⟩ dX0_lateness_36 ?_
          exact tr_iret C hP hS hr hlocks (congrArg (fun x => (x, h)) (tr_okS (P := (fun o => o = r0)) hk)) dX0_lateness_39
        · replace hk := tr_iff hk tc4
          refine lv_iconst (v := 0) hx hb dX0_lateness_20 (by decide) ?_
          exact tr_iret C hP hS hr hlocks (congrArg (fun x => (x, h)) (tr_okS (P := (fun o => o = r0)) hk)) dX0_lateness_21
abbrev r_X0_firstQuietRound : Room := { frames := 2, cells := 0, slots := 0, locals := 44 }
set_option maxHeartbeats 4000000 in
set_option maxRecDepth 100000 in
theorem c_X0_firstQuietRound (l : Launch) (w : tr_E) (tv900 : Int32) (tv901 : Int32) (h : tr_H) (r0 : Int32) (hk : f_X0_firstQuietRound tv900 tv901 h = some r0) : Met l yX0_firstQuietRound (Cond.code yX0_firstQuietRound cX0_firstQuietRound 6 (some .int) :: tr_T) r_X0_firstQuietRound (va_Pc [.ref (tr_ad w 24), .int tv900, .int tv901] (tr_Wo tr_X w h)) (tr_Qi tr_X w r0 h) 0 0 (tr_R tr_X w) := by
  refine tr_start (by decide) (Nat.le_refl _) ?_
  intro p e s m args below meth c C hr hlocks hargs hP
  have hx := C.1
  have hb := C.2.1
  have hS : va_S (tr_R tr_X w) s.heap s.heap [] := va_S.rf
  have hl := lv_entry ([.ref (tr_ad w 24), .int tv900, .int tv901]) (n := 6) (Nat.le_of_ble_eq_true rfl)
  rw [lg_entry_eq]
  generalize (lg_sl ([.ref (tr_ad w 24), .int tv900, .int tv901]) ++ List.replicate (6 - (lg_sl ([.ref (tr_ad w 24), .int tv900, .int tv901])).length) Slot.unset).toArray = ls at hl ⊢
  have hl : lv_has ls 6 [(0, .ref (tr_ad w 24)), (1, .int tv900), (2, .int tv901)] := hl
  replace hk : tr_ok (f_X0_firstQuietRound tv900 tv901 h) (fun o => o = r0) := ⟨_, hk, rfl⟩
  unfold f_X0_firstQuietRound at hk
  refine lv_iconst (v := 1) hx hb dX0_firstQuietRound_0 (by decide) ?_
  refine lv_istore_n (lv' := [(3, .int 1), (0, .ref (tr_ad w 24)), (1, .int tv900), (2, .int tv901)]) hx hb dX0_firstQuietRound_1 rfl hl (by decide) rfl (fun ls hl => ?_)
  have j54_2 : tr_ok (f_X0_firstQuietRound_E54) (fun o => o = r0) → tr_Wd p l e r_X0_firstQuietRound s m args below meth c (MQ below (tr_Qi tr_X w r0 h) args s 0 0 (tr_R tr_X w)) tr_X w 6 54 [] [] h := by
    intro  hk H locs ls hP hS hl
    unfold f_X0_firstQuietRound_E54 at hk
    refine lv_bipush (v := (-9)) hx hb dX0_firstQuietRound_54 (by decide) ?_
    exact tr_iret C hP hS hr hlocks (congrArg (fun x => (x, h)) (tr_okS (P := (fun o => o = r0)) hk)) dX0_firstQuietRound_56
  refine tr_loop (fun q => tr_Wd p l e r_X0_firstQuietRound s m args below meth c (MQ below (tr_Qi tr_X w r0 h) args s 0 0 (tr_R tr_X w)) tr_X w 6 2 [(0, .ref (tr_ad w 24)), (1, .int tv900), (2, .int tv901), (3, .int q)] [] h) hk ?_ _ _ _ hP hS (lv_sub hl [1, 2, 3, 0] rfl)
  intro P2 hin2 hex2 q hk
  generalize q = tv1 at hk ⊢
  intro H locs ls hP hS hl
  replace hk : tr_ok (f_X0_firstQuietRound_L2 tv901 tv900 h tv1) P2 := hk
  unfold f_X0_firstQuietRound_L2 at hk
  refine lv_iload_n hx hb dX0_firstQuietRound_2 rfl (lv_at hl 3 rfl) ?_
  refine lv_bipush (v := 40) hx hb dX0_firstQuietRound_3 (by decide) ?_
  refine lv_icmp_gt (tgt := 54) hx hb dX0_firstQuietRound_5 (by decide) (fun tc2 => ?_) (fun tc2 => ?_)
  · replace hk := tr_ift hk tc2
    replace hk := hex2 _ (tr_okS hk)
    replace hk : tr_ok (f_X0_firstQuietRound_E54) (fun o => o = r0) := hk
    exact j54_2 hk _ _ _ hP hS (lv_sub hl [] rfl)
  · replace hk := tr_iff hk tc2
    refine lv_iconst (v := 0) hx hb dX0_firstQuietRound_8 (by decide) ?_
    refine lv_istore (lv' := [(4, .int 0), (0, .ref (tr_ad w 24)), (1, .int tv900), (2, .int tv901), (3, .int tv1)]) hx hb dX0_firstQuietRound_9 hl (by decide) rfl (fun ls hl => ?_)
    refine lv_iconst (v := 0) hx hb dX0_firstQuietRound_11 (by decide) ?_
    refine lv_istore (lv' := [(5, .int 0), (4, .int 0), (0, .ref (tr_ad w 24)), (1, .int tv900), (2, .int tv901), (3, .int tv1)]) hx hb dX0_firstQuietRound_12 hl (by decide) rfl (fun ls hl => ?_)
    have j41_14 : ∀ (tv3 : Int32), tr_ok (f_X0_firstQuietRound_E41 tv1 tv3) P2 → tr_Wd p l e r_X0_firstQuietRound s m args below meth c (MQ below (tr_Qi tr_X w r0 h) args s 0 0 (tr_R tr_X w)) tr_X w 6 41 [(0, .ref (tr_ad w 24)), (1, .int tv900), (2, .int tv901), (3, .int tv1), (4, .int tv3)] [] h := by
      intro tv3 hk H locs ls hP hS hl
      unfold f_X0_firstQuietRound_E41 at hk
      refine lv_iload hx hb dX0_firstQuietRound_41 (lv_at hl 4 rfl) ?_
      refine lv_if_ne (tgt := 48) hx hb dX0_firstQuietRound_43 (by decide) (fun tc4 => ?_) (fun tc4 => ?_)
      · replace hk := tr_iff hk tc4
        obtain ⟨tv5, etv5, hk⟩ := tr_okd hk
        refine lv_iinc (v := tv5) (lv' := [(3, .int tv5), (0, .ref (tr_ad w 24)), (1, .int tv900), (2, .int tv901), (4, .int tv3)]) hx hb dX0_firstQuietRound_48 hl (k := 3) rfl (by rw [etv5]; rfl) (by decide) rfl (fun ls hl => ?_)
        refine lv_goto (tgt := 2) hx hb dX0_firstQuietRound_51 (by decide) ?_
        exact hin2 _ (tr_okS hk) _ _ _ hP hS (lv_sub hl [1, 2, 3, 0] rfl)
      · replace hk := tr_ift hk tc4
        refine lv_iload_n hx hb dX0_firstQuietRound_46 rfl (lv_at hl 3 rfl) ?_
        replace hk := hex2 _ (tr_okS hk)
        replace hk : tr_ok (some tv1) (fun o => o = r0) := hk
        exact tr_iret C hP hS hr hlocks (congrArg (fun x => (x, h)) (tr_okS (P := (fun o => o = r0)) hk)) dX0_firstQuietRound_47
    refine tr_loop (fun q => tr_Wd p l e r_X0_firstQuietRound s m args below meth c (MQ below (tr_Qi tr_X w r0 h) args s 0 0 (tr_R tr_X w)) tr_X w 6 14 [(0, .ref (tr_ad w 24)), (1, .int tv900), (2, .int tv901), (3, .int tv1), (4, .int q.1), (5, .int q.2)] [] h) hk ?_ _ _ _ hP hS (lv_sub hl [2, 3, 4, 5, 1, 0] rfl)
    intro P14 hin14 hex14 q hk
    obtain ⟨tv6, tv7⟩ := q
    intro H locs ls hP hS hl
    replace hk : tr_ok (f_X0_firstQuietRound_L14 tv901 tv900 tv1 h tv6 tv7) P14 := hk
    unfold f_X0_firstQuietRound_L14 at hk
    refine lv_iload hx hb dX0_firstQuietRound_14 (lv_at hl 5 rfl) ?_
    refine lv_iload_n hx hb dX0_firstQuietRound_16 rfl (lv_at hl 2 rfl) ?_
    refine lv_icmp_ge (tgt := 41) hx hb dX0_firstQuietRound_17 (by decide) (fun tc8 => ?_) (fun tc8 => ?_)
    · replace hk := tr_ift hk tc8
      replace hk := hex14 _ (tr_okS hk)
      replace hk : tr_ok (f_X0_firstQuietRound_E41 tv1 tv6) P2 := hk
      exact j41_14 tv6 hk _ _ _ hP hS (lv_sub hl [0, 1, 2, 3, 4] rfl)
    · replace hk := tr_iff hk tc8
      refine lv_iload hx hb dX0_firstQuietRound_20 (lv_at hl 4 rfl) ?_
      refine lv_aload_n hx hb dX0_firstQuietRound_22 rfl (lv_at hl 0 rfl) ?_
      refine lv_iload_n hx hb dX0_firstQuietRound_23 rfl (lv_at hl 1 rfl) ?_
      refine lv_iload hx hb dX0_firstQuietRound_24 (lv_at hl 5 rfl) ?_
      refine lv_iload_n hx hb dX0_firstQuietRound_26 rfl (lv_at hl 3 rfl) ?_
      obtain ⟨tv10, tq9, hk⟩ := tr_okb hk
      refine tr_cvi (As := [.int tv900, .int tv7, .int tv1]) (rest := [.int tv6]) C hP hS hl (c_X0_lateness l w tv900 tv7 tv1 h tv10 tq9) mz_X0_lateness ml_X0_57 (by decide) rfl rfl rfl rfl ⟨Nat.le_of_ble_eq_true rfl, Nat.le_of_ble_eq_true rfl⟩ rfl rfl (Nat.le_of_ble_eq_true rfl) ⟨Nat.le_refl _, Nat.le_refl _⟩ dX0_firstQuietRound_27 (fun H locs hP hS => ?_)
      refine tr_mx C hl ml_X0_37 ⟨Nat.le_of_ble_eq_true rfl, Nat.le_of_ble_eq_true rfl⟩ ⟨Nat.le_refl _, Nat.le_refl _⟩ dX0_firstQuietRound_30 ?_
      refine tr_ti hk (fun tv11 hk => ?_)
      refine lv_istore (lv' := [(4, .int tv11), (0, .ref (tr_ad w 24)), (1, .int tv900), (2, .int tv901), (3, .int tv1), (5, .int tv7)]) hx hb dX0_firstQuietRound_33 hl (by decide) rfl (fun ls hl => ?_)
      obtain ⟨tv12, etv12, hk⟩ := tr_okd hk
      refine lv_iinc (v := tv12) (lv' := [(5, .int tv12), (4, .int tv11), (0, .ref (tr_ad w 24)), (1, .int tv900), (2, .int tv901), (3, .int tv1)]) hx hb dX0_firstQuietRound_35 hl (k := 5) rfl (by rw [etv12]; rfl) (by decide) rfl (fun ls hl => ?_)
      refine lv_goto (tgt := 14) hx hb dX0_firstQuietRound_38 (by decide) ?_
      exact hin14 _ (tr_okS hk) _ _ _ hP hS (lv_sub hl [2, 3, 4, 5, 1, 0] rfl)
abbrev r_X1_forget : Room := { frames := 0, cells := 0, slots := 0, locals := 0 }
set_option maxHeartbeats 4000000 in
set_option maxRecDepth 100000 in
theorem c_X1_forget (l : Launch) (w : tr_E)  (h : tr_H) (h0 : tr_H) (hk : f_X1_forget h = some h0) : Met l yX1_forget (Cond.code yX1_forget cX1_forget 1 none :: tr_T) r_X1_forget (va_Pc [.ref (tr_ad w 13)] (tr_Wo tr_X w h)) (tr_Qv tr_X w h0) 0 0 (tr_R tr_X w) := by
  refine tr_start (by decide) (Nat.le_refl _) ?_
  intro p e s m args below meth c C hr hlocks hargs hP
  have hx := C.1
  have hb := C.2.1
  have hS : va_S (tr_R tr_X w) s.heap s.heap [] := va_S.rf
  have hl := lv_entry ([.ref (tr_ad w 13)]) (n := 1) (Nat.le_of_ble_eq_true rfl)
  rw [lg_entry_eq]
  generalize (lg_sl ([.ref (tr_ad w 13)]) ++ List.replicate (1 - (lg_sl ([.ref (tr_ad w 13)])).length) Slot.unset).toArray = ls at hl ⊢
  have hl : lv_has ls 1 [(0, .ref (tr_ad w 13))] := hl
  replace hk : tr_ok (f_X1_forget h) (fun o => o = h0) := ⟨_, hk, rfl⟩
  unfold f_X1_forget at hk
  refine lv_aload_n hx hb dX1_forget_0 rfl (lv_at hl 0 rfl) ?_
  refine lv_iconst (v := 0) hx hb dX1_forget_1 (by decide) ?_
  refine pf_X1_21 C hP hS dX1_forget_2 (fun H locs hP hS => ?_)
  refine tr_th hk hP (fun th1 hk hP => ?_)
  exact tr_vret C hP hS hr hlocks (tr_okS (P := (fun o => o = h0)) hk) dX1_forget_5
abbrev r_X1_forgetFirst : Room := { frames := 0, cells := 0, slots := 0, locals := 0 }
set_option maxHeartbeats 4000000 in
set_option maxRecDepth 100000 in
theorem c_X1_forgetFirst (l : Launch) (w : tr_E)  (h : tr_H) (h0 : tr_H) (hk : f_X1_forgetFirst h = some h0) : Met l yX1_forgetFirst (Cond.code yX1_forgetFirst cX1_forgetFirst 2 none :: tr_T) r_X1_forgetFirst (va_Pc [.ref (tr_ad w 13)] (tr_Wo tr_X w h)) (tr_Qv tr_X w h0) 0 0 (tr_R tr_X w) := by
  refine tr_start (by decide) (Nat.le_refl _) ?_
  intro p e s m args below meth c C hr hlocks hargs hP
  have hx := C.1
  have hb := C.2.1
  have hS : va_S (tr_R tr_X w) s.heap s.heap [] := va_S.rf
  have hl := lv_entry ([.ref (tr_ad w 13)]) (n := 2) (Nat.le_of_ble_eq_true rfl)
  rw [lg_entry_eq]
  generalize (lg_sl ([.ref (tr_ad w 13)]) ++ List.replicate (2 - (lg_sl ([.ref (tr_ad w 13)])).length) Slot.unset).toArray = ls at hl ⊢
  have hl : lv_has ls 2 [(0, .ref (tr_ad w 13))] := hl
  replace hk : tr_ok (f_X1_forgetFirst h) (fun o => o = h0) := ⟨_, hk, rfl⟩
  unfold f_X1_forgetFirst at hk
  refine lv_iconst (v := 1) hx hb dX1_forgetFirst_0 (by decide) ?_
  refine lv_istore_n (lv' := [(1, .int 1), (0, .ref (tr_ad w 13))]) hx hb dX1_forgetFirst_1 rfl hl (by decide) rfl (fun ls hl => ?_)
  have j56_2 : ∀ (th1 : tr_H), tr_ok (f_X1_forgetFirst_E56 th1) (fun o => o = h0) → tr_Wd p l e r_X1_forgetFirst s m args below meth c (MQ below (tr_Qv tr_X w h0) args s 0 0 (tr_R tr_X w)) tr_X w 2 56 [(0, .ref (tr_ad w 13))] [] th1 := by
    intro th1 hk H locs ls hP hS hl
    unfold f_X1_forgetFirst_E56 at hk
    refine lv_aload_n hx hb dX1_forgetFirst_56 rfl (lv_at hl 0 rfl) ?_
    refine lv_bipush (v := 13) hx hb dX1_forgetFirst_57 (by decide) ?_
    refine pf_X1_21 C hP hS dX1_forgetFirst_59 (fun H locs hP hS => ?_)
    refine tr_th hk hP (fun th2 hk hP => ?_)
    exact tr_vret C hP hS hr hlocks (tr_okS (P := (fun o => o = h0)) hk) dX1_forgetFirst_62
  refine tr_loop (fun q => tr_Wd p l e r_X1_forgetFirst s m args below meth c (MQ below (tr_Qv tr_X w h0) args s 0 0 (tr_R tr_X w)) tr_X w 2 2 [(0, .ref (tr_ad w 13)), (1, .int q.1)] [] q.2) hk ?_ _ _ _ hP hS (lv_sub hl [1, 0] rfl)
  intro P2 hin2 hex2 q hk
  obtain ⟨tv3, th4⟩ := q
  intro H locs ls hP hS hl
  replace hk : tr_ok (f_X1_forgetFirst_L2 tv3 th4) P2 := hk
  unfold f_X1_forgetFirst_L2 at hk
  refine lv_iload_n hx hb dX1_forgetFirst_2 rfl (lv_at hl 1 rfl) ?_
  refine lv_bipush (v := 14) hx hb dX1_forgetFirst_3 (by decide) ?_
  refine lv_icmp_ge (tgt := 56) hx hb dX1_forgetFirst_5 (by decide) (fun tc5 => ?_) (fun tc5 => ?_)
  · replace hk := tr_ift hk tc5
    replace hk := hex2 _ (tr_okS hk)
    replace hk : tr_ok (f_X1_forgetFirst_E56 th4) (fun o => o = h0) := hk
    exact j56_2 th4 hk _ _ _ hP hS (lv_sub hl [0] rfl)
  · replace hk := tr_iff hk tc5
    refine lv_aload_n hx hb dX1_forgetFirst_8 rfl (lv_at hl 0 rfl) ?_
    refine gf_X1_9 C hP dX1_forgetFirst_9 ?_
    refine lv_iload_n hx hb dX1_forgetFirst_12 rfl (lv_at hl 1 rfl) ?_
    refine lv_iconst (v := 1) hx hb dX1_forgetFirst_13 (by decide) ?_
    refine lv_isub hx hb dX1_forgetFirst_14 ?_
    refine lv_aload_n hx hb dX1_forgetFirst_15 rfl (lv_at hl 0 rfl) ?_
    refine gf_X1_9 C hP dX1_forgetFirst_16 ?_
    refine lv_iload_n hx hb dX1_forgetFirst_19 rfl (lv_at hl 1 rfl) ?_
    obtain ⟨tg6, hk⟩ := tr_okg hk
    refine tr_ial C hP (ar_X_14 w) tg6 dX1_forgetFirst_20 ?_
    obtain ⟨tv7, etv7, hk⟩ := tr_okd hk
    rw [← etv7]
    obtain ⟨tg8, hk⟩ := tr_okg hk
    refine tr_ias C hP hS (ar_X_14 w) tg8 dX1_forgetFirst_21 (fun H locs hP hS => ?_)
    refine tr_th hk hP (fun th9 hk hP => ?_)
    refine lv_aload_n hx hb dX1_forgetFirst_22 rfl (lv_at hl 0 rfl) ?_
    refine gf_X1_15 C hP dX1_forgetFirst_23 ?_
    refine lv_iload_n hx hb dX1_forgetFirst_26 rfl (lv_at hl 1 rfl) ?_
    refine lv_iconst (v := 1) hx hb dX1_forgetFirst_27 (by decide) ?_
    refine lv_isub hx hb dX1_forgetFirst_28 ?_
    refine lv_aload_n hx hb dX1_forgetFirst_29 rfl (lv_at hl 0 rfl) ?_
    refine gf_X1_15 C hP dX1_forgetFirst_30 ?_
    refine lv_iload_n hx hb dX1_forgetFirst_33 rfl (lv_at hl 1 rfl) ?_
    obtain ⟨tg10, hk⟩ := tr_okg hk
    refine tr_ial C hP (ar_X_15 w) tg10 dX1_forgetFirst_34 ?_
    obtain ⟨tv11, etv11, hk⟩ := tr_okd hk
    rw [← etv11]
    obtain ⟨tg12, hk⟩ := tr_okg hk
    refine tr_ias C hP hS (ar_X_15 w) tg12 dX1_forgetFirst_35 (fun H locs hP hS => ?_)
    refine tr_th hk hP (fun th13 hk hP => ?_)
    refine lv_aload_n hx hb dX1_forgetFirst_36 rfl (lv_at hl 0 rfl) ?_
    refine gf_X1_18 C hP dX1_forgetFirst_37 ?_
    refine lv_iload_n hx hb dX1_forgetFirst_40 rfl (lv_at hl 1 rfl) ?_
    refine lv_iconst (v := 1) hx hb dX1_forgetFirst_41 (by decide) ?_
    refine lv_isub hx hb dX1_forgetFirst_42 ?_
    refine lv_aload_n hx hb dX1_forgetFirst_43 rfl (lv_at hl 0 rfl) ?_
    refine gf_X1_18 C hP dX1_forgetFirst_44 ?_
    refine lv_iload_n hx hb dX1_forgetFirst_47 rfl (lv_at hl 1 rfl) ?_
    obtain ⟨tg14, hk⟩ := tr_okg hk
    refine tr_ial C hP (ar_X_16 w) tg14 dX1_forgetFirst_48 ?_
    obtain ⟨tv15, etv15, hk⟩ := tr_okd hk
    rw [← etv15]
    obtain ⟨tg16, hk⟩ := tr_okg hk
    refine tr_ias C hP hS (ar_X_16 w) tg16 dX1_forgetFirst_49 (fun H locs hP hS => ?_)
    refine tr_th hk hP (fun th17 hk hP => ?_)
    obtain ⟨tv18, etv18, hk⟩ := tr_okd hk
    refine lv_iinc (v := tv18) (lv' := [(1, .int tv18), (0, .ref (tr_ad w 13))]) hx hb dX1_forgetFirst_50 hl (k := 1) rfl (by rw [etv18]; rfl) (by decide) rfl (fun ls hl => ?_)
    refine lv_goto (tgt := 2) hx hb dX1_forgetFirst_53 (by decide) ?_
    exact hin2 _ (tr_okS hk) _ _ _ hP hS (lv_sub hl [1, 0] rfl)
abbrev r_X1_add : Room := { frames := 1, cells := 0, slots := 0, locals := 21 }
set_option maxHeartbeats 4000000 in
set_option maxRecDepth 100000 in
theorem c_X1_add (l : Launch) (w : tr_E) (tv900 : Int32) (tv901 : Int32) (tv902 : Int32) (h : tr_H) (h0 : tr_H) (hk : f_X1_add tv900 tv901 tv902 h = some h0) : Met l yX1_add (Cond.code yX1_add cX1_add 4 none :: tr_T) r_X1_add (va_Pc [.ref (tr_ad w 13), .int tv900, .int tv901, .int tv902] (tr_Wo tr_X w h)) (tr_Qv tr_X w h0) 0 0 (tr_R tr_X w) := by
  refine tr_start (by decide) (Nat.le_refl _) ?_
  intro p e s m args below meth c C hr hlocks hargs hP
  have hx := C.1
  have hb := C.2.1
  have hS : va_S (tr_R tr_X w) s.heap s.heap [] := va_S.rf
  have hl := lv_entry ([.ref (tr_ad w 13), .int tv900, .int tv901, .int tv902]) (n := 4) (Nat.le_of_ble_eq_true rfl)
  rw [lg_entry_eq]
  generalize (lg_sl ([.ref (tr_ad w 13), .int tv900, .int tv901, .int tv902]) ++ List.replicate (4 - (lg_sl ([.ref (tr_ad w 13), .int tv900, .int tv901, .int tv902])).length) Slot.unset).toArray = ls at hl ⊢
  have hl : lv_has ls 4 [(0, .ref (tr_ad w 13)), (1, .int tv900), (2, .int tv901), (3, .int tv902)] := hl
  replace hk : tr_ok (f_X1_add tv900 tv901 tv902 h) (fun o => o = h0) := ⟨_, hk, rfl⟩
  unfold f_X1_add at hk
  refine lv_aload_n hx hb dX1_add_0 rfl (lv_at hl 0 rfl) ?_
  refine gf_X1_21 C hP dX1_add_1 ?_
  refine lv_bipush (v := 14) hx hb dX1_add_4 (by decide) ?_
  have j13 : ∀ (th1 : tr_H), tr_ok (f_X1_add_J13 tv900 tv901 tv902 th1) (fun o => o = h0) → tr_Wd p l e r_X1_add s m args below meth c (MQ below (tr_Qv tr_X w h0) args s 0 0 (tr_R tr_X w)) tr_X w 4 13 [(0, .ref (tr_ad w 13)), (1, .int tv900), (2, .int tv901), (3, .int tv902)] [] th1 := by
    intro th1 hk H locs ls hP hS hl
    unfold f_X1_add_J13 at hk
    refine lv_aload_n hx hb dX1_add_13 rfl (lv_at hl 0 rfl) ?_
    refine gf_X1_21 C hP dX1_add_14 ?_
    refine lv_if_lt (tgt := 29) hx hb dX1_add_17 (by decide) (fun tc2 => ?_) (fun tc2 => ?_)
    · replace hk := tr_ift hk tc2
      exact tr_vret C hP hS hr hlocks (tr_okS (P := (fun o => o = h0)) hk) dX1_add_29
    · replace hk := tr_iff hk tc2
      refine lv_aload_n hx hb dX1_add_20 rfl (lv_at hl 0 rfl) ?_
      refine gf_X1_21 C hP dX1_add_21 ?_
      refine lv_bipush (v := 14) hx hb dX1_add_24 (by decide) ?_
      refine lv_icmp_lt (tgt := 30) hx hb dX1_add_26 (by decide) (fun tc3 => ?_) (fun tc3 => ?_)
      · replace hk := tr_ift hk tc3
        refine lv_aload_n hx hb dX1_add_30 rfl (lv_at hl 0 rfl) ?_
        refine gf_X1_9 C hP dX1_add_31 ?_
        refine lv_aload_n hx hb dX1_add_34 rfl (lv_at hl 0 rfl) ?_
        refine gf_X1_21 C hP dX1_add_35 ?_
        refine lv_iload_n hx hb dX1_add_38 rfl (lv_at hl 1 rfl) ?_
        obtain ⟨tv4, etv4, hk⟩ := tr_okd hk
        rw [← etv4]
        obtain ⟨tg5, hk⟩ := tr_okg hk
        refine tr_ias C hP hS (ar_X_14 w) tg5 dX1_add_39 (fun H locs hP hS => ?_)
        refine tr_th hk hP (fun th6 hk hP => ?_)
        refine lv_aload_n hx hb dX1_add_40 rfl (lv_at hl 0 rfl) ?_
        refine gf_X1_15 C hP dX1_add_41 ?_
        refine lv_aload_n hx hb dX1_add_44 rfl (lv_at hl 0 rfl) ?_
        refine gf_X1_21 C hP dX1_add_45 ?_
        refine lv_iload_n hx hb dX1_add_48 rfl (lv_at hl 2 rfl) ?_
        obtain ⟨tv7, etv7, hk⟩ := tr_okd hk
        rw [← etv7]
        obtain ⟨tg8, hk⟩ := tr_okg hk
        refine tr_ias C hP hS (ar_X_15 w) tg8 dX1_add_49 (fun H locs hP hS => ?_)
        refine tr_th hk hP (fun th9 hk hP => ?_)
        refine lv_aload_n hx hb dX1_add_50 rfl (lv_at hl 0 rfl) ?_
        refine gf_X1_18 C hP dX1_add_51 ?_
        refine lv_aload_n hx hb dX1_add_54 rfl (lv_at hl 0 rfl) ?_
        refine gf_X1_21 C hP dX1_add_55 ?_
        refine lv_iload_n hx hb dX1_add_58 rfl (lv_at hl 3 rfl) ?_
        obtain ⟨tv10, etv10, hk⟩ := tr_okd hk
        rw [← etv10]
        obtain ⟨tg11, hk⟩ := tr_okg hk
        refine tr_ias C hP hS (ar_X_16 w) tg11 dX1_add_59 (fun H locs hP hS => ?_)
        refine tr_th hk hP (fun th12 hk hP => ?_)
        refine lv_aload_n hx hb dX1_add_60 rfl (lv_at hl 0 rfl) ?_
        refine lv_dup hx hb dX1_add_61 rfl ?_
        refine gf_X1_21 C hP dX1_add_62 ?_
        refine lv_iconst (v := 1) hx hb dX1_add_65 (by decide) ?_
        refine lv_iadd hx hb dX1_add_66 ?_
        refine pf_X1_21 C hP hS dX1_add_67 (fun H locs hP hS => ?_)
        refine tr_th hk hP (fun th13 hk hP => ?_)
        exact tr_vret C hP hS hr hlocks (tr_okS (P := (fun o => o = h0)) hk) dX1_add_70
      · replace hk := tr_iff hk tc3
        exact tr_vret C hP hS hr hlocks (tr_okS (P := (fun o => o = h0)) hk) dX1_add_29
  refine lv_icmp_lt (tgt := 13) hx hb dX1_add_6 (by decide) (fun tc14 => ?_) (fun tc14 => ?_)
  · replace hk := tr_ift hk tc14
    exact j13 h hk _ _ _ hP hS (lv_sub hl [0, 1, 2, 3] rfl)
  · replace hk := tr_iff hk tc14
    refine lv_aload_n hx hb dX1_add_9 rfl (lv_at hl 0 rfl) ?_
    obtain ⟨th16, tq15, hk⟩ := tr_okb hk
    refine tr_cvv (As := []) (rest := []) C hP hS hl (c_X1_forgetFirst l w h th16 tq15) mz_X1_forgetFirst ml_X1_25 (by decide) rfl rfl rfl rfl ⟨Nat.le_of_ble_eq_true rfl, Nat.le_of_ble_eq_true rfl⟩ rfl rfl (Nat.le_of_ble_eq_true rfl) ⟨Nat.le_refl _, Nat.le_refl _⟩ dX1_add_10 (fun H locs hP hS => ?_)
    exact j13 th16 hk _ _ _ hP hS (lv_sub hl [0, 1, 2, 3] rfl)
abbrev r_X1_takeBack : Room := { frames := 2, cells := 0, slots := 0, locals := 44 }
set_option maxHeartbeats 4000000 in
set_option maxRecDepth 100000 in
theorem c_X1_takeBack (l : Launch) (w : tr_E) (tn1 : Nat) (htn1 : tr_net tn1) (h : tr_H) (h0 : tr_H) (hk : f_X1_takeBack tn1 h = some h0) : Met l yX1_takeBack (Cond.code yX1_takeBack cX1_takeBack 2 none :: tr_T) r_X1_takeBack (va_Pc [.ref (tr_ad w 13), .ref (tr_ad w tn1)] (tr_Wo tr_X w h)) (tr_Qv tr_X w h0) 0 0 (tr_R tr_X w) := by
  refine tr_start (by decide) (Nat.le_refl _) ?_
  intro p e s m args below meth c C hr hlocks hargs hP
  have hx := C.1
  have hb := C.2.1
  have hS : va_S (tr_R tr_X w) s.heap s.heap [] := va_S.rf
  have hl := lv_entry ([.ref (tr_ad w 13), .ref (tr_ad w tn1)]) (n := 2) (Nat.le_of_ble_eq_true rfl)
  rw [lg_entry_eq]
  generalize (lg_sl ([.ref (tr_ad w 13), .ref (tr_ad w tn1)]) ++ List.replicate (2 - (lg_sl ([.ref (tr_ad w 13), .ref (tr_ad w tn1)])).length) Slot.unset).toArray = ls at hl ⊢
  have hl : lv_has ls 2 [(0, .ref (tr_ad w 13)), (1, .ref (tr_ad w tn1))] := hl
  replace hk : tr_ok (f_X1_takeBack tn1 h) (fun o => o = h0) := ⟨_, hk, rfl⟩
  unfold f_X1_takeBack at hk
  refine lv_aload_n hx hb dX1_takeBack_0 rfl (lv_at hl 0 rfl) ?_
  refine gf_X1_21 C hP dX1_takeBack_1 ?_
  refine lv_iconst (v := 1) hx hb dX1_takeBack_4 (by decide) ?_
  refine lv_icmp_lt (tgt := 17) hx hb dX1_takeBack_5 (by decide) (fun tc1 => ?_) (fun tc1 => ?_)
  · replace hk := tr_ift hk tc1
    exact tr_vret C hP hS hr hlocks (tr_okS (P := (fun o => o = h0)) hk) dX1_takeBack_17
  · replace hk := tr_iff hk tc1
    refine lv_aload_n hx hb dX1_takeBack_8 rfl (lv_at hl 0 rfl) ?_
    refine gf_X1_21 C hP dX1_takeBack_9 ?_
    refine lv_bipush (v := 14) hx hb dX1_takeBack_12 (by decide) ?_
    refine lv_icmp_le (tgt := 18) hx hb dX1_takeBack_14 (by decide) (fun tc2 => ?_) (fun tc2 => ?_)
    · replace hk := tr_ift hk tc2
      refine lv_aload_n hx hb dX1_takeBack_18 rfl (lv_at hl 0 rfl) ?_
      refine lv_dup hx hb dX1_takeBack_19 rfl ?_
      refine gf_X1_21 C hP dX1_takeBack_20 ?_
      refine lv_iconst (v := 1) hx hb dX1_takeBack_23 (by decide) ?_
      refine lv_isub hx hb dX1_takeBack_24 ?_
      refine pf_X1_21 C hP hS dX1_takeBack_25 (fun H locs hP hS => ?_)
      refine tr_th hk hP (fun th3 hk hP => ?_)
      refine lv_aload_n hx hb dX1_takeBack_28 rfl (lv_at hl 1 rfl) ?_
      refine lv_aload_n hx hb dX1_takeBack_29 rfl (lv_at hl 0 rfl) ?_
      refine gf_X1_9 C hP dX1_takeBack_30 ?_
      refine lv_aload_n hx hb dX1_takeBack_33 rfl (lv_at hl 0 rfl) ?_
      refine gf_X1_21 C hP dX1_takeBack_34 ?_
      refine tr_ti hk (fun tv4 hk => ?_)
      obtain ⟨tg5, hk⟩ := tr_okg hk
      refine tr_ial C hP (ar_X_14 w) tg5 dX1_takeBack_37 ?_
      refine lv_aload_n hx hb dX1_takeBack_38 rfl (lv_at hl 0 rfl) ?_
      refine gf_X1_15 C hP dX1_takeBack_39 ?_
      refine lv_aload_n hx hb dX1_takeBack_42 rfl (lv_at hl 0 rfl) ?_
      refine gf_X1_21 C hP dX1_takeBack_43 ?_
      refine tr_ti hk (fun tv6 hk => ?_)
      obtain ⟨tg7, hk⟩ := tr_okg hk
      refine tr_ial C hP (ar_X_15 w) tg7 dX1_takeBack_46 ?_
      refine lv_aload_n hx hb dX1_takeBack_47 rfl (lv_at hl 0 rfl) ?_
      refine gf_X1_18 C hP dX1_takeBack_48 ?_
      refine lv_aload_n hx hb dX1_takeBack_51 rfl (lv_at hl 0 rfl) ?_
      refine gf_X1_21 C hP dX1_takeBack_52 ?_
      refine tr_ti hk (fun tv8 hk => ?_)
      obtain ⟨tg9, hk⟩ := tr_okg hk
      refine tr_ial C hP (ar_X_16 w) tg9 dX1_takeBack_55 ?_
      obtain ⟨tv11, th12, tq10, hk⟩ := tr_okb2 hk
      refine tr_cvi (As := [.int (th3.1 14 tv4.toNatClampNeg), .int (th3.1 15 tv6.toNatClampNeg), .int (th3.1 16 tv8.toNatClampNeg)]) (rest := []) C hP hS hl (c_X2_lay l w tn1 htn1 (th3.1 14 tv4.toNatClampNeg) (th3.1 15 tv6.toNatClampNeg) (th3.1 16 tv8.toNatClampNeg) th3 tv11 th12 tq10) mz_X2_lay ml_X1_28 (tr_net_lt htn1) (tr_net_cx htn1 (tr_ad w) w.2.1 (th3.1 tn1) (th3.2 tn1)) rfl rfl rfl ⟨Nat.le_of_ble_eq_true rfl, Nat.le_of_ble_eq_true rfl⟩ rfl rfl (Nat.le_of_ble_eq_true rfl) ⟨Nat.le_refl _, Nat.le_refl _⟩ dX1_takeBack_56 (fun H locs hP hS => ?_)
      refine lv_pop hx hb dX1_takeBack_59 rfl ?_
      exact tr_vret C hP hS hr hlocks (tr_okS (P := (fun o => o = h0)) hk) dX1_takeBack_60
    · replace hk := tr_iff hk tc2
      exact tr_vret C hP hS hr hlocks (tr_okS (P := (fun o => o = h0)) hk) dX1_takeBack_17
abbrev r_X3_takes : Room := { frames := 2, cells := 0, slots := 0, locals := 44 }
set_option maxHeartbeats 4000000 in
set_option maxRecDepth 100000 in
theorem c_X3_takes (l : Launch) (w : tr_E) (tv900 : Int32) (tv901 : Int32) (tn3 : Nat) (htn3 : tr_net tn3) (h : tr_H) (r0 : Int32) (h0 : tr_H) (hk : f_X3_takes tv900 tv901 tn3 h = some (r0, h0)) : Met l yX3_takes (Cond.code yX3_takes cX3_takes 5 (some .boolean) :: tr_T) r_X3_takes (va_Pc [.ref (tr_ad w 12), .int tv900, .int tv901, .ref (tr_ad w tn3)] (tr_Wo tr_X w h)) (tr_Qi tr_X w r0 h0) 0 0 (tr_R tr_X w) := by
  refine tr_start (by decide) (Nat.le_refl _) ?_
  intro p e s m args below meth c C hr hlocks hargs hP
  have hx := C.1
  have hb := C.2.1
  have hS : va_S (tr_R tr_X w) s.heap s.heap [] := va_S.rf
  have hl := lv_entry ([.ref (tr_ad w 12), .int tv900, .int tv901, .ref (tr_ad w tn3)]) (n := 5) (Nat.le_of_ble_eq_true rfl)
  rw [lg_entry_eq]
  generalize (lg_sl ([.ref (tr_ad w 12), .int tv900, .int tv901, .ref (tr_ad w tn3)]) ++ List.replicate (5 - (lg_sl ([.ref (tr_ad w 12), .int tv900, .int tv901, .ref (tr_ad w tn3)])).length) Slot.unset).toArray = ls at hl ⊢
  have hl : lv_has ls 5 [(0, .ref (tr_ad w 12)), (1, .int tv900), (2, .int tv901), (3, .ref (tr_ad w tn3))] := hl
  replace hk : tr_ok (f_X3_takes tv900 tv901 tn3 h) (fun o => o = (r0, h0)) := ⟨_, hk, rfl⟩
  unfold f_X3_takes at hk
  refine lv_iload_n hx hb dX3_takes_0 rfl (lv_at hl 2 rfl) ?_
  refine lv_bipush (v := 48) hx hb dX3_takes_1 (by decide) ?_
  refine lv_isub hx hb dX3_takes_3 ?_
  refine tr_ti hk (fun tv1 hk => ?_)
  refine lv_istore (lv' := [(4, .int tv1), (0, .ref (tr_ad w 12)), (1, .int tv900), (2, .int tv901), (3, .ref (tr_ad w tn3))]) hx hb dX3_takes_4 hl (by decide) rfl (fun ls hl => ?_)
  refine lv_iload_n hx hb dX3_takes_6 rfl (lv_at hl 2 rfl) ?_
  refine lv_if_ne (tgt := 22) hx hb dX3_takes_7 (by decide) (fun tc2 => ?_) (fun tc2 => ?_)
  · replace hk := tr_iff hk tc2
    refine lv_iload_n hx hb dX3_takes_22 rfl (lv_at hl 2 rfl) ?_
    refine lv_iconst (v := 1) hx hb dX3_takes_23 (by decide) ?_
    refine lv_icmp_ne (tgt := 52) hx hb dX3_takes_24 (by decide) (fun tc3 => ?_) (fun tc3 => ?_)
    · replace hk := tr_iff hk tc3
      refine lv_iload_n hx hb dX3_takes_52 rfl (lv_at hl 2 rfl) ?_
      refine lv_iconst (v := 2) hx hb dX3_takes_53 (by decide) ?_
      refine lv_isub hx hb dX3_takes_54 ?_
      refine lv_iconst (v := 3) hx hb dX3_takes_55 (by decide) ?_
      refine lv_irem hx hb dX3_takes_56 (by decide) ?_
      refine tr_ti hk (fun tv4 hk => ?_)
      rcases Decidable.em (tv4 = 0) with tc5 | tc5
      · replace hk := tr_ift hk tc5
        refine lv_lookup (tgt := 84) hx hb dX3_takes_57 (by decide) (by first | (rw [tc5]; done) | (rw [tc5]; rfl)) (by decide) ?_
        refine lv_aload_n hx hb dX3_takes_84 rfl (lv_at hl 1 rfl) ?_
        refine lv_iload hx hb dX3_takes_85 (lv_at hl 0 rfl) ?_
        refine pf_X3_21 C hP hS dX3_takes_87 (fun H locs hP hS => ?_)
        refine tr_th hk hP (fun th6 hk hP => ?_)
        refine lv_iload_n hx hb dX3_takes_90 rfl (lv_at hl 2 rfl) ?_
        refine lv_bipush (v := 38) hx hb dX3_takes_91 (by decide) ?_
        refine lv_icmp_ge (tgt := 122) hx hb dX3_takes_93 (by decide) (fun tc7 => ?_) (fun tc7 => ?_)
        · replace hk := tr_ift hk tc7
          refine lv_iconst (v := 0) hx hb dX3_takes_122 (by decide) ?_
          exact tr_zret C hP hS hr hlocks rfl (tr_okS (P := (fun o => o = (r0, h0))) hk) dX3_takes_123
        · replace hk := tr_iff hk tc7
          refine lv_aload_n hx hb dX3_takes_96 rfl (lv_at hl 4 rfl) ?_
          refine lv_aload_n hx hb dX3_takes_97 rfl (lv_at hl 1 rfl) ?_
          refine gf_X3_21 C hP dX3_takes_98 ?_
          obtain ⟨tv9, tq8, hk⟩ := tr_okb hk
          refine tr_cvi (As := [.int (th6.1 12 0)]) (rest := []) C hP hS hl (c_X2_has l w tn3 htn3 (th6.1 12 0) th6 tv9 tq8) mz_X2_has ml_X3_25 (tr_net_lt htn3) (tr_net_cx htn3 (tr_ad w) w.2.1 (th6.1 tn3) (th6.2 tn3)) rfl rfl rfl ⟨Nat.le_of_ble_eq_true rfl, Nat.le_of_ble_eq_true rfl⟩ rfl rfl (Nat.le_of_ble_eq_true rfl) ⟨Nat.le_refl _, Nat.le_refl _⟩ dX3_takes_101 (fun H locs hP hS => ?_)
          refine lv_if_eq (tgt := 122) hx hb dX3_takes_104 (by decide) (fun tc10 => ?_) (fun tc10 => ?_)
          · replace hk := tr_ift hk tc10
            refine lv_iconst (v := 0) hx hb dX3_takes_122 (by decide) ?_
            exact tr_zret C hP hS hr hlocks rfl (tr_okS (P := (fun o => o = (r0, h0))) hk) dX3_takes_123
          · replace hk := tr_iff hk tc10
            refine lv_aload_n hx hb dX3_takes_107 rfl (lv_at hl 4 rfl) ?_
            refine lv_aload_n hx hb dX3_takes_108 rfl (lv_at hl 1 rfl) ?_
            refine gf_X3_21 C hP dX3_takes_109 ?_
            obtain ⟨tv12, tq11, hk⟩ := tr_okb hk
            refine tr_cvi (As := [.int (th6.1 12 0)]) (rest := []) C hP hS hl (c_X2_leadsToAll l w tn3 htn3 (th6.1 12 0) th6 tv12 tq11) mz_X2_leadsToAll ml_X3_29 (tr_net_lt htn3) (tr_net_cx htn3 (tr_ad w) w.2.1 (th6.1 tn3) (th6.2 tn3)) rfl rfl rfl ⟨Nat.le_of_ble_eq_true rfl, Nat.le_of_ble_eq_true rfl⟩ rfl rfl (Nat.le_of_ble_eq_true rfl) ⟨Nat.le_refl _, Nat.le_refl _⟩ dX3_takes_112 (fun H locs hP hS => ?_)
            refine lv_if_ne (tgt := 122) hx hb dX3_takes_115 (by decide) (fun tc13 => ?_) (fun tc13 => ?_)
            · replace hk := tr_iff hk tc13
              refine lv_iconst (v := 0) hx hb dX3_takes_122 (by decide) ?_
              exact tr_zret C hP hS hr hlocks rfl (tr_okS (P := (fun o => o = (r0, h0))) hk) dX3_takes_123
            · replace hk := tr_ift hk tc13
              refine lv_iconst (v := 1) hx hb dX3_takes_118 (by decide) ?_
              refine lv_goto (tgt := 123) hx hb dX3_takes_119 (by decide) ?_
              exact tr_zret C hP hS hr hlocks rfl (tr_okS (P := (fun o => o = (r0, h0))) hk) dX3_takes_123
      replace hk := tr_iff hk tc5
      rcases Decidable.em (tv4 = 1) with tc14 | tc14
      · replace hk := tr_ift hk tc14
        refine lv_lookup (tgt := 124) hx hb dX3_takes_57 (by decide) (by first | (rw [tc14]; done) | (rw [tc14]; rfl)) (by decide) ?_
        refine lv_aload_n hx hb dX3_takes_124 rfl (lv_at hl 1 rfl) ?_
        refine lv_iload hx hb dX3_takes_125 (lv_at hl 0 rfl) ?_
        refine pf_X3_32 C hP hS dX3_takes_127 (fun H locs hP hS => ?_)
        refine tr_th hk hP (fun th15 hk hP => ?_)
        refine lv_aload_n hx hb dX3_takes_130 rfl (lv_at hl 4 rfl) ?_
        refine lv_aload_n hx hb dX3_takes_131 rfl (lv_at hl 1 rfl) ?_
        refine gf_X3_32 C hP dX3_takes_132 ?_
        obtain ⟨tv17, tq16, hk⟩ := tr_okb hk
        refine tr_cvi (As := [.int (th15.1 12 1)]) (rest := []) C hP hS hl (c_X2_has l w tn3 htn3 (th15.1 12 1) th15 tv17 tq16) mz_X2_has ml_X3_25 (tr_net_lt htn3) (tr_net_cx htn3 (tr_ad w) w.2.1 (th15.1 tn3) (th15.2 tn3)) rfl rfl rfl ⟨Nat.le_of_ble_eq_true rfl, Nat.le_of_ble_eq_true rfl⟩ rfl rfl (Nat.le_of_ble_eq_true rfl) ⟨Nat.le_refl _, Nat.le_refl _⟩ dX3_takes_135 (fun H locs hP hS => ?_)
        refine lv_if_eq (tgt := 162) hx hb dX3_takes_138 (by decide) (fun tc18 => ?_) (fun tc18 => ?_)
        · replace hk := tr_ift hk tc18
          refine lv_iconst (v := 0) hx hb dX3_takes_162 (by decide) ?_
          exact tr_zret C hP hS hr hlocks rfl (tr_okS (P := (fun o => o = (r0, h0))) hk) dX3_takes_163
        · replace hk := tr_iff hk tc18
          refine lv_aload_n hx hb dX3_takes_141 rfl (lv_at hl 4 rfl) ?_
          refine lv_aload_n hx hb dX3_takes_142 rfl (lv_at hl 1 rfl) ?_
          refine gf_X3_21 C hP dX3_takes_143 ?_
          refine lv_aload_n hx hb dX3_takes_146 rfl (lv_at hl 1 rfl) ?_
          refine gf_X3_32 C hP dX3_takes_147 ?_
          obtain ⟨tv20, tq19, hk⟩ := tr_okb hk
          refine tr_cvi (As := [.int (th15.1 12 0), .int (th15.1 12 1)]) (rest := []) C hP hS hl (c_X2_of l w tn3 htn3 (th15.1 12 0) (th15.1 12 1) th15 tv20 tq19) mz_X2_of ml_X3_35 (tr_net_lt htn3) (tr_net_cx htn3 (tr_ad w) w.2.1 (th15.1 tn3) (th15.2 tn3)) rfl rfl rfl ⟨Nat.le_of_ble_eq_true rfl, Nat.le_of_ble_eq_true rfl⟩ rfl rfl (Nat.le_of_ble_eq_true rfl) ⟨Nat.le_refl _, Nat.le_refl _⟩ dX3_takes_150 (fun H locs hP hS => ?_)
          refine lv_bipush (v := (-9)) hx hb dX3_takes_153 (by decide) ?_
          refine lv_icmp_ne (tgt := 162) hx hb dX3_takes_155 (by decide) (fun tc21 => ?_) (fun tc21 => ?_)
          · replace hk := tr_iff hk tc21
            refine lv_iconst (v := 0) hx hb dX3_takes_162 (by decide) ?_
            exact tr_zret C hP hS hr hlocks rfl (tr_okS (P := (fun o => o = (r0, h0))) hk) dX3_takes_163
          · replace hk := tr_ift hk tc21
            refine lv_iconst (v := 1) hx hb dX3_takes_158 (by decide) ?_
            refine lv_goto (tgt := 163) hx hb dX3_takes_159 (by decide) ?_
            exact tr_zret C hP hS hr hlocks rfl (tr_okS (P := (fun o => o = (r0, h0))) hk) dX3_takes_163
      replace hk := tr_iff hk tc14
      refine lv_lookup (tgt := 164) hx hb dX3_takes_57 (by decide) (tr_lso2 tc5 tc14) (by decide) ?_
      refine lv_iload hx hb dX3_takes_164 (lv_at hl 0 rfl) ?_
      refine lv_if_lt (tgt := 197) hx hb dX3_takes_166 (by decide) (fun tc22 => ?_) (fun tc22 => ?_)
      · replace hk := tr_ift hk tc22
        refine lv_iconst (v := 0) hx hb dX3_takes_197 (by decide) ?_
        exact tr_zret C hP hS hr hlocks rfl (tr_okS (P := (fun o => o = (r0, h0))) hk) dX3_takes_198
      · replace hk := tr_iff hk tc22
        refine lv_iload hx hb dX3_takes_169 (lv_at hl 0 rfl) ?_
        refine lv_bipush (v := 9) hx hb dX3_takes_171 (by decide) ?_
        refine lv_icmp_gt (tgt := 197) hx hb dX3_takes_173 (by decide) (fun tc23 => ?_) (fun tc23 => ?_)
        · replace hk := tr_ift hk tc23
          refine lv_iconst (v := 0) hx hb dX3_takes_197 (by decide) ?_
          exact tr_zret C hP hS hr hlocks rfl (tr_okS (P := (fun o => o = (r0, h0))) hk) dX3_takes_198
        · replace hk := tr_iff hk tc23
          refine lv_aload_n hx hb dX3_takes_176 rfl (lv_at hl 4 rfl) ?_
          refine lv_aload_n hx hb dX3_takes_177 rfl (lv_at hl 1 rfl) ?_
          refine gf_X3_21 C hP dX3_takes_178 ?_
          refine lv_aload_n hx hb dX3_takes_181 rfl (lv_at hl 1 rfl) ?_
          refine gf_X3_32 C hP dX3_takes_182 ?_
          refine lv_iload hx hb dX3_takes_185 (lv_at hl 0 rfl) ?_
          obtain ⟨tv25, th26, tq24, hk⟩ := tr_okb2 hk
          refine tr_cvi (As := [.int (h.1 12 0), .int (h.1 12 1), .int tv1]) (rest := []) C hP hS hl (c_X2_lay l w tn3 htn3 (h.1 12 0) (h.1 12 1) tv1 h tv25 th26 tq24) mz_X2_lay ml_X3_39 (tr_net_lt htn3) (tr_net_cx htn3 (tr_ad w) w.2.1 (h.1 tn3) (h.2 tn3)) rfl rfl rfl ⟨Nat.le_of_ble_eq_true rfl, Nat.le_of_ble_eq_true rfl⟩ rfl rfl (Nat.le_of_ble_eq_true rfl) ⟨Nat.le_refl _, Nat.le_refl _⟩ dX3_takes_187 (fun H locs hP hS => ?_)
          refine lv_if_eq (tgt := 197) hx hb dX3_takes_190 (by decide) (fun tc27 => ?_) (fun tc27 => ?_)
          · replace hk := tr_ift hk tc27
            refine lv_iconst (v := 0) hx hb dX3_takes_197 (by decide) ?_
            exact tr_zret C hP hS hr hlocks rfl (tr_okS (P := (fun o => o = (r0, h0))) hk) dX3_takes_198
          · replace hk := tr_iff hk tc27
            refine lv_iconst (v := 1) hx hb dX3_takes_193 (by decide) ?_
            refine lv_goto (tgt := 198) hx hb dX3_takes_194 (by decide) ?_
            exact tr_zret C hP hS hr hlocks rfl (tr_okS (P := (fun o => o = (r0, h0))) hk) dX3_takes_198
    · replace hk := tr_ift hk tc3
      refine lv_aload_n hx hb dX3_takes_27 rfl (lv_at hl 4 rfl) ?_
      refine lv_iload hx hb dX3_takes_28 (lv_at hl 0 rfl) ?_
      obtain ⟨th29, tq28, hk⟩ := tr_okb hk
      refine tr_cvv (As := [.int tv1]) (rest := []) C hP hS hl (c_X2_begin l w tn3 htn3 tv1 h th29 tq28) mz_X2_begin ml_X3_9 (tr_net_lt htn3) (tr_net_cx htn3 (tr_ad w) w.2.1 (h.1 tn3) (h.2 tn3)) rfl rfl rfl ⟨Nat.le_of_ble_eq_true rfl, Nat.le_of_ble_eq_true rfl⟩ rfl rfl (Nat.le_of_ble_eq_true rfl) ⟨Nat.le_refl _, Nat.le_refl _⟩ dX3_takes_30 (fun H locs hP hS => ?_)
      refine lv_iload hx hb dX3_takes_33 (lv_at hl 0 rfl) ?_
      refine lv_iconst (v := 1) hx hb dX3_takes_35 (by decide) ?_
      refine lv_icmp_lt (tgt := 50) hx hb dX3_takes_36 (by decide) (fun tc30 => ?_) (fun tc30 => ?_)
      · replace hk := tr_ift hk tc30
        refine lv_iconst (v := 0) hx hb dX3_takes_50 (by decide) ?_
        exact tr_zret C hP hS hr hlocks rfl (tr_okS (P := (fun o => o = (r0, h0))) hk) dX3_takes_51
      · replace hk := tr_iff hk tc30
        refine lv_iload hx hb dX3_takes_39 (lv_at hl 0 rfl) ?_
        refine lv_bipush (v := 6) hx hb dX3_takes_41 (by decide) ?_
        refine lv_icmp_gt (tgt := 50) hx hb dX3_takes_43 (by decide) (fun tc31 => ?_) (fun tc31 => ?_)
        · replace hk := tr_ift hk tc31
          refine lv_iconst (v := 0) hx hb dX3_takes_50 (by decide) ?_
          exact tr_zret C hP hS hr hlocks rfl (tr_okS (P := (fun o => o = (r0, h0))) hk) dX3_takes_51
        · replace hk := tr_iff hk tc31
          refine lv_iconst (v := 1) hx hb dX3_takes_46 (by decide) ?_
          refine lv_goto (tgt := 51) hx hb dX3_takes_47 (by decide) ?_
          exact tr_zret C hP hS hr hlocks rfl (tr_okS (P := (fun o => o = (r0, h0))) hk) dX3_takes_51
  · replace hk := tr_ift hk tc2
    refine lv_iload_n hx hb dX3_takes_10 rfl (lv_at hl 3 rfl) ?_
    refine lv_bipush (v := 78) hx hb dX3_takes_11 (by decide) ?_
    refine lv_icmp_ne (tgt := 20) hx hb dX3_takes_13 (by decide) (fun tc32 => ?_) (fun tc32 => ?_)
    · replace hk := tr_iff hk tc32
      refine lv_iconst (v := 0) hx hb dX3_takes_20 (by decide) ?_
      exact tr_zret C hP hS hr hlocks rfl (tr_okS (P := (fun o => o = (r0, h0))) hk) dX3_takes_21
    · replace hk := tr_ift hk tc32
      refine lv_iconst (v := 1) hx hb dX3_takes_16 (by decide) ?_
      refine lv_goto (tgt := 21) hx hb dX3_takes_17 (by decide) ?_
      exact tr_zret C hP hS hr hlocks rfl (tr_okS (P := (fun o => o = (r0, h0))) hk) dX3_takes_21
abbrev r_X3_read : Room := { frames := 3, cells := 0, slots := 0, locals := 68 }
set_option maxHeartbeats 4000000 in
set_option maxRecDepth 100000 in
theorem c_X3_read (l : Launch) (w : tr_E) (tv901 : Int32) (tn3 : Nat) (htn3 : tr_net tn3) (h : tr_H) (r0 : Int32) (h0 : tr_H) (hk : f_X3_read tv901 tn3 h = some (r0, h0)) : Met l yX3_read (Cond.code yX3_read cX3_read 5 (some .int) :: tr_T) r_X3_read (va_Pc [.ref (tr_ad w 12), .ref (tr_ad w 1), .int tv901, .ref (tr_ad w tn3)] (tr_Wo tr_X w h)) (tr_Qi tr_X w r0 h0) 0 0 (tr_R tr_X w) := by
  refine tr_start (by decide) (Nat.le_refl _) ?_
  intro p e s m args below meth c C hr hlocks hargs hP
  have hx := C.1
  have hb := C.2.1
  have hS : va_S (tr_R tr_X w) s.heap s.heap [] := va_S.rf
  have hl := lv_entry ([.ref (tr_ad w 12), .ref (tr_ad w 1), .int tv901, .ref (tr_ad w tn3)]) (n := 5) (Nat.le_of_ble_eq_true rfl)
  rw [lg_entry_eq]
  generalize (lg_sl ([.ref (tr_ad w 12), .ref (tr_ad w 1), .int tv901, .ref (tr_ad w tn3)]) ++ List.replicate (5 - (lg_sl ([.ref (tr_ad w 12), .ref (tr_ad w 1), .int tv901, .ref (tr_ad w tn3)])).length) Slot.unset).toArray = ls at hl ⊢
  have hl : lv_has ls 5 [(0, .ref (tr_ad w 12)), (1, .ref (tr_ad w 1)), (2, .int tv901), (3, .ref (tr_ad w tn3))] := hl
  replace hk : tr_ok (f_X3_read tv901 tn3 h) (fun o => o = (r0, h0)) := ⟨_, hk, rfl⟩
  unfold f_X3_read at hk
  refine lv_aload_n hx hb dX3_read_0 rfl (lv_at hl 3 rfl) ?_
  refine lv_iconst (v := 1) hx hb dX3_read_1 (by decide) ?_
  obtain ⟨th2, tq1, hk⟩ := tr_okb hk
  refine tr_cvv (As := [.int 1]) (rest := []) C hP hS hl (c_X2_begin l w tn3 htn3 1 h th2 tq1) mz_X2_begin ml_X3_9 (tr_net_lt htn3) (tr_net_cx htn3 (tr_ad w) w.2.1 (h.1 tn3) (h.2 tn3)) rfl rfl rfl ⟨Nat.le_of_ble_eq_true rfl, Nat.le_of_ble_eq_true rfl⟩ rfl rfl (Nat.le_of_ble_eq_true rfl) ⟨Nat.le_refl _, Nat.le_refl _⟩ dX3_read_2 (fun H locs hP hS => ?_)
  refine lv_iconst (v := 0) hx hb dX3_read_5 (by decide) ?_
  refine lv_istore (lv' := [(4, .int 0), (0, .ref (tr_ad w 12)), (1, .ref (tr_ad w 1)), (2, .int tv901), (3, .ref (tr_ad w tn3))]) hx hb dX3_read_6 hl (by decide) rfl (fun ls hl => ?_)
  have j44_8 : ∀ (th3 : tr_H), tr_ok (f_X3_read_E44 tv901 th3) (fun o => o = (r0, h0)) → tr_Wd p l e r_X3_read s m args below meth c (MQ below (tr_Qi tr_X w r0 h0) args s 0 0 (tr_R tr_X w)) tr_X w 5 44 [(2, .int tv901)] [] th3 := by
    intro th3 hk H locs ls hP hS hl
    unfold f_X3_read_E44 at hk
    refine lv_iload_n hx hb dX3_read_44 rfl (lv_at hl 0 rfl) ?_
    refine lv_iconst (v := 2) hx hb dX3_read_45 (by decide) ?_
    have j62 : ∀ (tv4 : Int32), tr_ok (f_X3_read_J62 tv901 th3 tv4) (fun o => o = (r0, h0)) → tr_Wd p l e r_X3_read s m args below meth c (MQ below (tr_Qi tr_X w r0 h0) args s 0 0 (tr_R tr_X w)) tr_X w 5 62 [(2, .int tv901)] [.int tv4] th3 := by
      intro tv4 hk H locs ls hP hS hl
      unfold f_X3_read_J62 at hk
      refine lv_istore (lv' := [(4, .int tv4), (2, .int tv901)]) hx hb dX3_read_62 hl (by decide) rfl (fun ls hl => ?_)
      refine lv_iload hx hb dX3_read_64 (lv_at hl 0 rfl) ?_
      refine lv_if_eq (tgt := 74) hx hb dX3_read_66 (by decide) (fun tc5 => ?_) (fun tc5 => ?_)
      · replace hk := tr_ift hk tc5
        refine lv_iload_n hx hb dX3_read_74 rfl (lv_at hl 1 rfl) ?_
        exact tr_iret C hP hS hr hlocks (tr_okS (P := (fun o => o = (r0, h0))) hk) dX3_read_75
      · replace hk := tr_iff hk tc5
        refine lv_bipush (v := (-9)) hx hb dX3_read_69 (by decide) ?_
        refine lv_goto (tgt := 75) hx hb dX3_read_71 (by decide) ?_
        exact tr_iret C hP hS hr hlocks (tr_okS (P := (fun o => o = (r0, h0))) hk) dX3_read_75
    have j61 : tr_ok (f_X3_read_J61 tv901 th3) (fun o => o = (r0, h0)) → tr_Wd p l e r_X3_read s m args below meth c (MQ below (tr_Qi tr_X w r0 h0) args s 0 0 (tr_R tr_X w)) tr_X w 5 61 [(2, .int tv901)] [] th3 := by
      intro  hk H locs ls hP hS hl
      unfold f_X3_read_J61 at hk
      refine lv_iconst (v := 0) hx hb dX3_read_61 (by decide) ?_
      exact j62 0 hk _ _ _ hP hS (lv_sub hl [0] rfl)
    refine lv_icmp_lt (tgt := 61) hx hb dX3_read_46 (by decide) (fun tc6 => ?_) (fun tc6 => ?_)
    · replace hk := tr_ift hk tc6
      exact j61 hk _ _ _ hP hS (lv_sub hl [0] rfl)
    · replace hk := tr_iff hk tc6
      refine lv_iload_n hx hb dX3_read_49 rfl (lv_at hl 0 rfl) ?_
      refine lv_iconst (v := 2) hx hb dX3_read_50 (by decide) ?_
      refine lv_isub hx hb dX3_read_51 ?_
      refine lv_iconst (v := 3) hx hb dX3_read_52 (by decide) ?_
      refine lv_irem hx hb dX3_read_53 (by decide) ?_
      refine lv_if_ne (tgt := 61) hx hb dX3_read_54 (by decide) (fun tc7 => ?_) (fun tc7 => ?_)
      · replace hk := tr_iff hk tc7
        exact j61 hk _ _ _ hP hS (lv_sub hl [0] rfl)
      · replace hk := tr_ift hk tc7
        refine lv_iconst (v := 1) hx hb dX3_read_57 (by decide) ?_
        refine lv_goto (tgt := 62) hx hb dX3_read_58 (by decide) ?_
        exact j62 1 hk _ _ _ hP hS (lv_sub hl [0] rfl)
  refine tr_loop (fun q => tr_Wd p l e r_X3_read s m args below meth c (MQ below (tr_Qi tr_X w r0 h0) args s 0 0 (tr_R tr_X w)) tr_X w 5 8 [(0, .ref (tr_ad w 12)), (1, .ref (tr_ad w 1)), (2, .int tv901), (3, .ref (tr_ad w tn3)), (4, .int q.1)] [] q.2) hk ?_ _ _ _ hP hS (lv_sub hl [1, 2, 3, 4, 0] rfl)
  intro P8 hin8 hex8 q hk
  obtain ⟨tv8, th9⟩ := q
  intro H locs ls hP hS hl
  replace hk : tr_ok (f_X3_read_L8 tv901 tn3 tv8 th9) P8 := hk
  unfold f_X3_read_L8 at hk
  refine lv_iload hx hb dX3_read_8 (lv_at hl 4 rfl) ?_
  refine lv_iload_n hx hb dX3_read_10 rfl (lv_at hl 2 rfl) ?_
  refine lv_icmp_ge (tgt := 44) hx hb dX3_read_11 (by decide) (fun tc10 => ?_) (fun tc10 => ?_)
  · replace hk := tr_ift hk tc10
    replace hk := hex8 _ (tr_okS hk)
    replace hk : tr_ok (f_X3_read_E44 tv901 th9) (fun o => o = (r0, h0)) := hk
    exact j44_8 th9 hk _ _ _ hP hS (lv_sub hl [2] rfl)
  · replace hk := tr_iff hk tc10
    refine lv_iload hx hb dX3_read_14 (lv_at hl 4 rfl) ?_
    refine lv_aload_n hx hb dX3_read_16 rfl (lv_at hl 1 rfl) ?_
    refine tr_alen (v := 64) C hP (ar_X_1 w) rfl dX3_read_17 ?_
    refine lv_icmp_ge (tgt := 44) hx hb dX3_read_18 (by decide) (fun tc11 => ?_) (fun tc11 => ?_)
    · replace hk := tr_ift hk tc11
      replace hk := hex8 _ (tr_okS hk)
      replace hk : tr_ok (f_X3_read_E44 tv901 th9) (fun o => o = (r0, h0)) := hk
      exact j44_8 th9 hk _ _ _ hP hS (lv_sub hl [2] rfl)
    · replace hk := tr_iff hk tc11
      refine lv_aload_n hx hb dX3_read_21 rfl (lv_at hl 0 rfl) ?_
      refine lv_iload hx hb dX3_read_22 (lv_at hl 4 rfl) ?_
      refine lv_aload_n hx hb dX3_read_24 rfl (lv_at hl 1 rfl) ?_
      refine lv_iload hx hb dX3_read_25 (lv_at hl 4 rfl) ?_
      obtain ⟨tg12, hk⟩ := tr_okg hk
      refine tr_ial C hP (ar_X_1 w) tg12 dX3_read_27 ?_
      refine lv_aload_n hx hb dX3_read_28 rfl (lv_at hl 3 rfl) ?_
      obtain ⟨tv14, th15, tq13, hk⟩ := tr_okb2 hk
      refine tr_cvi (As := [.int tv8, .int (th9.1 1 tv8.toNatClampNeg), .ref (tr_ad w tn3)]) (rest := []) C hP hS hl (c_X3_takes l w tv8 (th9.1 1 tv8.toNatClampNeg) tn3 htn3 th9 tv14 th15 tq13) mz_X3_takes ml_X3_15 (by decide) rfl rfl rfl rfl ⟨Nat.le_of_ble_eq_true rfl, Nat.le_of_ble_eq_true rfl⟩ rfl rfl (Nat.le_of_ble_eq_true rfl) ⟨Nat.le_refl _, Nat.le_refl _⟩ dX3_read_29 (fun H locs hP hS => ?_)
      refine lv_if_ne (tgt := 38) hx hb dX3_read_32 (by decide) (fun tc16 => ?_) (fun tc16 => ?_)
      · replace hk := tr_iff hk tc16
        obtain ⟨tv17, etv17, hk⟩ := tr_okd hk
        refine lv_iinc (v := tv17) (lv' := [(4, .int tv17), (0, .ref (tr_ad w 12)), (1, .ref (tr_ad w 1)), (2, .int tv901), (3, .ref (tr_ad w tn3))]) hx hb dX3_read_38 hl (k := 4) rfl (by rw [etv17]; rfl) (by decide) rfl (fun ls hl => ?_)
        refine lv_goto (tgt := 8) hx hb dX3_read_41 (by decide) ?_
        exact hin8 _ (tr_okS hk) _ _ _ hP hS (lv_sub hl [1, 2, 3, 4, 0] rfl)
      · replace hk := tr_ift hk tc16
        refine lv_iload hx hb dX3_read_35 (lv_at hl 4 rfl) ?_
        replace hk := hex8 _ (tr_okS hk)
        replace hk : tr_ok (some (tv8, th15)) (fun o => o = (r0, h0)) := hk
        exact tr_iret C hP hS hr hlocks (tr_okS (P := (fun o => o = (r0, h0))) hk) dX3_read_37
abbrev r_X4_lowestOf : Room := { frames := 0, cells := 0, slots := 0, locals := 0 }
set_option maxHeartbeats 4000000 in
set_option maxRecDepth 100000 in
theorem c_X4_lowestOf (l : Launch) (w : tr_E) (tv900 : Int32) (h : tr_H) (r0 : Int32) (hk : f_X4_lowestOf tv900 = some r0) : Met l yX4_lowestOf (Cond.code yX4_lowestOf cX4_lowestOf 2 (some .int) :: tr_T) r_X4_lowestOf (va_Pc [.int tv900] (tr_Wo tr_X w h)) (tr_Qi tr_X w r0 h) 0 0 (tr_R tr_X w) := by
  refine tr_start (by decide) (Nat.le_refl _) ?_
  intro p e s m args below meth c C hr hlocks hargs hP
  have hx := C.1
  have hb := C.2.1
  have hS : va_S (tr_R tr_X w) s.heap s.heap [] := va_S.rf
  have hl := lv_entry ([.int tv900]) (n := 2) (Nat.le_of_ble_eq_true rfl)
  rw [lg_entry_eq]
  generalize (lg_sl ([.int tv900]) ++ List.replicate (2 - (lg_sl ([.int tv900])).length) Slot.unset).toArray = ls at hl ⊢
  have hl : lv_has ls 2 [(0, .int tv900)] := hl
  replace hk : tr_ok (f_X4_lowestOf tv900) (fun o => o = r0) := ⟨_, hk, rfl⟩
  unfold f_X4_lowestOf at hk
  refine lv_iconst (v := 0) hx hb dX4_lowestOf_0 (by decide) ?_
  refine lv_istore_n (lv' := [(1, .int 0), (0, .int tv900)]) hx hb dX4_lowestOf_1 rfl hl (by decide) rfl (fun ls hl => ?_)
  have j21_2 : ∀ (tv1 : Int32), tr_ok (f_X4_lowestOf_E21 tv1) (fun o => o = r0) → tr_Wd p l e r_X4_lowestOf s m args below meth c (MQ below (tr_Qi tr_X w r0 h) args s 0 0 (tr_R tr_X w)) tr_X w 2 21 [(1, .int tv1)] [] h := by
    intro tv1 hk H locs ls hP hS hl
    unfold f_X4_lowestOf_E21 at hk
    refine lv_iload_n hx hb dX4_lowestOf_21 rfl (lv_at hl 0 rfl) ?_
    exact tr_iret C hP hS hr hlocks (congrArg (fun x => (x, h)) (tr_okS (P := (fun o => o = r0)) hk)) dX4_lowestOf_22
  refine tr_loop (fun q => tr_Wd p l e r_X4_lowestOf s m args below meth c (MQ below (tr_Qi tr_X w r0 h) args s 0 0 (tr_R tr_X w)) tr_X w 2 2 [(0, .int tv900), (1, .int q)] [] h) hk ?_ _ _ _ hP hS (lv_sub hl [1, 0] rfl)
  intro P2 hin2 hex2 q hk
  generalize q = tv2 at hk ⊢
  intro H locs ls hP hS hl
  replace hk : tr_ok (f_X4_lowestOf_L2 tv900 tv2) P2 := hk
  unfold f_X4_lowestOf_L2 at hk
  refine lv_iload_n hx hb dX4_lowestOf_2 rfl (lv_at hl 1 rfl) ?_
  refine lv_iconst (v := 5) hx hb dX4_lowestOf_3 (by decide) ?_
  refine lv_icmp_ge (tgt := 21) hx hb dX4_lowestOf_4 (by decide) (fun tc3 => ?_) (fun tc3 => ?_)
  · replace hk := tr_ift hk tc3
    replace hk := hex2 _ (tr_okS hk)
    replace hk : tr_ok (f_X4_lowestOf_E21 tv2) (fun o => o = r0) := hk
    exact j21_2 tv2 hk _ _ _ hP hS (lv_sub hl [1] rfl)
  · replace hk := tr_iff hk tc3
    refine lv_iload_n hx hb dX4_lowestOf_7 rfl (lv_at hl 0 rfl) ?_
    refine lv_iload_n hx hb dX4_lowestOf_8 rfl (lv_at hl 1 rfl) ?_
    refine lv_ishr hx hb dX4_lowestOf_9 ?_
    refine lv_iconst (v := 1) hx hb dX4_lowestOf_10 (by decide) ?_
    refine lv_iand hx hb dX4_lowestOf_11 ?_
    refine lv_if_ne (tgt := 21) hx hb dX4_lowestOf_12 (by decide) (fun tc4 => ?_) (fun tc4 => ?_)
    · replace hk := tr_iff hk tc4
      replace hk := hex2 _ (tr_okS hk)
      replace hk : tr_ok (f_X4_lowestOf_E21 tv2) (fun o => o = r0) := hk
      exact j21_2 tv2 hk _ _ _ hP hS (lv_sub hl [1] rfl)
    · replace hk := tr_ift hk tc4
      obtain ⟨tv5, etv5, hk⟩ := tr_okd hk
      refine lv_iinc (v := tv5) (lv' := [(1, .int tv5), (0, .int tv900)]) hx hb dX4_lowestOf_15 hl (k := 1) rfl (by rw [etv5]; rfl) (by decide) rfl (fun ls hl => ?_)
      refine lv_goto (tgt := 2) hx hb dX4_lowestOf_18 (by decide) ?_
      exact hin2 _ (tr_okS hk) _ _ _ hP hS (lv_sub hl [1, 0] rfl)
abbrev r_J6_bitCount_0f7a4 : Room := { frames := 0, cells := 0, slots := 0, locals := 0 }
set_option maxHeartbeats 4000000 in
set_option maxRecDepth 100000 in
theorem c_J6_bitCount_0f7a4 (l : Launch) (w : tr_E) (tv900 : Int32) (h : tr_H) (r0 : Int32) (hk : f_J6_bitCount_0f7a4 tv900 = some r0) : Met l yJ6_bitCount_0f7a4 (Cond.code yJ6_bitCount_0f7a4 cJ6_bitCount_0f7a4 1 (some .int) :: tr_T) r_J6_bitCount_0f7a4 (va_Pc [.int tv900] (tr_Wo tr_X w h)) (tr_Qi tr_X w r0 h) 0 0 (tr_R tr_X w) := by
  refine tr_start (by decide) (Nat.le_refl _) ?_
  intro p e s m args below meth c C hr hlocks hargs hP
  have hx := C.1
  have hb := C.2.1
  have hS : va_S (tr_R tr_X w) s.heap s.heap [] := va_S.rf
  have hl := lv_entry ([.int tv900]) (n := 1) (Nat.le_of_ble_eq_true rfl)
  rw [lg_entry_eq]
  generalize (lg_sl ([.int tv900]) ++ List.replicate (1 - (lg_sl ([.int tv900])).length) Slot.unset).toArray = ls at hl ⊢
  have hl : lv_has ls 1 [(0, .int tv900)] := hl
  replace hk : tr_ok (f_J6_bitCount_0f7a4 tv900) (fun o => o = r0) := ⟨_, hk, rfl⟩
  unfold f_J6_bitCount_0f7a4 at hk
  refine lv_iload_n hx hb dJ6_bitCount_0f7a4_0 rfl (lv_at hl 0 rfl) ?_
  refine lv_iload_n hx hb dJ6_bitCount_0f7a4_1 rfl (lv_at hl 0 rfl) ?_
  refine lv_iconst (v := 1) hx hb dJ6_bitCount_0f7a4_2 (by decide) ?_
  refine lv_iushr hx hb dJ6_bitCount_0f7a4_3 rfl ?_
  refine lv_ldcw (v := 1431655765) hx hb C.2.2.2.1 (C.2.2.2.2.1 _ mc_J6_265) dJ6_bitCount_0f7a4_4 ?_
  refine lv_iand hx hb dJ6_bitCount_0f7a4_7 ?_
  refine lv_isub hx hb dJ6_bitCount_0f7a4_8 ?_
  refine tr_ti hk (fun tv1 hk => ?_)
  refine lv_istore_n (lv' := [(0, .int tv1)]) hx hb dJ6_bitCount_0f7a4_9 rfl hl (by decide) rfl (fun ls hl => ?_)
  refine lv_iload_n hx hb dJ6_bitCount_0f7a4_10 rfl (lv_at hl 0 rfl) ?_
  refine lv_ldcw (v := 858993459) hx hb C.2.2.2.1 (C.2.2.2.2.1 _ mc_J6_266) dJ6_bitCount_0f7a4_11 ?_
  refine lv_iand hx hb dJ6_bitCount_0f7a4_14 ?_
  refine lv_iload_n hx hb dJ6_bitCount_0f7a4_15 rfl (lv_at hl 0 rfl) ?_
  refine lv_iconst (v := 2) hx hb dJ6_bitCount_0f7a4_16 (by decide) ?_
  refine lv_iushr hx hb dJ6_bitCount_0f7a4_17 rfl ?_
  refine lv_ldcw (v := 858993459) hx hb C.2.2.2.1 (C.2.2.2.2.1 _ mc_J6_266) dJ6_bitCount_0f7a4_18 ?_
  refine lv_iand hx hb dJ6_bitCount_0f7a4_21 ?_
  refine lv_iadd hx hb dJ6_bitCount_0f7a4_22 ?_
  refine tr_ti hk (fun tv2 hk => ?_)
  refine lv_istore_n (lv' := [(0, .int tv2)]) hx hb dJ6_bitCount_0f7a4_23 rfl hl (by decide) rfl (fun ls hl => ?_)
  refine lv_iload_n hx hb dJ6_bitCount_0f7a4_24 rfl (lv_at hl 0 rfl) ?_
  refine lv_iload_n hx hb dJ6_bitCount_0f7a4_25 rfl (lv_at hl 0 rfl) ?_
  refine lv_iconst (v := 4) hx hb dJ6_bitCount_0f7a4_26 (by decide) ?_
  refine lv_iushr hx hb dJ6_bitCount_0f7a4_27 rfl ?_
  refine lv_iadd hx hb dJ6_bitCount_0f7a4_28 ?_
  refine lv_ldcw (v := 252645135) hx hb C.2.2.2.1 (C.2.2.2.2.1 _ mc_J6_267) dJ6_bitCount_0f7a4_29 ?_
  refine lv_iand hx hb dJ6_bitCount_0f7a4_32 ?_
  refine tr_ti hk (fun tv3 hk => ?_)
  refine lv_istore_n (lv' := [(0, .int tv3)]) hx hb dJ6_bitCount_0f7a4_33 rfl hl (by decide) rfl (fun ls hl => ?_)
  refine lv_iload_n hx hb dJ6_bitCount_0f7a4_34 rfl (lv_at hl 0 rfl) ?_
  refine lv_iload_n hx hb dJ6_bitCount_0f7a4_35 rfl (lv_at hl 0 rfl) ?_
  refine lv_bipush (v := 8) hx hb dJ6_bitCount_0f7a4_36 (by decide) ?_
  refine lv_iushr hx hb dJ6_bitCount_0f7a4_38 rfl ?_
  refine lv_iadd hx hb dJ6_bitCount_0f7a4_39 ?_
  refine tr_ti hk (fun tv4 hk => ?_)
  refine lv_istore_n (lv' := [(0, .int tv4)]) hx hb dJ6_bitCount_0f7a4_40 rfl hl (by decide) rfl (fun ls hl => ?_)
  refine lv_iload_n hx hb dJ6_bitCount_0f7a4_41 rfl (lv_at hl 0 rfl) ?_
  refine lv_iload_n hx hb dJ6_bitCount_0f7a4_42 rfl (lv_at hl 0 rfl) ?_
  refine lv_bipush (v := 16) hx hb dJ6_bitCount_0f7a4_43 (by decide) ?_
  refine lv_iushr hx hb dJ6_bitCount_0f7a4_45 rfl ?_
  refine lv_iadd hx hb dJ6_bitCount_0f7a4_46 ?_
  refine tr_ti hk (fun tv5 hk => ?_)
  refine lv_istore_n (lv' := [(0, .int tv5)]) hx hb dJ6_bitCount_0f7a4_47 rfl hl (by decide) rfl (fun ls hl => ?_)
  refine lv_iload_n hx hb dJ6_bitCount_0f7a4_48 rfl (lv_at hl 0 rfl) ?_
  refine lv_bipush (v := 63) hx hb dJ6_bitCount_0f7a4_49 (by decide) ?_
  refine lv_iand hx hb dJ6_bitCount_0f7a4_51 ?_
  exact tr_iret C hP hS hr hlocks (congrArg (fun x => (x, h)) (tr_okS (P := (fun o => o = r0)) hk)) dJ6_bitCount_0f7a4_52
abbrev r_X4_goOn : Room := { frames := 1, cells := 0, slots := 0, locals := 22 }
set_option maxHeartbeats 4000000 in
set_option maxRecDepth 100000 in
theorem c_X4_goOn (l : Launch) (w : tr_E) (tn1 : Nat) (htn1 : tr_net tn1) (tv901 : Int32) (tv902 : Int32) (h : tr_H) (h0 : tr_H) (hk : f_X4_goOn tn1 tv901 tv902 h = some h0) : Met l yX4_goOn (Cond.code yX4_goOn cX4_goOn 11 none :: tr_T) r_X4_goOn (va_Pc [.ref (tr_ad w 27), .ref (tr_ad w tn1), .int tv901, .int tv902] (tr_Wo tr_X w h)) (tr_Qv tr_X w h0) 0 0 (tr_R tr_X w) := by
  refine tr_start (by decide) (Nat.le_refl _) ?_
  intro p e s m args below meth c C hr hlocks hargs hP
  have hx := C.1
  have hb := C.2.1
  have hS : va_S (tr_R tr_X w) s.heap s.heap [] := va_S.rf
  have hl := lv_entry ([.ref (tr_ad w 27), .ref (tr_ad w tn1), .int tv901, .int tv902]) (n := 11) (Nat.le_of_ble_eq_true rfl)
  rw [lg_entry_eq]
  generalize (lg_sl ([.ref (tr_ad w 27), .ref (tr_ad w tn1), .int tv901, .int tv902]) ++ List.replicate (11 - (lg_sl ([.ref (tr_ad w 27), .ref (tr_ad w tn1), .int tv901, .int tv902])).length) Slot.unset).toArray = ls at hl ⊢
  have hl : lv_has ls 11 [(0, .ref (tr_ad w 27)), (1, .ref (tr_ad w tn1)), (2, .int tv901), (3, .int tv902)] := hl
  replace hk : tr_ok (f_X4_goOn tn1 tv901 tv902 h) (fun o => o = h0) := ⟨_, hk, rfl⟩
  unfold f_X4_goOn at hk
  refine lv_aload_n hx hb dX4_goOn_0 rfl (lv_at hl 0 rfl) ?_
  refine gf_X4_9 C hP dX4_goOn_1 ?_
  refine lv_iload_n hx hb dX4_goOn_4 rfl (lv_at hl 2 rfl) ?_
  refine lv_bipush (v := 6) hx hb dX4_goOn_5 (by decide) ?_
  refine lv_imul hx hb dX4_goOn_7 ?_
  refine lv_iload_n hx hb dX4_goOn_8 rfl (lv_at hl 3 rfl) ?_
  refine lv_iadd hx hb dX4_goOn_9 ?_
  refine tr_ti hk (fun tv1 hk => ?_)
  obtain ⟨tg2, hk⟩ := tr_okg hk
  refine tr_ial C hP (ar_X_28 w) tg2 dX4_goOn_10 ?_
  refine tr_ti hk (fun tv3 hk => ?_)
  refine lv_istore (lv' := [(4, .int tv3), (0, .ref (tr_ad w 27)), (1, .ref (tr_ad w tn1)), (2, .int tv901), (3, .int tv902)]) hx hb dX4_goOn_11 hl (by decide) rfl (fun ls hl => ?_)
  refine lv_aload_n hx hb dX4_goOn_13 rfl (lv_at hl 1 rfl) ?_
  refine gf_X4_15 C hP dX4_goOn_14 ?_
  refine lv_iload_n hx hb dX4_goOn_17 rfl (lv_at hl 3 rfl) ?_
  refine lv_bipush (v := 6) hx hb dX4_goOn_18 (by decide) ?_
  refine lv_imul hx hb dX4_goOn_20 ?_
  refine lv_iload_n hx hb dX4_goOn_21 rfl (lv_at hl 4 rfl) ?_
  refine lv_iadd hx hb dX4_goOn_22 ?_
  refine tr_ti hk (fun tv4 hk => ?_)
  obtain ⟨tg5, hk⟩ := tr_okg hk
  refine tr_ial C hP (ar_X_29 w) tg5 dX4_goOn_23 ?_
  refine tr_ti hk (fun tv6 hk => ?_)
  refine lv_istore (lv' := [(5, .int tv6), (4, .int tv3), (0, .ref (tr_ad w 27)), (1, .ref (tr_ad w tn1)), (2, .int tv901), (3, .int tv902)]) hx hb dX4_goOn_24 hl (by decide) rfl (fun ls hl => ?_)
  refine lv_iload hx hb dX4_goOn_26 (lv_at hl 1 rfl) ?_
  refine lv_if_ne (tgt := 32) hx hb dX4_goOn_28 (by decide) (fun tc7 => ?_) (fun tc7 => ?_)
  · replace hk := tr_iff hk tc7
    refine lv_iload_n hx hb dX4_goOn_32 rfl (lv_at hl 4 rfl) ?_
    obtain ⟨tv9, tq8, hk⟩ := tr_okb hk
    refine tr_csi (As := [.int tv901]) (rest := []) C hP hS hl (c_X4_lowestOf l w tv901 h tv9 tq8) mz_X4_lowestOf ml_X4_44 rfl rfl ⟨Nat.le_of_ble_eq_true rfl, Nat.le_of_ble_eq_true rfl⟩ rfl rfl (Nat.le_of_ble_eq_true rfl) ⟨Nat.le_refl _, Nat.le_refl _⟩ dX4_goOn_33 (fun H locs hP hS => ?_)
    refine lv_istore (lv' := [(6, .int tv9), (5, .int tv6), (4, .int tv3), (0, .ref (tr_ad w 27)), (1, .ref (tr_ad w tn1)), (2, .int tv901), (3, .int tv902)]) hx hb dX4_goOn_36 hl (by decide) rfl (fun ls hl => ?_)
    refine lv_aload_n hx hb dX4_goOn_38 rfl (lv_at hl 4 rfl) ?_
    refine lv_iload_n hx hb dX4_goOn_39 rfl (lv_at hl 6 rfl) ?_
    refine lv_iload hx hb dX4_goOn_40 (lv_at hl 0 rfl) ?_
    obtain ⟨tv11, tq10, hk⟩ := tr_okb hk
    refine tr_cvi (As := [.int tv902, .int tv9]) (rest := []) C hP hS hl (c_X2_of l w tn1 htn1 tv902 tv9 h tv11 tq10) mz_X2_of ml_X4_48 (tr_net_lt htn1) (tr_net_cx htn1 (tr_ad w) w.2.1 (h.1 tn1) (h.2 tn1)) rfl rfl rfl ⟨Nat.le_of_ble_eq_true rfl, Nat.le_of_ble_eq_true rfl⟩ rfl rfl (Nat.le_of_ble_eq_true rfl) ⟨Nat.le_refl _, Nat.le_refl _⟩ dX4_goOn_42 (fun H locs hP hS => ?_)
    refine lv_istore (lv' := [(7, .int tv11), (6, .int tv9), (5, .int tv6), (4, .int tv3), (0, .ref (tr_ad w 27)), (1, .ref (tr_ad w tn1)), (2, .int tv901), (3, .int tv902)]) hx hb dX4_goOn_45 hl (by decide) rfl (fun ls hl => ?_)
    refine lv_iload hx hb dX4_goOn_47 (lv_at hl 0 rfl) ?_
    refine lv_bipush (v := (-9)) hx hb dX4_goOn_49 (by decide) ?_
    have j94 : ∀ (th12 : tr_H), tr_ok (f_X4_goOn_J94 tv9 tn1 tv902 tv901 tv3 tv6 th12) (fun o => o = h0) → tr_Wd p l e r_X4_goOn s m args below meth c (MQ below (tr_Qv tr_X w h0) args s 0 0 (tr_R tr_X w)) tr_X w 11 94 [(0, .ref (tr_ad w 27)), (1, .ref (tr_ad w tn1)), (2, .int tv901), (3, .int tv902), (4, .int tv3), (5, .int tv6), (6, .int tv9)] [] th12 := by
      intro th12 hk H locs ls hP hS hl
      unfold f_X4_goOn_J94 at hk
      refine lv_iload hx hb dX4_goOn_94 (lv_at hl 6 rfl) ?_
      refine lv_iconst (v := 1) hx hb dX4_goOn_96 (by decide) ?_
      refine lv_iadd hx hb dX4_goOn_97 ?_
      refine tr_ti hk (fun tv13 hk => ?_)
      refine lv_istore (lv' := [(8, .int tv13), (0, .ref (tr_ad w 27)), (1, .ref (tr_ad w tn1)), (2, .int tv901), (3, .int tv902), (4, .int tv3), (5, .int tv6), (6, .int tv9)]) hx hb dX4_goOn_98 hl (by decide) rfl (fun ls hl => ?_)
      have j188_100 : ∀ (th14 : tr_H), tr_ok (f_X4_goOn_E188 th14) (fun o => o = h0) → tr_Wd p l e r_X4_goOn s m args below meth c (MQ below (tr_Qv tr_X w h0) args s 0 0 (tr_R tr_X w)) tr_X w 11 188 [] [] th14 := by
        intro th14 hk H locs ls hP hS hl
        unfold f_X4_goOn_E188 at hk
        exact tr_vret C hP hS hr hlocks (tr_okS (P := (fun o => o = h0)) hk) dX4_goOn_188
      refine tr_loop (fun q => tr_Wd p l e r_X4_goOn s m args below meth c (MQ below (tr_Qv tr_X w h0) args s 0 0 (tr_R tr_X w)) tr_X w 11 100 [(0, .ref (tr_ad w 27)), (1, .ref (tr_ad w tn1)), (2, .int tv901), (3, .int tv902), (4, .int tv3), (5, .int tv6), (8, .int q.1)] [] q.2) hk ?_ _ _ _ hP hS (lv_sub hl [1, 2, 3, 4, 5, 6, 0] rfl)
      intro P100 hin100 hex100 q hk
      obtain ⟨tv15, th16⟩ := q
      intro H locs ls hP hS hl
      replace hk : tr_ok (f_X4_goOn_L100 tn1 tv902 tv901 tv3 tv6 tv15 th16) P100 := hk
      unfold f_X4_goOn_L100 at hk
      refine lv_iload hx hb dX4_goOn_100 (lv_at hl 6 rfl) ?_
      refine lv_aload_n hx hb dX4_goOn_102 rfl (lv_at hl 1 rfl) ?_
      refine gf_X4_31 htn1 C hP dX4_goOn_103 ?_
      refine lv_icmp_ge (tgt := 188) hx hb dX4_goOn_106 (by decide) (fun tc17 => ?_) (fun tc17 => ?_)
      · replace hk := tr_ift hk tc17
        replace hk := hex100 _ (tr_okS hk)
        replace hk : tr_ok (f_X4_goOn_E188 th16) (fun o => o = h0) := hk
        exact j188_100 th16 hk _ _ _ hP hS (lv_sub hl [] rfl)
      · replace hk := tr_iff hk tc17
        refine lv_aload_n hx hb dX4_goOn_109 rfl (lv_at hl 1 rfl) ?_
        refine lv_iload_n hx hb dX4_goOn_110 rfl (lv_at hl 3 rfl) ?_
        refine lv_iload hx hb dX4_goOn_111 (lv_at hl 6 rfl) ?_
        obtain ⟨tv19, tq18, hk⟩ := tr_okb hk
        refine tr_cvi (As := [.int tv902, .int tv15]) (rest := []) C hP hS hl (c_X2_of l w tn1 htn1 tv902 tv15 th16 tv19 tq18) mz_X2_of ml_X4_48 (tr_net_lt htn1) (tr_net_cx htn1 (tr_ad w) w.2.1 (th16.1 tn1) (th16.2 tn1)) rfl rfl rfl ⟨Nat.le_of_ble_eq_true rfl, Nat.le_of_ble_eq_true rfl⟩ rfl rfl (Nat.le_of_ble_eq_true rfl) ⟨Nat.le_refl _, Nat.le_refl _⟩ dX4_goOn_113 (fun H locs hP hS => ?_)
        refine lv_istore (lv' := [(9, .int tv19), (0, .ref (tr_ad w 27)), (1, .ref (tr_ad w tn1)), (2, .int tv901), (3, .int tv902), (4, .int tv3), (5, .int tv6), (8, .int tv15)]) hx hb dX4_goOn_116 hl (by decide) rfl (fun ls hl => ?_)
        refine lv_iload hx hb dX4_goOn_118 (lv_at hl 0 rfl) ?_
        refine lv_bipush (v := (-9)) hx hb dX4_goOn_120 (by decide) ?_
        refine lv_icmp_eq (tgt := 182) hx hb dX4_goOn_122 (by decide) (fun tc20 => ?_) (fun tc20 => ?_)
        · replace hk := tr_ift hk tc20
          obtain ⟨tv21, etv21, hk⟩ := tr_okd hk
          refine lv_iinc (v := tv21) (lv' := [(8, .int tv21), (9, .int tv19), (0, .ref (tr_ad w 27)), (1, .ref (tr_ad w tn1)), (2, .int tv901), (3, .int tv902), (4, .int tv3), (5, .int tv6)]) hx hb dX4_goOn_182 hl (k := 7) rfl (by rw [etv21]; rfl) (by decide) rfl (fun ls hl => ?_)
          refine lv_goto (tgt := 100) hx hb dX4_goOn_185 (by decide) ?_
          exact hin100 _ (tr_okS hk) _ _ _ hP hS (lv_sub hl [2, 3, 4, 5, 6, 7, 0] rfl)
        · replace hk := tr_iff hk tc20
          refine lv_iload_n hx hb dX4_goOn_125 rfl (lv_at hl 3 rfl) ?_
          refine lv_iload hx hb dX4_goOn_126 (lv_at hl 7 rfl) ?_
          refine lv_ishr hx hb dX4_goOn_128 ?_
          refine lv_iconst (v := 1) hx hb dX4_goOn_129 (by decide) ?_
          refine lv_iand hx hb dX4_goOn_130 ?_
          refine lv_if_ne (tgt := 182) hx hb dX4_goOn_131 (by decide) (fun tc22 => ?_) (fun tc22 => ?_)
          · replace hk := tr_iff hk tc22
            obtain ⟨tv23, etv23, hk⟩ := tr_okd hk
            refine lv_iinc (v := tv23) (lv' := [(8, .int tv23), (9, .int tv19), (0, .ref (tr_ad w 27)), (1, .ref (tr_ad w tn1)), (2, .int tv901), (3, .int tv902), (4, .int tv3), (5, .int tv6)]) hx hb dX4_goOn_182 hl (k := 7) rfl (by rw [etv23]; rfl) (by decide) rfl (fun ls hl => ?_)
            refine lv_goto (tgt := 100) hx hb dX4_goOn_185 (by decide) ?_
            exact hin100 _ (tr_okS hk) _ _ _ hP hS (lv_sub hl [2, 3, 4, 5, 6, 7, 0] rfl)
          · replace hk := tr_ift hk tc22
            refine lv_iload_n hx hb dX4_goOn_134 rfl (lv_at hl 3 rfl) ?_
            refine lv_iconst (v := 1) hx hb dX4_goOn_135 (by decide) ?_
            refine lv_iload hx hb dX4_goOn_136 (lv_at hl 7 rfl) ?_
            refine lv_ishl hx hb dX4_goOn_138 ?_
            refine lv_ior hx hb dX4_goOn_139 ?_
            refine lv_bipush (v := 6) hx hb dX4_goOn_140 (by decide) ?_
            refine lv_imul hx hb dX4_goOn_142 ?_
            refine lv_iload hx hb dX4_goOn_143 (lv_at hl 7 rfl) ?_
            refine lv_iadd hx hb dX4_goOn_145 ?_
            refine tr_ti hk (fun tv24 hk => ?_)
            refine lv_istore (lv' := [(10, .int tv24), (9, .int tv19), (0, .ref (tr_ad w 27)), (1, .ref (tr_ad w tn1)), (2, .int tv901), (3, .int tv902), (4, .int tv3), (5, .int tv6), (8, .int tv15)]) hx hb dX4_goOn_146 hl (by decide) rfl (fun ls hl => ?_)
            refine lv_aload_n hx hb dX4_goOn_148 rfl (lv_at hl 2 rfl) ?_
            refine gf_X4_9 C hP dX4_goOn_149 ?_
            refine lv_iload hx hb dX4_goOn_152 (lv_at hl 0 rfl) ?_
            refine lv_dup2_11 hx hb dX4_goOn_154 rfl rfl ?_
            obtain ⟨tg25, hk⟩ := tr_okg hk
            refine tr_ial C hP (ar_X_28 w) tg25 dX4_goOn_155 ?_
            refine lv_iload hx hb dX4_goOn_156 (lv_at hl 6 rfl) ?_
            refine lv_iadd hx hb dX4_goOn_158 ?_
            obtain ⟨tg26, hk⟩ := tr_okg hk
            refine tr_ias C hP hS (ar_X_28 w) tg26 dX4_goOn_159 (fun H locs hP hS => ?_)
            refine tr_th hk hP (fun th27 hk hP => ?_)
            refine lv_aload_n hx hb dX4_goOn_160 rfl (lv_at hl 2 rfl) ?_
            refine gf_X4_15 C hP dX4_goOn_161 ?_
            refine lv_iload hx hb dX4_goOn_164 (lv_at hl 0 rfl) ?_
            refine lv_aload_n hx hb dX4_goOn_166 rfl (lv_at hl 2 rfl) ?_
            refine gf_X4_15 C hP dX4_goOn_167 ?_
            refine lv_iload hx hb dX4_goOn_170 (lv_at hl 0 rfl) ?_
            obtain ⟨tg28, hk⟩ := tr_okg hk
            refine tr_ial C hP (ar_X_29 w) tg28 dX4_goOn_172 ?_
            refine lv_iload hx hb dX4_goOn_173 (lv_at hl 7 rfl) ?_
            refine lv_iload hx hb dX4_goOn_175 (lv_at hl 1 rfl) ?_
            refine lv_iadd hx hb dX4_goOn_177 ?_
            refine tr_mx C hl ml_X4_60 ⟨Nat.le_of_ble_eq_true rfl, Nat.le_of_ble_eq_true rfl⟩ ⟨Nat.le_refl _, Nat.le_refl _⟩ dX4_goOn_178 ?_
            obtain ⟨tg29, hk⟩ := tr_okg hk
            refine tr_ias C hP hS (ar_X_29 w) tg29 dX4_goOn_181 (fun H locs hP hS => ?_)
            refine tr_th hk hP (fun th30 hk hP => ?_)
            obtain ⟨tv31, etv31, hk⟩ := tr_okd hk
            refine lv_iinc (v := tv31) (lv' := [(8, .int tv31), (10, .int tv24), (9, .int tv19), (0, .ref (tr_ad w 27)), (1, .ref (tr_ad w tn1)), (2, .int tv901), (3, .int tv902), (4, .int tv3), (5, .int tv6)]) hx hb dX4_goOn_182 hl (k := 8) rfl (by rw [etv31]; rfl) (by decide) rfl (fun ls hl => ?_)
            refine lv_goto (tgt := 100) hx hb dX4_goOn_185 (by decide) ?_
            exact hin100 _ (tr_okS hk) _ _ _ hP hS (lv_sub hl [3, 4, 5, 6, 7, 8, 0] rfl)
    refine lv_icmp_eq (tgt := 94) hx hb dX4_goOn_51 (by decide) (fun tc32 => ?_) (fun tc32 => ?_)
    · replace hk := tr_ift hk tc32
      exact j94 h hk _ _ _ hP hS (lv_sub hl [4, 5, 6, 7, 3, 2, 1] rfl)
    · replace hk := tr_iff hk tc32
      refine lv_aload_n hx hb dX4_goOn_54 rfl (lv_at hl 4 rfl) ?_
      refine lv_dup hx hb dX4_goOn_55 rfl ?_
      refine gf_X4_27 C hP dX4_goOn_56 ?_
      refine lv_iload hx hb dX4_goOn_59 (lv_at hl 3 rfl) ?_
      refine lv_iadd hx hb dX4_goOn_61 ?_
      refine pf_X4_27 C hP hS dX4_goOn_62 (fun H locs hP hS => ?_)
      refine tr_th hk hP (fun th33 hk hP => ?_)
      refine lv_aload_n hx hb dX4_goOn_65 rfl (lv_at hl 4 rfl) ?_
      refine gf_X4_18 C hP dX4_goOn_66 ?_
      refine lv_iload_n hx hb dX4_goOn_69 rfl (lv_at hl 6 rfl) ?_
      refine lv_aload_n hx hb dX4_goOn_70 rfl (lv_at hl 4 rfl) ?_
      refine gf_X4_18 C hP dX4_goOn_71 ?_
      refine lv_iload_n hx hb dX4_goOn_74 rfl (lv_at hl 6 rfl) ?_
      obtain ⟨tg34, hk⟩ := tr_okg hk
      refine tr_ial C hP (ar_X_30 w) tg34 dX4_goOn_75 ?_
      refine lv_iload hx hb dX4_goOn_76 (lv_at hl 2 rfl) ?_
      refine lv_iload hx hb dX4_goOn_78 (lv_at hl 0 rfl) ?_
      refine lv_iadd hx hb dX4_goOn_80 ?_
      refine gs_X4_52 C hS dX4_goOn_81 ?_
      refine lv_iload_n hx hb dX4_goOn_84 rfl (lv_at hl 6 rfl) ?_
      obtain ⟨tv36, tq35, hk⟩ := tr_okb hk
      refine tr_csi (As := [.int tv901]) (rest := [.ref (w.2.2.2 0), .int (tv6 + tv11), .int (th33.1 30 tv901.toNatClampNeg), .int tv901, .ref (tr_ad w 30)]) C hP hS hl (c_J6_bitCount_0f7a4 l w tv901 th33 tv36 tq35) mz_J6_bitCount_0f7a4 ml_X4_55 rfl rfl ⟨Nat.le_of_ble_eq_true rfl, Nat.le_of_ble_eq_true rfl⟩ rfl rfl (Nat.le_of_ble_eq_true rfl) ⟨Nat.le_refl _, Nat.le_refl _⟩ dX4_goOn_85 (fun H locs hP hS => ?_)
      obtain ⟨tg37, hk⟩ := tr_okg hk
      refine tr_s0 C hS tg37 dX4_goOn_88 ?_
      refine lv_imul hx hb dX4_goOn_89 ?_
      refine tr_mx C hl ml_X4_60 ⟨Nat.le_of_ble_eq_true rfl, Nat.le_of_ble_eq_true rfl⟩ ⟨Nat.le_refl _, Nat.le_refl _⟩ dX4_goOn_90 ?_
      obtain ⟨tg38, hk⟩ := tr_okg hk
      refine tr_ias C hP hS (ar_X_30 w) tg38 dX4_goOn_93 (fun H locs hP hS => ?_)
      refine tr_th hk hP (fun th39 hk hP => ?_)
      exact j94 th39 hk _ _ _ hP hS (lv_sub hl [4, 5, 6, 7, 3, 2, 1] rfl)
  · replace hk := tr_ift hk tc7
    exact tr_vret C hP hS hr hlocks (tr_okS (P := (fun o => o = h0)) hk) dX4_goOn_31
abbrev r_X4_takeWithin : Room := { frames := 1, cells := 0, slots := 0, locals := 21 }
set_option maxHeartbeats 4000000 in
set_option maxRecDepth 100000 in
theorem c_X4_takeWithin (l : Launch) (w : tr_E) (tv900 : Int32) (h : tr_H) (h0 : tr_H) (hk : f_X4_takeWithin tv900 h = some h0) : Met l yX4_takeWithin (Cond.code yX4_takeWithin cX4_takeWithin 4 none :: tr_T) r_X4_takeWithin (va_Pc [.ref (tr_ad w 27), .int tv900] (tr_Wo tr_X w h)) (tr_Qv tr_X w h0) 0 0 (tr_R tr_X w) := by
  refine tr_start (by decide) (Nat.le_refl _) ?_
  intro p e s m args below meth c C hr hlocks hargs hP
  have hx := C.1
  have hb := C.2.1
  have hS : va_S (tr_R tr_X w) s.heap s.heap [] := va_S.rf
  have hl := lv_entry ([.ref (tr_ad w 27), .int tv900]) (n := 4) (Nat.le_of_ble_eq_true rfl)
  rw [lg_entry_eq]
  generalize (lg_sl ([.ref (tr_ad w 27), .int tv900]) ++ List.replicate (4 - (lg_sl ([.ref (tr_ad w 27), .int tv900])).length) Slot.unset).toArray = ls at hl ⊢
  have hl : lv_has ls 4 [(0, .ref (tr_ad w 27)), (1, .int tv900)] := hl
  replace hk : tr_ok (f_X4_takeWithin tv900 h) (fun o => o = h0) := ⟨_, hk, rfl⟩
  unfold f_X4_takeWithin at hk
  refine lv_iconst (v := 1) hx hb dX4_takeWithin_0 (by decide) ?_
  refine lv_istore_n (lv' := [(2, .int 1), (0, .ref (tr_ad w 27)), (1, .int tv900)]) hx hb dX4_takeWithin_1 rfl hl (by decide) rfl (fun ls hl => ?_)
  have j55_2 : ∀ (th1 : tr_H), tr_ok (f_X4_takeWithin_E55 th1) (fun o => o = h0) → tr_Wd p l e r_X4_takeWithin s m args below meth c (MQ below (tr_Qv tr_X w h0) args s 0 0 (tr_R tr_X w)) tr_X w 4 55 [] [] th1 := by
    intro th1 hk H locs ls hP hS hl
    unfold f_X4_takeWithin_E55 at hk
    exact tr_vret C hP hS hr hlocks (tr_okS (P := (fun o => o = h0)) hk) dX4_takeWithin_55
  refine tr_loop (fun q => tr_Wd p l e r_X4_takeWithin s m args below meth c (MQ below (tr_Qv tr_X w h0) args s 0 0 (tr_R tr_X w)) tr_X w 4 2 [(0, .ref (tr_ad w 27)), (1, .int tv900), (2, .int q.1)] [] q.2) hk ?_ _ _ _ hP hS (lv_sub hl [1, 2, 0] rfl)
  intro P2 hin2 hex2 q hk
  obtain ⟨tv2, th3⟩ := q
  intro H locs ls hP hS hl
  replace hk : tr_ok (f_X4_takeWithin_L2 tv900 tv2 th3) P2 := hk
  unfold f_X4_takeWithin_L2 at hk
  refine lv_iload_n hx hb dX4_takeWithin_2 rfl (lv_at hl 2 rfl) ?_
  refine lv_iconst (v := 1) hx hb dX4_takeWithin_3 (by decide) ?_
  refine lv_iload_n hx hb dX4_takeWithin_4 rfl (lv_at hl 1 rfl) ?_
  refine lv_ishl hx hb dX4_takeWithin_5 ?_
  refine lv_icmp_ge (tgt := 55) hx hb dX4_takeWithin_6 (by decide) (fun tc4 => ?_) (fun tc4 => ?_)
  · replace hk := tr_ift hk tc4
    replace hk := hex2 _ (tr_okS hk)
    replace hk : tr_ok (f_X4_takeWithin_E55 th3) (fun o => o = h0) := hk
    exact j55_2 th3 hk _ _ _ hP hS (lv_sub hl [] rfl)
  · replace hk := tr_iff hk tc4
    refine lv_iconst (v := 0) hx hb dX4_takeWithin_9 (by decide) ?_
    refine lv_istore_n (lv' := [(3, .int 0), (0, .ref (tr_ad w 27)), (1, .int tv900), (2, .int tv2)]) hx hb dX4_takeWithin_10 rfl hl (by decide) rfl (fun ls hl => ?_)
    have j49_11 : ∀ (th5 : tr_H), tr_ok (f_X4_takeWithin_E49 tv2 th5) P2 → tr_Wd p l e r_X4_takeWithin s m args below meth c (MQ below (tr_Qv tr_X w h0) args s 0 0 (tr_R tr_X w)) tr_X w 4 49 [(0, .ref (tr_ad w 27)), (1, .int tv900), (2, .int tv2)] [] th5 := by
      intro th5 hk H locs ls hP hS hl
      unfold f_X4_takeWithin_E49 at hk
      obtain ⟨tv6, etv6, hk⟩ := tr_okd hk
      refine lv_iinc (v := tv6) (lv' := [(2, .int tv6), (0, .ref (tr_ad w 27)), (1, .int tv900)]) hx hb dX4_takeWithin_49 hl (k := 2) rfl (by rw [etv6]; rfl) (by decide) rfl (fun ls hl => ?_)
      refine lv_goto (tgt := 2) hx hb dX4_takeWithin_52 (by decide) ?_
      exact hin2 _ (tr_okS hk) _ _ _ hP hS (lv_sub hl [1, 2, 0] rfl)
    refine tr_loop (fun q => tr_Wd p l e r_X4_takeWithin s m args below meth c (MQ below (tr_Qv tr_X w h0) args s 0 0 (tr_R tr_X w)) tr_X w 4 11 [(0, .ref (tr_ad w 27)), (1, .int tv900), (2, .int tv2), (3, .int q.1)] [] q.2) hk ?_ _ _ _ hP hS (lv_sub hl [1, 2, 3, 0] rfl)
    intro P11 hin11 hex11 q hk
    obtain ⟨tv7, th8⟩ := q
    intro H locs ls hP hS hl
    replace hk : tr_ok (f_X4_takeWithin_L11 tv900 tv2 tv7 th8) P11 := hk
    unfold f_X4_takeWithin_L11 at hk
    refine lv_iload_n hx hb dX4_takeWithin_11 rfl (lv_at hl 3 rfl) ?_
    refine lv_iload_n hx hb dX4_takeWithin_12 rfl (lv_at hl 1 rfl) ?_
    refine lv_icmp_ge (tgt := 49) hx hb dX4_takeWithin_13 (by decide) (fun tc9 => ?_) (fun tc9 => ?_)
    · replace hk := tr_ift hk tc9
      replace hk := hex11 _ (tr_okS hk)
      replace hk : tr_ok (f_X4_takeWithin_E49 tv2 th8) P2 := hk
      exact j49_11 th8 hk _ _ _ hP hS (lv_sub hl [0, 1, 2] rfl)
    · replace hk := tr_iff hk tc9
      refine lv_aload_n hx hb dX4_takeWithin_16 rfl (lv_at hl 0 rfl) ?_
      refine gf_X4_18 C hP dX4_takeWithin_17 ?_
      refine lv_iload_n hx hb dX4_takeWithin_20 rfl (lv_at hl 2 rfl) ?_
      refine lv_aload_n hx hb dX4_takeWithin_21 rfl (lv_at hl 0 rfl) ?_
      refine gf_X4_18 C hP dX4_takeWithin_22 ?_
      refine lv_iload_n hx hb dX4_takeWithin_25 rfl (lv_at hl 2 rfl) ?_
      obtain ⟨tg10, hk⟩ := tr_okg hk
      refine tr_ial C hP (ar_X_30 w) tg10 dX4_takeWithin_26 ?_
      refine lv_aload_n hx hb dX4_takeWithin_27 rfl (lv_at hl 0 rfl) ?_
      refine gf_X4_18 C hP dX4_takeWithin_28 ?_
      refine lv_iload_n hx hb dX4_takeWithin_31 rfl (lv_at hl 2 rfl) ?_
      refine lv_iconst (v := 1) hx hb dX4_takeWithin_32 (by decide) ?_
      refine lv_iload_n hx hb dX4_takeWithin_33 rfl (lv_at hl 3 rfl) ?_
      refine lv_ishl hx hb dX4_takeWithin_34 ?_
      refine lv_iconst (v := (-1)) hx hb dX4_takeWithin_35 (by decide) ?_
      refine lv_ixor hx hb dX4_takeWithin_36 ?_
      refine lv_iand hx hb dX4_takeWithin_37 ?_
      refine tr_ti hk (fun tv11 hk => ?_)
      obtain ⟨tg12, hk⟩ := tr_okg hk
      refine tr_ial C hP (ar_X_30 w) tg12 dX4_takeWithin_38 ?_
      refine tr_mx C hl ml_X4_60 ⟨Nat.le_of_ble_eq_true rfl, Nat.le_of_ble_eq_true rfl⟩ ⟨Nat.le_refl _, Nat.le_refl _⟩ dX4_takeWithin_39 ?_
      obtain ⟨tg13, hk⟩ := tr_okg hk
      refine tr_ias C hP hS (ar_X_30 w) tg13 dX4_takeWithin_42 (fun H locs hP hS => ?_)
      refine tr_th hk hP (fun th14 hk hP => ?_)
      obtain ⟨tv15, etv15, hk⟩ := tr_okd hk
      refine lv_iinc (v := tv15) (lv' := [(3, .int tv15), (0, .ref (tr_ad w 27)), (1, .int tv900), (2, .int tv2)]) hx hb dX4_takeWithin_43 hl (k := 3) rfl (by rw [etv15]; rfl) (by decide) rfl (fun ls hl => ?_)
      refine lv_goto (tgt := 11) hx hb dX4_takeWithin_46 (by decide) ?_
      exact hin11 _ (tr_okS hk) _ _ _ hP hS (lv_sub hl [1, 2, 3, 0] rfl)
abbrev r_X4_fill : Room := { frames := 2, cells := 0, slots := 0, locals := 52 }
set_option maxHeartbeats 4000000 in
set_option maxRecDepth 100000 in
theorem c_X4_fill (l : Launch) (w : tr_E) (tn1 : Nat) (htn1 : tr_net tn1) (h : tr_H) (h0 : tr_H) (hk : f_X4_fill tn1 h = some h0) : Met l yX4_fill (Cond.code yX4_fill cX4_fill 4 none :: tr_T) r_X4_fill (va_Pc [.ref (tr_ad w 27), .ref (tr_ad w tn1)] (tr_Wo tr_X w h)) (tr_Qv tr_X w h0) 0 0 (tr_R tr_X w) := by
  refine tr_start (by decide) (Nat.le_refl _) ?_
  intro p e s m args below meth c C hr hlocks hargs hP
  have hx := C.1
  have hb := C.2.1
  have hS : va_S (tr_R tr_X w) s.heap s.heap [] := va_S.rf
  have hl := lv_entry ([.ref (tr_ad w 27), .ref (tr_ad w tn1)]) (n := 4) (Nat.le_of_ble_eq_true rfl)
  rw [lg_entry_eq]
  generalize (lg_sl ([.ref (tr_ad w 27), .ref (tr_ad w tn1)]) ++ List.replicate (4 - (lg_sl ([.ref (tr_ad w 27), .ref (tr_ad w tn1)])).length) Slot.unset).toArray = ls at hl ⊢
  have hl : lv_has ls 4 [(0, .ref (tr_ad w 27)), (1, .ref (tr_ad w tn1))] := hl
  replace hk : tr_ok (f_X4_fill tn1 h) (fun o => o = h0) := ⟨_, hk, rfl⟩
  unfold f_X4_fill at hk
  refine lv_aload_n hx hb dX4_fill_0 rfl (lv_at hl 0 rfl) ?_
  refine gf_X4_9 C hP dX4_fill_1 ?_
  refine lv_iconst (v := 0) hx hb dX4_fill_4 (by decide) ?_
  obtain ⟨th2, tq1, hk⟩ := tr_okb hk
  refine tr_csv (As := [.ref (tr_ad w 28), .int 0]) (rest := []) C hP hS hl (c_J7_fill_53178 l w 28 384 (ar_X_28 w) 0 h th2 tq1) mz_J7_fill_53178 ml_X4_21 rfl rfl ⟨Nat.le_of_ble_eq_true rfl, Nat.le_of_ble_eq_true rfl⟩ rfl rfl (Nat.le_of_ble_eq_true rfl) ⟨Nat.le_refl _, Nat.le_refl _⟩ dX4_fill_5 (fun H locs hP hS => ?_)
  refine lv_aload_n hx hb dX4_fill_8 rfl (lv_at hl 0 rfl) ?_
  refine gf_X4_15 C hP dX4_fill_9 ?_
  refine lv_iconst (v := 0) hx hb dX4_fill_12 (by decide) ?_
  obtain ⟨th4, tq3, hk⟩ := tr_okb hk
  refine tr_csv (As := [.ref (tr_ad w 29), .int 0]) (rest := []) C hP hS hl (c_J7_fill_53178 l w 29 384 (ar_X_29 w) 0 th2 th4 tq3) mz_J7_fill_53178 ml_X4_21 rfl rfl ⟨Nat.le_of_ble_eq_true rfl, Nat.le_of_ble_eq_true rfl⟩ rfl rfl (Nat.le_of_ble_eq_true rfl) ⟨Nat.le_refl _, Nat.le_refl _⟩ dX4_fill_13 (fun H locs hP hS => ?_)
  refine lv_aload_n hx hb dX4_fill_16 rfl (lv_at hl 0 rfl) ?_
  refine gf_X4_18 C hP dX4_fill_17 ?_
  refine lv_iconst (v := 0) hx hb dX4_fill_20 (by decide) ?_
  obtain ⟨th6, tq5, hk⟩ := tr_okb hk
  refine tr_csv (As := [.ref (tr_ad w 30), .int 0]) (rest := []) C hP hS hl (c_J7_fill_53178 l w 30 64 (ar_X_30 w) 0 th4 th6 tq5) mz_J7_fill_53178 ml_X4_21 rfl rfl ⟨Nat.le_of_ble_eq_true rfl, Nat.le_of_ble_eq_true rfl⟩ rfl rfl (Nat.le_of_ble_eq_true rfl) ⟨Nat.le_refl _, Nat.le_refl _⟩ dX4_fill_21 (fun H locs hP hS => ?_)
  refine lv_aload_n hx hb dX4_fill_24 rfl (lv_at hl 0 rfl) ?_
  refine lv_iconst (v := 0) hx hb dX4_fill_25 (by decide) ?_
  refine pf_X4_27 C hP hS dX4_fill_26 (fun H locs hP hS => ?_)
  refine tr_th hk hP (fun th7 hk hP => ?_)
  refine lv_iconst (v := 0) hx hb dX4_fill_29 (by decide) ?_
  refine lv_istore_n (lv' := [(2, .int 0), (0, .ref (tr_ad w 27)), (1, .ref (tr_ad w tn1))]) hx hb dX4_fill_30 rfl hl (by decide) rfl (fun ls hl => ?_)
  have j59_31 : ∀ (th8 : tr_H), tr_ok (f_X4_fill_E59 tn1 th8) (fun o => o = h0) → tr_Wd p l e r_X4_fill s m args below meth c (MQ below (tr_Qv tr_X w h0) args s 0 0 (tr_R tr_X w)) tr_X w 4 59 [(0, .ref (tr_ad w 27)), (1, .ref (tr_ad w tn1))] [] th8 := by
    intro th8 hk H locs ls hP hS hl
    unfold f_X4_fill_E59 at hk
    refine lv_iconst (v := 1) hx hb dX4_fill_59 (by decide) ?_
    refine lv_istore_n (lv' := [(2, .int 1), (0, .ref (tr_ad w 27)), (1, .ref (tr_ad w tn1))]) hx hb dX4_fill_60 rfl hl (by decide) rfl (fun ls hl => ?_)
    have j100_61 : ∀ (th9 : tr_H), tr_ok (f_X4_fill_E100 tn1 th9) (fun o => o = h0) → tr_Wd p l e r_X4_fill s m args below meth c (MQ below (tr_Qv tr_X w h0) args s 0 0 (tr_R tr_X w)) tr_X w 4 100 [(0, .ref (tr_ad w 27)), (1, .ref (tr_ad w tn1))] [] th9 := by
      intro th9 hk H locs ls hP hS hl
      unfold f_X4_fill_E100 at hk
      refine lv_aload_n hx hb dX4_fill_100 rfl (lv_at hl 0 rfl) ?_
      refine lv_aload_n hx hb dX4_fill_101 rfl (lv_at hl 1 rfl) ?_
      refine gf_X4_31 htn1 C hP dX4_fill_102 ?_
      obtain ⟨th11, tq10, hk⟩ := tr_okb hk
      refine tr_cvv (As := [.int (th9.1 tn1 1)]) (rest := []) C hP hS hl (c_X4_takeWithin l w (th9.1 tn1 1) th9 th11 tq10) mz_X4_takeWithin ml_X4_40 (by decide) rfl rfl rfl rfl ⟨Nat.le_of_ble_eq_true rfl, Nat.le_of_ble_eq_true rfl⟩ rfl rfl (Nat.le_of_ble_eq_true rfl) ⟨Nat.le_refl _, Nat.le_refl _⟩ dX4_fill_105 (fun H locs hP hS => ?_)
      exact tr_vret C hP hS hr hlocks (tr_okS (P := (fun o => o = h0)) hk) dX4_fill_108
    refine tr_loop (fun q => tr_Wd p l e r_X4_fill s m args below meth c (MQ below (tr_Qv tr_X w h0) args s 0 0 (tr_R tr_X w)) tr_X w 4 61 [(0, .ref (tr_ad w 27)), (1, .ref (tr_ad w tn1)), (2, .int q.1)] [] q.2) hk ?_ _ _ _ hP hS (lv_sub hl [1, 2, 0] rfl)
    intro P61 hin61 hex61 q hk
    obtain ⟨tv12, th13⟩ := q
    intro H locs ls hP hS hl
    replace hk : tr_ok (f_X4_fill_L61 tn1 tv12 th13) P61 := hk
    unfold f_X4_fill_L61 at hk
    refine lv_iload_n hx hb dX4_fill_61 rfl (lv_at hl 2 rfl) ?_
    refine lv_iconst (v := 1) hx hb dX4_fill_62 (by decide) ?_
    refine lv_aload_n hx hb dX4_fill_63 rfl (lv_at hl 1 rfl) ?_
    refine gf_X4_31 htn1 C hP dX4_fill_64 ?_
    refine lv_ishl hx hb dX4_fill_67 ?_
    refine lv_icmp_ge (tgt := 100) hx hb dX4_fill_68 (by decide) (fun tc14 => ?_) (fun tc14 => ?_)
    · replace hk := tr_ift hk tc14
      replace hk := hex61 _ (tr_okS hk)
      replace hk : tr_ok (f_X4_fill_E100 tn1 th13) (fun o => o = h0) := hk
      exact j100_61 th13 hk _ _ _ hP hS (lv_sub hl [0, 1] rfl)
    · replace hk := tr_iff hk tc14
      refine lv_iconst (v := 0) hx hb dX4_fill_71 (by decide) ?_
      refine lv_istore_n (lv' := [(3, .int 0), (0, .ref (tr_ad w 27)), (1, .ref (tr_ad w tn1)), (2, .int tv12)]) hx hb dX4_fill_72 rfl hl (by decide) rfl (fun ls hl => ?_)
      have j94_73 : ∀ (th15 : tr_H), tr_ok (f_X4_fill_E94 tv12 th15) P61 → tr_Wd p l e r_X4_fill s m args below meth c (MQ below (tr_Qv tr_X w h0) args s 0 0 (tr_R tr_X w)) tr_X w 4 94 [(0, .ref (tr_ad w 27)), (1, .ref (tr_ad w tn1)), (2, .int tv12)] [] th15 := by
        intro th15 hk H locs ls hP hS hl
        unfold f_X4_fill_E94 at hk
        obtain ⟨tv16, etv16, hk⟩ := tr_okd hk
        refine lv_iinc (v := tv16) (lv' := [(2, .int tv16), (0, .ref (tr_ad w 27)), (1, .ref (tr_ad w tn1))]) hx hb dX4_fill_94 hl (k := 2) rfl (by rw [etv16]; rfl) (by decide) rfl (fun ls hl => ?_)
        refine lv_goto (tgt := 61) hx hb dX4_fill_97 (by decide) ?_
        exact hin61 _ (tr_okS hk) _ _ _ hP hS (lv_sub hl [1, 2, 0] rfl)
      refine tr_loop (fun q => tr_Wd p l e r_X4_fill s m args below meth c (MQ below (tr_Qv tr_X w h0) args s 0 0 (tr_R tr_X w)) tr_X w 4 73 [(0, .ref (tr_ad w 27)), (1, .ref (tr_ad w tn1)), (2, .int tv12), (3, .int q.1)] [] q.2) hk ?_ _ _ _ hP hS (lv_sub hl [1, 2, 3, 0] rfl)
      intro P73 hin73 hex73 q hk
      obtain ⟨tv17, th18⟩ := q
      intro H locs ls hP hS hl
      replace hk : tr_ok (f_X4_fill_L73 tn1 tv12 tv17 th18) P73 := hk
      unfold f_X4_fill_L73 at hk
      refine lv_iload_n hx hb dX4_fill_73 rfl (lv_at hl 3 rfl) ?_
      refine lv_aload_n hx hb dX4_fill_74 rfl (lv_at hl 1 rfl) ?_
      refine gf_X4_31 htn1 C hP dX4_fill_75 ?_
      refine lv_icmp_ge (tgt := 94) hx hb dX4_fill_78 (by decide) (fun tc19 => ?_) (fun tc19 => ?_)
      · replace hk := tr_ift hk tc19
        replace hk := hex73 _ (tr_okS hk)
        replace hk : tr_ok (f_X4_fill_E94 tv12 th18) P61 := hk
        exact j94_73 th18 hk _ _ _ hP hS (lv_sub hl [0, 1, 2] rfl)
      · replace hk := tr_iff hk tc19
        refine lv_aload_n hx hb dX4_fill_81 rfl (lv_at hl 0 rfl) ?_
        refine lv_aload_n hx hb dX4_fill_82 rfl (lv_at hl 1 rfl) ?_
        refine lv_iload_n hx hb dX4_fill_83 rfl (lv_at hl 2 rfl) ?_
        refine lv_iload_n hx hb dX4_fill_84 rfl (lv_at hl 3 rfl) ?_
        obtain ⟨th21, tq20, hk⟩ := tr_okb hk
        refine tr_cvv (As := [.ref (tr_ad w tn1), .int tv12, .int tv17]) (rest := []) C hP hS hl (c_X4_goOn l w tn1 htn1 tv12 tv17 th18 th21 tq20) mz_X4_goOn ml_X4_36 (by decide) rfl rfl rfl rfl ⟨Nat.le_of_ble_eq_true rfl, Nat.le_of_ble_eq_true rfl⟩ rfl rfl (Nat.le_of_ble_eq_true rfl) ⟨Nat.le_refl _, Nat.le_refl _⟩ dX4_fill_85 (fun H locs hP hS => ?_)
        obtain ⟨tv22, etv22, hk⟩ := tr_okd hk
        refine lv_iinc (v := tv22) (lv' := [(3, .int tv22), (0, .ref (tr_ad w 27)), (1, .ref (tr_ad w tn1)), (2, .int tv12)]) hx hb dX4_fill_88 hl (k := 3) rfl (by rw [etv22]; rfl) (by decide) rfl (fun ls hl => ?_)
        refine lv_goto (tgt := 73) hx hb dX4_fill_91 (by decide) ?_
        exact hin73 _ (tr_okS hk) _ _ _ hP hS (lv_sub hl [1, 2, 3, 0] rfl)
  refine tr_loop (fun q => tr_Wd p l e r_X4_fill s m args below meth c (MQ below (tr_Qv tr_X w h0) args s 0 0 (tr_R tr_X w)) tr_X w 4 31 [(0, .ref (tr_ad w 27)), (1, .ref (tr_ad w tn1)), (2, .int q.1)] [] q.2) hk ?_ _ _ _ hP hS (lv_sub hl [1, 2, 0] rfl)
  intro P31 hin31 hex31 q hk
  obtain ⟨tv23, th24⟩ := q
  intro H locs ls hP hS hl
  replace hk : tr_ok (f_X4_fill_L31 tn1 tv23 th24) P31 := hk
  unfold f_X4_fill_L31 at hk
  refine lv_iload_n hx hb dX4_fill_31 rfl (lv_at hl 2 rfl) ?_
  refine lv_aload_n hx hb dX4_fill_32 rfl (lv_at hl 1 rfl) ?_
  refine gf_X4_31 htn1 C hP dX4_fill_33 ?_
  refine lv_icmp_ge (tgt := 59) hx hb dX4_fill_36 (by decide) (fun tc25 => ?_) (fun tc25 => ?_)
  · replace hk := tr_ift hk tc25
    replace hk := hex31 _ (tr_okS hk)
    replace hk : tr_ok (f_X4_fill_E59 tn1 th24) (fun o => o = h0) := hk
    exact j59_31 th24 hk _ _ _ hP hS (lv_sub hl [0, 1] rfl)
  · replace hk := tr_iff hk tc25
    refine lv_aload_n hx hb dX4_fill_39 rfl (lv_at hl 0 rfl) ?_
    refine gf_X4_9 C hP dX4_fill_40 ?_
    refine lv_iconst (v := 1) hx hb dX4_fill_43 (by decide) ?_
    refine lv_iload_n hx hb dX4_fill_44 rfl (lv_at hl 2 rfl) ?_
    refine lv_ishl hx hb dX4_fill_45 ?_
    refine lv_bipush (v := 6) hx hb dX4_fill_46 (by decide) ?_
    refine lv_imul hx hb dX4_fill_48 ?_
    refine lv_iload_n hx hb dX4_fill_49 rfl (lv_at hl 2 rfl) ?_
    refine lv_iadd hx hb dX4_fill_50 ?_
    refine lv_iconst (v := 1) hx hb dX4_fill_51 (by decide) ?_
    obtain ⟨tv26, etv26, hk⟩ := tr_okd hk
    rw [← etv26]
    obtain ⟨tg27, hk⟩ := tr_okg hk
    refine tr_ias C hP hS (ar_X_28 w) tg27 dX4_fill_52 (fun H locs hP hS => ?_)
    refine tr_th hk hP (fun th28 hk hP => ?_)
    obtain ⟨tv29, etv29, hk⟩ := tr_okd hk
    refine lv_iinc (v := tv29) (lv' := [(2, .int tv29), (0, .ref (tr_ad w 27)), (1, .ref (tr_ad w tn1))]) hx hb dX4_fill_53 hl (k := 2) rfl (by rw [etv29]; rfl) (by decide) rfl (fun ls hl => ?_)
    refine lv_goto (tgt := 31) hx hb dX4_fill_56 (by decide) ?_
    exact hin31 _ (tr_okS hk) _ _ _ hP hS (lv_sub hl [1, 2, 0] rfl)
abbrev r_X4_added : Room := { frames := 1, cells := 0, slots := 0, locals := 20 }
set_option maxHeartbeats 4000000 in
set_option maxRecDepth 100000 in
theorem c_X4_added (l : Launch) (w : tr_E) (tv900 : Int32) (tv901 : Int32) (h : tr_H) (r0 : Int32) (hk : f_X4_added tv900 tv901 h = some r0) : Met l yX4_added (Cond.code yX4_added cX4_added 7 (some .int) :: tr_T) r_X4_added (va_Pc [.ref (tr_ad w 27), .int tv900, .int tv901] (tr_Wo tr_X w h)) (tr_Qi tr_X w r0 h) 0 0 (tr_R tr_X w) := by
  refine tr_start (by decide) (Nat.le_refl _) ?_
  intro p e s m args below meth c C hr hlocks hargs hP
  have hx := C.1
  have hb := C.2.1
  have hS : va_S (tr_R tr_X w) s.heap s.heap [] := va_S.rf
  have hl := lv_entry ([.ref (tr_ad w 27), .int tv900, .int tv901]) (n := 7) (Nat.le_of_ble_eq_true rfl)
  rw [lg_entry_eq]
  generalize (lg_sl ([.ref (tr_ad w 27), .int tv900, .int tv901]) ++ List.replicate (7 - (lg_sl ([.ref (tr_ad w 27), .int tv900, .int tv901])).length) Slot.unset).toArray = ls at hl ⊢
  have hl : lv_has ls 7 [(0, .ref (tr_ad w 27)), (1, .int tv900), (2, .int tv901)] := hl
  replace hk : tr_ok (f_X4_added tv900 tv901 h) (fun o => o = r0) := ⟨_, hk, rfl⟩
  unfold f_X4_added at hk
  refine lv_iconst (v := 0) hx hb dX4_added_0 (by decide) ?_
  refine lv_istore_n (lv' := [(3, .int 0), (0, .ref (tr_ad w 27)), (1, .int tv900), (2, .int tv901)]) hx hb dX4_added_1 rfl hl (by decide) rfl (fun ls hl => ?_)
  refine lv_iconst (v := 0) hx hb dX4_added_2 (by decide) ?_
  refine lv_istore (lv' := [(4, .int 0), (3, .int 0), (0, .ref (tr_ad w 27)), (1, .int tv900), (2, .int tv901)]) hx hb dX4_added_3 hl (by decide) rfl (fun ls hl => ?_)
  have j79_5 : ∀ (tv1 : Int32), tr_ok (f_X4_added_E79 tv1) (fun o => o = r0) → tr_Wd p l e r_X4_added s m args below meth c (MQ below (tr_Qi tr_X w r0 h) args s 0 0 (tr_R tr_X w)) tr_X w 7 79 [(3, .int tv1)] [] h := by
    intro tv1 hk H locs ls hP hS hl
    unfold f_X4_added_E79 at hk
    refine lv_iload_n hx hb dX4_added_79 rfl (lv_at hl 0 rfl) ?_
    exact tr_iret C hP hS hr hlocks (congrArg (fun x => (x, h)) (tr_okS (P := (fun o => o = r0)) hk)) dX4_added_80
  refine tr_loop (fun q => tr_Wd p l e r_X4_added s m args below meth c (MQ below (tr_Qi tr_X w r0 h) args s 0 0 (tr_R tr_X w)) tr_X w 7 5 [(0, .ref (tr_ad w 27)), (1, .int tv900), (2, .int tv901), (3, .int q.1), (4, .int q.2)] [] h) hk ?_ _ _ _ hP hS (lv_sub hl [2, 3, 4, 1, 0] rfl)
  intro P5 hin5 hex5 q hk
  obtain ⟨tv2, tv3⟩ := q
  intro H locs ls hP hS hl
  replace hk : tr_ok (f_X4_added_L5 tv901 tv900 h tv2 tv3) P5 := hk
  unfold f_X4_added_L5 at hk
  refine lv_iload hx hb dX4_added_5 (lv_at hl 4 rfl) ?_
  refine lv_iconst (v := 1) hx hb dX4_added_7 (by decide) ?_
  refine lv_iload_n hx hb dX4_added_8 rfl (lv_at hl 2 rfl) ?_
  refine lv_ishl hx hb dX4_added_9 ?_
  refine lv_icmp_ge (tgt := 79) hx hb dX4_added_10 (by decide) (fun tc4 => ?_) (fun tc4 => ?_)
  · replace hk := tr_ift hk tc4
    replace hk := hex5 _ (tr_okS hk)
    replace hk : tr_ok (f_X4_added_E79 tv2) (fun o => o = r0) := hk
    exact j79_5 tv2 hk _ _ _ hP hS (lv_sub hl [3] rfl)
  · replace hk := tr_iff hk tc4
    refine lv_iload hx hb dX4_added_13 (lv_at hl 4 rfl) ?_
    refine lv_iload_n hx hb dX4_added_15 rfl (lv_at hl 1 rfl) ?_
    refine lv_ishr hx hb dX4_added_16 ?_
    refine lv_iconst (v := 1) hx hb dX4_added_17 (by decide) ?_
    refine lv_iand hx hb dX4_added_18 ?_
    refine lv_if_ne (tgt := 73) hx hb dX4_added_19 (by decide) (fun tc5 => ?_) (fun tc5 => ?_)
    · replace hk := tr_iff hk tc5
      obtain ⟨tv6, etv6, hk⟩ := tr_okd hk
      refine lv_iinc (v := tv6) (lv' := [(4, .int tv6), (0, .ref (tr_ad w 27)), (1, .int tv900), (2, .int tv901), (3, .int tv2)]) hx hb dX4_added_73 hl (k := 4) rfl (by rw [etv6]; rfl) (by decide) rfl (fun ls hl => ?_)
      refine lv_goto (tgt := 5) hx hb dX4_added_76 (by decide) ?_
      exact hin5 _ (tr_okS hk) _ _ _ hP hS (lv_sub hl [1, 2, 3, 4, 0] rfl)
    · replace hk := tr_ift hk tc5
      refine lv_iload hx hb dX4_added_22 (lv_at hl 4 rfl) ?_
      obtain ⟨tv8, tq7, hk⟩ := tr_okb hk
      refine tr_csi (As := [.int tv3]) (rest := []) C hP hS hl (c_J6_bitCount_0f7a4 l w tv3 h tv8 tq7) mz_J6_bitCount_0f7a4 ml_X4_55 rfl rfl ⟨Nat.le_of_ble_eq_true rfl, Nat.le_of_ble_eq_true rfl⟩ rfl rfl (Nat.le_of_ble_eq_true rfl) ⟨Nat.le_refl _, Nat.le_refl _⟩ dX4_added_24 (fun H locs hP hS => ?_)
      refine lv_istore (lv' := [(5, .int tv8), (0, .ref (tr_ad w 27)), (1, .int tv900), (2, .int tv901), (3, .int tv2), (4, .int tv3)]) hx hb dX4_added_27 hl (by decide) rfl (fun ls hl => ?_)
      refine gs_X4_65 C hS dX4_added_29 ?_
      refine lv_iload hx hb dX4_added_32 (lv_at hl 0 rfl) ?_
      obtain ⟨tg9, hk⟩ := tr_okg hk
      refine tr_s1 C hS tg9 dX4_added_34 ?_
      refine gs_X4_65 C hS dX4_added_35 ?_
      refine lv_iload_n hx hb dX4_added_38 rfl (lv_at hl 3 rfl) ?_
      refine lv_iconst (v := 1) hx hb dX4_added_39 (by decide) ?_
      refine lv_isub hx hb dX4_added_40 ?_
      refine lv_iload hx hb dX4_added_41 (lv_at hl 0 rfl) ?_
      refine lv_isub hx hb dX4_added_43 ?_
      refine tr_ti hk (fun tv10 hk => ?_)
      obtain ⟨tg11, hk⟩ := tr_okg hk
      refine tr_s1 C hS tg11 dX4_added_44 ?_
      refine lv_imul hx hb dX4_added_45 ?_
      refine tr_ti hk (fun tv12 hk => ?_)
      refine lv_istore (lv' := [(6, .int tv12), (5, .int tv8), (0, .ref (tr_ad w 27)), (1, .int tv900), (2, .int tv901), (3, .int tv2), (4, .int tv3)]) hx hb dX4_added_46 hl (by decide) rfl (fun ls hl => ?_)
      refine lv_iload_n hx hb dX4_added_48 rfl (lv_at hl 5 rfl) ?_
      refine lv_iload hx hb dX4_added_49 (lv_at hl 0 rfl) ?_
      refine lv_aload_n hx hb dX4_added_51 rfl (lv_at hl 2 rfl) ?_
      refine gf_X4_18 C hP dX4_added_52 ?_
      refine lv_iload hx hb dX4_added_55 (lv_at hl 6 rfl) ?_
      refine lv_iconst (v := 1) hx hb dX4_added_57 (by decide) ?_
      refine lv_iload_n hx hb dX4_added_58 rfl (lv_at hl 3 rfl) ?_
      refine lv_ishl hx hb dX4_added_59 ?_
      refine lv_ior hx hb dX4_added_60 ?_
      refine tr_ti hk (fun tv13 hk => ?_)
      obtain ⟨tg14, hk⟩ := tr_okg hk
      refine tr_ial C hP (ar_X_30 w) tg14 dX4_added_61 ?_
      refine lv_aload_n hx hb dX4_added_62 rfl (lv_at hl 2 rfl) ?_
      refine gf_X4_18 C hP dX4_added_63 ?_
      refine lv_iload hx hb dX4_added_66 (lv_at hl 6 rfl) ?_
      obtain ⟨tg15, hk⟩ := tr_okg hk
      refine tr_ial C hP (ar_X_30 w) tg15 dX4_added_68 ?_
      refine lv_isub hx hb dX4_added_69 ?_
      refine lv_imul hx hb dX4_added_70 ?_
      refine lv_iadd hx hb dX4_added_71 ?_
      refine tr_ti hk (fun tv16 hk => ?_)
      refine lv_istore_n (lv' := [(3, .int tv16), (6, .int tv12), (5, .int tv8), (0, .ref (tr_ad w 27)), (1, .int tv900), (2, .int tv901), (4, .int tv3)]) hx hb dX4_added_72 rfl hl (by decide) rfl (fun ls hl => ?_)
      obtain ⟨tv17, etv17, hk⟩ := tr_okd hk
      refine lv_iinc (v := tv17) (lv' := [(4, .int tv17), (3, .int tv16), (6, .int tv12), (5, .int tv8), (0, .ref (tr_ad w 27)), (1, .int tv900), (2, .int tv901)]) hx hb dX4_added_73 hl (k := 6) rfl (by rw [etv17]; rfl) (by decide) rfl (fun ls hl => ?_)
      refine lv_goto (tgt := 5) hx hb dX4_added_76 (by decide) ?_
      exact hin5 _ (tr_okS hk) _ _ _ hP hS (lv_sub hl [4, 5, 6, 1, 0] rfl)
abbrev r_X5_add : Room := { frames := 0, cells := 0, slots := 0, locals := 0 }
set_option maxHeartbeats 4000000 in
set_option maxRecDepth 100000 in
theorem c_X5_add (l : Launch) (w : tr_E) (tv900 : Int32) (tv901 : Int32) (tv902 : Int32) (h : tr_H) (r0 : Int32) (h0 : tr_H) (hk : f_X5_add tv900 tv901 tv902 h = some (r0, h0)) : Met l yX5_add (Cond.code yX5_add cX5_add 4 (some .boolean) :: tr_T) r_X5_add (va_Pc [.ref (tr_ad w 17), .int tv900, .int tv901, .int tv902] (tr_Wo tr_X w h)) (tr_Qi tr_X w r0 h0) 0 0 (tr_R tr_X w) := by
  refine tr_start (by decide) (Nat.le_refl _) ?_
  intro p e s m args below meth c C hr hlocks hargs hP
  have hx := C.1
  have hb := C.2.1
  have hS : va_S (tr_R tr_X w) s.heap s.heap [] := va_S.rf
  have hl := lv_entry ([.ref (tr_ad w 17), .int tv900, .int tv901, .int tv902]) (n := 4) (Nat.le_of_ble_eq_true rfl)
  rw [lg_entry_eq]
  generalize (lg_sl ([.ref (tr_ad w 17), .int tv900, .int tv901, .int tv902]) ++ List.replicate (4 - (lg_sl ([.ref (tr_ad w 17), .int tv900, .int tv901, .int tv902])).length) Slot.unset).toArray = ls at hl ⊢
  have hl : lv_has ls 4 [(0, .ref (tr_ad w 17)), (1, .int tv900), (2, .int tv901), (3, .int tv902)] := hl
  replace hk : tr_ok (f_X5_add tv900 tv901 tv902 h) (fun o => o = (r0, h0)) := ⟨_, hk, rfl⟩
  unfold f_X5_add at hk
  refine lv_aload_n hx hb dX5_add_0 rfl (lv_at hl 0 rfl) ?_
  refine gf_X5_21 C hP dX5_add_1 ?_
  refine lv_if_lt (tgt := 16) hx hb dX5_add_4 (by decide) (fun tc1 => ?_) (fun tc1 => ?_)
  · replace hk := tr_ift hk tc1
    refine lv_iconst (v := 0) hx hb dX5_add_16 (by decide) ?_
    exact tr_zret C hP hS hr hlocks rfl (tr_okS (P := (fun o => o = (r0, h0))) hk) dX5_add_17
  · replace hk := tr_iff hk tc1
    refine lv_aload_n hx hb dX5_add_7 rfl (lv_at hl 0 rfl) ?_
    refine gf_X5_21 C hP dX5_add_8 ?_
    refine lv_bipush (v := 6) hx hb dX5_add_11 (by decide) ?_
    refine lv_icmp_lt (tgt := 18) hx hb dX5_add_13 (by decide) (fun tc2 => ?_) (fun tc2 => ?_)
    · replace hk := tr_ift hk tc2
      refine lv_aload_n hx hb dX5_add_18 rfl (lv_at hl 0 rfl) ?_
      refine gf_X5_9 C hP dX5_add_19 ?_
      refine lv_aload_n hx hb dX5_add_22 rfl (lv_at hl 0 rfl) ?_
      refine gf_X5_21 C hP dX5_add_23 ?_
      refine lv_iload_n hx hb dX5_add_26 rfl (lv_at hl 1 rfl) ?_
      obtain ⟨tv3, etv3, hk⟩ := tr_okd hk
      rw [← etv3]
      obtain ⟨tg4, hk⟩ := tr_okg hk
      refine tr_ias C hP hS (ar_X_18 w) tg4 dX5_add_27 (fun H locs hP hS => ?_)
      refine tr_th hk hP (fun th5 hk hP => ?_)
      refine lv_aload_n hx hb dX5_add_28 rfl (lv_at hl 0 rfl) ?_
      refine gf_X5_15 C hP dX5_add_29 ?_
      refine lv_aload_n hx hb dX5_add_32 rfl (lv_at hl 0 rfl) ?_
      refine gf_X5_21 C hP dX5_add_33 ?_
      refine lv_iload_n hx hb dX5_add_36 rfl (lv_at hl 2 rfl) ?_
      obtain ⟨tv6, etv6, hk⟩ := tr_okd hk
      rw [← etv6]
      obtain ⟨tg7, hk⟩ := tr_okg hk
      refine tr_ias C hP hS (ar_X_19 w) tg7 dX5_add_37 (fun H locs hP hS => ?_)
      refine tr_th hk hP (fun th8 hk hP => ?_)
      refine lv_aload_n hx hb dX5_add_38 rfl (lv_at hl 0 rfl) ?_
      refine gf_X5_18 C hP dX5_add_39 ?_
      refine lv_aload_n hx hb dX5_add_42 rfl (lv_at hl 0 rfl) ?_
      refine gf_X5_21 C hP dX5_add_43 ?_
      refine lv_iload_n hx hb dX5_add_46 rfl (lv_at hl 3 rfl) ?_
      obtain ⟨tv9, etv9, hk⟩ := tr_okd hk
      rw [← etv9]
      obtain ⟨tg10, hk⟩ := tr_okg hk
      refine tr_ias C hP hS (ar_X_20 w) tg10 dX5_add_47 (fun H locs hP hS => ?_)
      refine tr_th hk hP (fun th11 hk hP => ?_)
      refine lv_aload_n hx hb dX5_add_48 rfl (lv_at hl 0 rfl) ?_
      refine lv_dup hx hb dX5_add_49 rfl ?_
      refine gf_X5_21 C hP dX5_add_50 ?_
      refine lv_iconst (v := 1) hx hb dX5_add_53 (by decide) ?_
      refine lv_iadd hx hb dX5_add_54 ?_
      refine pf_X5_21 C hP hS dX5_add_55 (fun H locs hP hS => ?_)
      refine tr_th hk hP (fun th12 hk hP => ?_)
      refine lv_iconst (v := 1) hx hb dX5_add_58 (by decide) ?_
      exact tr_zret C hP hS hr hlocks rfl (tr_okS (P := (fun o => o = (r0, h0))) hk) dX5_add_59
    · replace hk := tr_iff hk tc2
      refine lv_iconst (v := 0) hx hb dX5_add_16 (by decide) ?_
      exact tr_zret C hP hS hr hlocks rfl (tr_okS (P := (fun o => o = (r0, h0))) hk) dX5_add_17
abbrev r_X5_fits : Room := { frames := 2, cells := 0, slots := 0, locals := 44 }
set_option maxHeartbeats 4000000 in
set_option maxRecDepth 100000 in
theorem c_X5_fits (l : Launch) (w : tr_E) (tv901 : Int32) (tv902 : Int32) (h : tr_H) (r0 : Int32) (hk : f_X5_fits tv901 tv902 h = some r0) : Met l yX5_fits (Cond.code yX5_fits cX5_fits 6 (some .boolean) :: tr_T) r_X5_fits (va_Pc [.ref (tr_ad w 17), .ref (tr_ad w 24), .int tv901, .int tv902] (tr_Wo tr_X w h)) (tr_Qi tr_X w r0 h) 0 0 (tr_R tr_X w) := by
  refine tr_start (by decide) (Nat.le_refl _) ?_
  intro p e s m args below meth c C hr hlocks hargs hP
  have hx := C.1
  have hb := C.2.1
  have hS : va_S (tr_R tr_X w) s.heap s.heap [] := va_S.rf
  have hl := lv_entry ([.ref (tr_ad w 17), .ref (tr_ad w 24), .int tv901, .int tv902]) (n := 6) (Nat.le_of_ble_eq_true rfl)
  rw [lg_entry_eq]
  generalize (lg_sl ([.ref (tr_ad w 17), .ref (tr_ad w 24), .int tv901, .int tv902]) ++ List.replicate (6 - (lg_sl ([.ref (tr_ad w 17), .ref (tr_ad w 24), .int tv901, .int tv902])).length) Slot.unset).toArray = ls at hl ⊢
  have hl : lv_has ls 6 [(0, .ref (tr_ad w 17)), (1, .ref (tr_ad w 24)), (2, .int tv901), (3, .int tv902)] := hl
  replace hk : tr_ok (f_X5_fits tv901 tv902 h) (fun o => o = r0) := ⟨_, hk, rfl⟩
  unfold f_X5_fits at hk
  refine lv_iconst (v := 0) hx hb dX5_fits_0 (by decide) ?_
  refine lv_istore (lv' := [(4, .int 0), (0, .ref (tr_ad w 17)), (1, .ref (tr_ad w 24)), (2, .int tv901), (3, .int tv902)]) hx hb dX5_fits_1 hl (by decide) rfl (fun ls hl => ?_)
  have j88_3 : tr_ok (f_X5_fits_E88) (fun o => o = r0) → tr_Wd p l e r_X5_fits s m args below meth c (MQ below (tr_Qi tr_X w r0 h) args s 0 0 (tr_R tr_X w)) tr_X w 6 88 [] [] h := by
    intro  hk H locs ls hP hS hl
    unfold f_X5_fits_E88 at hk
    refine lv_iconst (v := 1) hx hb dX5_fits_88 (by decide) ?_
    exact tr_zret C hP hS hr hlocks rfl (congrArg (fun x => (x, h)) (tr_okS (P := (fun o => o = r0)) hk)) dX5_fits_89
  refine tr_loop (fun q => tr_Wd p l e r_X5_fits s m args below meth c (MQ below (tr_Qi tr_X w r0 h) args s 0 0 (tr_R tr_X w)) tr_X w 6 3 [(0, .ref (tr_ad w 17)), (1, .ref (tr_ad w 24)), (2, .int tv901), (3, .int tv902), (4, .int q)] [] h) hk ?_ _ _ _ hP hS (lv_sub hl [1, 2, 3, 4, 0] rfl)
  intro P3 hin3 hex3 q hk
  generalize q = tv1 at hk ⊢
  intro H locs ls hP hS hl
  replace hk : tr_ok (f_X5_fits_L3 h tv902 tv901 tv1) P3 := hk
  unfold f_X5_fits_L3 at hk
  refine lv_iload hx hb dX5_fits_3 (lv_at hl 4 rfl) ?_
  refine lv_aload_n hx hb dX5_fits_5 rfl (lv_at hl 0 rfl) ?_
  refine gf_X5_21 C hP dX5_fits_6 ?_
  refine lv_icmp_ge (tgt := 88) hx hb dX5_fits_9 (by decide) (fun tc2 => ?_) (fun tc2 => ?_)
  · replace hk := tr_ift hk tc2
    replace hk := hex3 _ (tr_okS hk)
    replace hk : tr_ok (f_X5_fits_E88) (fun o => o = r0) := hk
    exact j88_3 hk _ _ _ hP hS (lv_sub hl [] rfl)
  · replace hk := tr_iff hk tc2
    refine lv_iload hx hb dX5_fits_12 (lv_at hl 4 rfl) ?_
    refine lv_bipush (v := 6) hx hb dX5_fits_14 (by decide) ?_
    refine lv_icmp_ge (tgt := 88) hx hb dX5_fits_16 (by decide) (fun tc3 => ?_) (fun tc3 => ?_)
    · replace hk := tr_ift hk tc3
      replace hk := hex3 _ (tr_okS hk)
      replace hk : tr_ok (f_X5_fits_E88) (fun o => o = r0) := hk
      exact j88_3 hk _ _ _ hP hS (lv_sub hl [] rfl)
    · replace hk := tr_iff hk tc3
      refine lv_aload_n hx hb dX5_fits_19 rfl (lv_at hl 0 rfl) ?_
      refine gf_X5_9 C hP dX5_fits_20 ?_
      refine lv_iload hx hb dX5_fits_23 (lv_at hl 4 rfl) ?_
      obtain ⟨tg4, hk⟩ := tr_okg hk
      refine tr_ial C hP (ar_X_18 w) tg4 dX5_fits_25 ?_
      refine lv_iload_n hx hb dX5_fits_26 rfl (lv_at hl 3 rfl) ?_
      have j57 : ∀ (tv5 : Int32), tr_ok (f_X5_fits_J57 tv1 h tv5) P3 → tr_Wd p l e r_X5_fits s m args below meth c (MQ below (tr_Qi tr_X w r0 h) args s 0 0 (tr_R tr_X w)) tr_X w 6 57 [(0, .ref (tr_ad w 17)), (1, .ref (tr_ad w 24)), (2, .int tv901), (3, .int tv902), (4, .int tv1)] [.int tv5] h := by
        intro tv5 hk H locs ls hP hS hl
        unfold f_X5_fits_J57 at hk
        refine lv_istore (lv' := [(5, .int tv5), (0, .ref (tr_ad w 17)), (1, .ref (tr_ad w 24)), (2, .int tv901), (3, .int tv902), (4, .int tv1)]) hx hb dX5_fits_57 hl (by decide) rfl (fun ls hl => ?_)
        refine lv_iload hx hb dX5_fits_59 (lv_at hl 0 rfl) ?_
        refine lv_aload_n hx hb dX5_fits_61 rfl (lv_at hl 1 rfl) ?_
        refine gf_X5_18 C hP dX5_fits_62 ?_
        refine lv_iload hx hb dX5_fits_65 (lv_at hl 5 rfl) ?_
        obtain ⟨tg6, hk⟩ := tr_okg hk
        refine tr_ial C hP (ar_X_20 w) tg6 dX5_fits_67 ?_
        refine lv_iconst (v := 1) hx hb dX5_fits_68 (by decide) ?_
        have j77 : ∀ (tv7 : Int32), tr_ok (f_X5_fits_J77 tv5 tv1 tv7) P3 → tr_Wd p l e r_X5_fits s m args below meth c (MQ below (tr_Qi tr_X w r0 h) args s 0 0 (tr_R tr_X w)) tr_X w 6 77 [(0, .ref (tr_ad w 17)), (1, .ref (tr_ad w 24)), (2, .int tv901), (3, .int tv902), (4, .int tv1)] [.int tv7, .int tv5] h := by
          intro tv7 hk H locs ls hP hS hl
          unfold f_X5_fits_J77 at hk
          refine lv_icmp_eq (tgt := 82) hx hb dX5_fits_77 (by decide) (fun tc8 => ?_) (fun tc8 => ?_)
          · replace hk := tr_ift hk tc8
            obtain ⟨tv9, etv9, hk⟩ := tr_okd hk
            refine lv_iinc (v := tv9) (lv' := [(4, .int tv9), (0, .ref (tr_ad w 17)), (1, .ref (tr_ad w 24)), (2, .int tv901), (3, .int tv902)]) hx hb dX5_fits_82 hl (k := 4) rfl (by rw [etv9]; rfl) (by decide) rfl (fun ls hl => ?_)
            refine lv_goto (tgt := 3) hx hb dX5_fits_85 (by decide) ?_
            exact hin3 _ (tr_okS hk) _ _ _ hP hS (lv_sub hl [1, 2, 3, 4, 0] rfl)
          · replace hk := tr_iff hk tc8
            refine lv_iconst (v := 0) hx hb dX5_fits_80 (by decide) ?_
            replace hk := hex3 _ (tr_okS hk)
            replace hk : tr_ok (some 0) (fun o => o = r0) := hk
            exact tr_zret C hP hS hr hlocks rfl (congrArg (fun x => (x, h)) (tr_okS (P := (fun o => o = r0)) hk)) dX5_fits_81
        refine lv_icmp_ne (tgt := 76) hx hb dX5_fits_69 (by decide) (fun tc10 => ?_) (fun tc10 => ?_)
        · replace hk := tr_iff hk tc10
          refine lv_iconst (v := 0) hx hb dX5_fits_76 (by decide) ?_
          exact j77 0 hk _ _ _ hP hS (lv_sub hl [1, 2, 3, 4, 5] rfl)
        · replace hk := tr_ift hk tc10
          refine lv_iconst (v := 1) hx hb dX5_fits_72 (by decide) ?_
          refine lv_goto (tgt := 77) hx hb dX5_fits_73 (by decide) ?_
          exact j77 1 hk _ _ _ hP hS (lv_sub hl [1, 2, 3, 4, 5] rfl)
      have j56 : tr_ok (f_X5_fits_J56 tv1 h) P3 → tr_Wd p l e r_X5_fits s m args below meth c (MQ below (tr_Qi tr_X w r0 h) args s 0 0 (tr_R tr_X w)) tr_X w 6 56 [(0, .ref (tr_ad w 17)), (1, .ref (tr_ad w 24)), (2, .int tv901), (3, .int tv902), (4, .int tv1)] [] h := by
        intro  hk H locs ls hP hS hl
        unfold f_X5_fits_J56 at hk
        refine lv_iconst (v := 0) hx hb dX5_fits_56 (by decide) ?_
        exact j57 0 hk _ _ _ hP hS (lv_sub hl [0, 1, 2, 3, 4] rfl)
      refine lv_icmp_ge (tgt := 56) hx hb dX5_fits_27 (by decide) (fun tc11 => ?_) (fun tc11 => ?_)
      · replace hk := tr_ift hk tc11
        exact j56 hk _ _ _ hP hS (lv_sub hl [0, 1, 2, 3, 4] rfl)
      · replace hk := tr_iff hk tc11
        refine lv_aload_n hx hb dX5_fits_30 rfl (lv_at hl 1 rfl) ?_
        refine lv_iload_n hx hb dX5_fits_31 rfl (lv_at hl 2 rfl) ?_
        refine lv_aload_n hx hb dX5_fits_32 rfl (lv_at hl 0 rfl) ?_
        refine gf_X5_9 C hP dX5_fits_33 ?_
        refine lv_iload hx hb dX5_fits_36 (lv_at hl 4 rfl) ?_
        obtain ⟨tg12, hk⟩ := tr_okg hk
        refine tr_ial C hP (ar_X_18 w) tg12 dX5_fits_38 ?_
        refine lv_aload_n hx hb dX5_fits_39 rfl (lv_at hl 0 rfl) ?_
        refine gf_X5_15 C hP dX5_fits_40 ?_
        refine lv_iload hx hb dX5_fits_43 (lv_at hl 4 rfl) ?_
        obtain ⟨tg13, hk⟩ := tr_okg hk
        refine tr_ial C hP (ar_X_19 w) tg13 dX5_fits_45 ?_
        obtain ⟨tv15, tq14, hk⟩ := tr_okb hk
        refine tr_cvi (As := [.int tv901, .int (h.1 18 tv1.toNatClampNeg), .int (h.1 19 tv1.toNatClampNeg)]) (rest := []) C hP hS hl (c_X0_lateness l w tv901 (h.1 18 tv1.toNatClampNeg) (h.1 19 tv1.toNatClampNeg) h tv15 tq14) mz_X0_lateness ml_X5_25 (by decide) rfl rfl rfl rfl ⟨Nat.le_of_ble_eq_true rfl, Nat.le_of_ble_eq_true rfl⟩ rfl rfl (Nat.le_of_ble_eq_true rfl) ⟨Nat.le_refl _, Nat.le_refl _⟩ dX5_fits_46 (fun H locs hP hS => ?_)
        refine lv_if_le (tgt := 56) hx hb dX5_fits_49 (by decide) (fun tc16 => ?_) (fun tc16 => ?_)
        · replace hk := tr_ift hk tc16
          exact j56 hk _ _ _ hP hS (lv_sub hl [0, 1, 2, 3, 4] rfl)
        · replace hk := tr_iff hk tc16
          refine lv_iconst (v := 1) hx hb dX5_fits_52 (by decide) ?_
          refine lv_goto (tgt := 57) hx hb dX5_fits_53 (by decide) ?_
          exact j57 1 hk _ _ _ hP hS (lv_sub hl [0, 1, 2, 3, 4] rfl)
abbrev r_X6_longest : Room := { frames := 1, cells := 0, slots := 0, locals := 22 }
set_option maxHeartbeats 4000000 in
set_option maxRecDepth 100000 in
theorem c_X6_longest (l : Launch) (w : tr_E) (tn1 : Nat) (htn1 : tr_net tn1) (tv901 : Int32) (tv902 : Int32) (h : tr_H) (r0 : Int32) (hk : f_X6_longest tn1 tv901 tv902 h = some r0) : Met l yX6_longest (Cond.code yX6_longest cX6_longest 8 (some .int) :: tr_T) r_X6_longest (va_Pc [.ref (tr_ad w 21), .ref (tr_ad w tn1), .int tv901, .int tv902] (tr_Wo tr_X w h)) (tr_Qi tr_X w r0 h) 0 0 (tr_R tr_X w) := by
  refine tr_start (by decide) (Nat.le_refl _) ?_
  intro p e s m args below meth c C hr hlocks hargs hP
  have hx := C.1
  have hb := C.2.1
  have hS : va_S (tr_R tr_X w) s.heap s.heap [] := va_S.rf
  have hl := lv_entry ([.ref (tr_ad w 21), .ref (tr_ad w tn1), .int tv901, .int tv902]) (n := 8) (Nat.le_of_ble_eq_true rfl)
  rw [lg_entry_eq]
  generalize (lg_sl ([.ref (tr_ad w 21), .ref (tr_ad w tn1), .int tv901, .int tv902]) ++ List.replicate (8 - (lg_sl ([.ref (tr_ad w 21), .ref (tr_ad w tn1), .int tv901, .int tv902])).length) Slot.unset).toArray = ls at hl ⊢
  have hl : lv_has ls 8 [(0, .ref (tr_ad w 21)), (1, .ref (tr_ad w tn1)), (2, .int tv901), (3, .int tv902)] := hl
  replace hk : tr_ok (f_X6_longest tn1 tv901 tv902 h) (fun o => o = r0) := ⟨_, hk, rfl⟩
  unfold f_X6_longest at hk
  refine lv_iconst (v := (-1)) hx hb dX6_longest_0 (by decide) ?_
  refine lv_istore (lv' := [(4, .int (-1)), (0, .ref (tr_ad w 21)), (1, .ref (tr_ad w tn1)), (2, .int tv901), (3, .int tv902)]) hx hb dX6_longest_1 hl (by decide) rfl (fun ls hl => ?_)
  refine lv_iconst (v := 0) hx hb dX6_longest_3 (by decide) ?_
  refine lv_istore (lv' := [(5, .int 0), (4, .int (-1)), (0, .ref (tr_ad w 21)), (1, .ref (tr_ad w tn1)), (2, .int tv901), (3, .int tv902)]) hx hb dX6_longest_4 hl (by decide) rfl (fun ls hl => ?_)
  have j68_6 : ∀ (tv1 : Int32), tr_ok (f_X6_longest_E68 tv1) (fun o => o = r0) → tr_Wd p l e r_X6_longest s m args below meth c (MQ below (tr_Qi tr_X w r0 h) args s 0 0 (tr_R tr_X w)) tr_X w 8 68 [(4, .int tv1)] [] h := by
    intro tv1 hk H locs ls hP hS hl
    unfold f_X6_longest_E68 at hk
    refine lv_iload hx hb dX6_longest_68 (lv_at hl 0 rfl) ?_
    exact tr_iret C hP hS hr hlocks (congrArg (fun x => (x, h)) (tr_okS (P := (fun o => o = r0)) hk)) dX6_longest_70
  refine tr_loop (fun q => tr_Wd p l e r_X6_longest s m args below meth c (MQ below (tr_Qi tr_X w r0 h) args s 0 0 (tr_R tr_X w)) tr_X w 8 6 [(0, .ref (tr_ad w 21)), (1, .ref (tr_ad w tn1)), (2, .int tv901), (3, .int tv902), (4, .int q.1), (5, .int q.2)] [] h) hk ?_ _ _ _ hP hS (lv_sub hl [2, 3, 4, 5, 1, 0] rfl)
  intro P6 hin6 hex6 q hk
  obtain ⟨tv2, tv3⟩ := q
  intro H locs ls hP hS hl
  replace hk : tr_ok (f_X6_longest_L6 h tn1 tv901 tv902 tv2 tv3) P6 := hk
  unfold f_X6_longest_L6 at hk
  refine lv_iload hx hb dX6_longest_6 (lv_at hl 5 rfl) ?_
  refine lv_aload_n hx hb dX6_longest_8 rfl (lv_at hl 1 rfl) ?_
  refine gf_X6_22 htn1 C hP dX6_longest_9 ?_
  refine lv_icmp_ge (tgt := 68) hx hb dX6_longest_12 (by decide) (fun tc4 => ?_) (fun tc4 => ?_)
  · replace hk := tr_ift hk tc4
    replace hk := hex6 _ (tr_okS hk)
    replace hk : tr_ok (f_X6_longest_E68 tv2) (fun o => o = r0) := hk
    exact j68_6 tv2 hk _ _ _ hP hS (lv_sub hl [4] rfl)
  · replace hk := tr_iff hk tc4
    refine lv_aload_n hx hb dX6_longest_15 rfl (lv_at hl 0 rfl) ?_
    refine gf_X6_9 C hP dX6_longest_16 ?_
    refine lv_iload_n hx hb dX6_longest_19 rfl (lv_at hl 2 rfl) ?_
    refine lv_bipush (v := 6) hx hb dX6_longest_20 (by decide) ?_
    refine lv_imul hx hb dX6_longest_22 ?_
    refine lv_iload hx hb dX6_longest_23 (lv_at hl 5 rfl) ?_
    refine lv_iadd hx hb dX6_longest_25 ?_
    refine tr_ti hk (fun tv5 hk => ?_)
    obtain ⟨tg6, hk⟩ := tr_okg hk
    refine tr_ial C hP (ar_X_22 w) tg6 dX6_longest_26 ?_
    refine tr_ti hk (fun tv7 hk => ?_)
    refine lv_istore (lv' := [(6, .int tv7), (0, .ref (tr_ad w 21)), (1, .ref (tr_ad w tn1)), (2, .int tv901), (3, .int tv902), (4, .int tv2), (5, .int tv3)]) hx hb dX6_longest_27 hl (by decide) rfl (fun ls hl => ?_)
    refine lv_aload_n hx hb dX6_longest_29 rfl (lv_at hl 2 rfl) ?_
    refine lv_iload hx hb dX6_longest_30 (lv_at hl 6 rfl) ?_
    refine lv_iload_n hx hb dX6_longest_32 rfl (lv_at hl 4 rfl) ?_
    obtain ⟨tv9, tq8, hk⟩ := tr_okb hk
    refine tr_cvi (As := [.int tv3, .int tv902]) (rest := []) C hP hS hl (c_X2_of l w tn1 htn1 tv3 tv902 h tv9 tq8) mz_X2_of ml_X6_41 (tr_net_lt htn1) (tr_net_cx htn1 (tr_ad w) w.2.1 (h.1 tn1) (h.2 tn1)) rfl rfl rfl ⟨Nat.le_of_ble_eq_true rfl, Nat.le_of_ble_eq_true rfl⟩ rfl rfl (Nat.le_of_ble_eq_true rfl) ⟨Nat.le_refl _, Nat.le_refl _⟩ dX6_longest_33 (fun H locs hP hS => ?_)
    refine lv_istore (lv' := [(7, .int tv9), (6, .int tv7), (0, .ref (tr_ad w 21)), (1, .ref (tr_ad w tn1)), (2, .int tv901), (3, .int tv902), (4, .int tv2), (5, .int tv3)]) hx hb dX6_longest_36 hl (by decide) rfl (fun ls hl => ?_)
    refine lv_iload hx hb dX6_longest_38 (lv_at hl 1 rfl) ?_
    refine lv_if_lt (tgt := 62) hx hb dX6_longest_40 (by decide) (fun tc10 => ?_) (fun tc10 => ?_)
    · replace hk := tr_ift hk tc10
      obtain ⟨tv11, etv11, hk⟩ := tr_okd hk
      refine lv_iinc (v := tv11) (lv' := [(5, .int tv11), (7, .int tv9), (6, .int tv7), (0, .ref (tr_ad w 21)), (1, .ref (tr_ad w tn1)), (2, .int tv901), (3, .int tv902), (4, .int tv2)]) hx hb dX6_longest_62 hl (k := 7) rfl (by rw [etv11]; rfl) (by decide) rfl (fun ls hl => ?_)
      refine lv_goto (tgt := 6) hx hb dX6_longest_65 (by decide) ?_
      exact hin6 _ (tr_okS hk) _ _ _ hP hS (lv_sub hl [3, 4, 5, 6, 7, 0] rfl)
    · replace hk := tr_iff hk tc10
      refine lv_iload hx hb dX6_longest_43 (lv_at hl 0 rfl) ?_
      refine lv_bipush (v := (-9)) hx hb dX6_longest_45 (by decide) ?_
      refine lv_icmp_eq (tgt := 62) hx hb dX6_longest_47 (by decide) (fun tc12 => ?_) (fun tc12 => ?_)
      · replace hk := tr_ift hk tc12
        obtain ⟨tv13, etv13, hk⟩ := tr_okd hk
        refine lv_iinc (v := tv13) (lv' := [(5, .int tv13), (7, .int tv9), (6, .int tv7), (0, .ref (tr_ad w 21)), (1, .ref (tr_ad w tn1)), (2, .int tv901), (3, .int tv902), (4, .int tv2)]) hx hb dX6_longest_62 hl (k := 7) rfl (by rw [etv13]; rfl) (by decide) rfl (fun ls hl => ?_)
        refine lv_goto (tgt := 6) hx hb dX6_longest_65 (by decide) ?_
        exact hin6 _ (tr_okS hk) _ _ _ hP hS (lv_sub hl [3, 4, 5, 6, 7, 0] rfl)
      · replace hk := tr_iff hk tc12
        refine lv_iload hx hb dX6_longest_50 (lv_at hl 6 rfl) ?_
        refine lv_iload hx hb dX6_longest_52 (lv_at hl 1 rfl) ?_
        refine lv_iload hx hb dX6_longest_54 (lv_at hl 0 rfl) ?_
        refine lv_iadd hx hb dX6_longest_56 ?_
        refine tr_mx C hl ml_X6_36 ⟨Nat.le_of_ble_eq_true rfl, Nat.le_of_ble_eq_true rfl⟩ ⟨Nat.le_refl _, Nat.le_refl _⟩ dX6_longest_57 ?_
        refine tr_ti hk (fun tv14 hk => ?_)
        refine lv_istore (lv' := [(4, .int tv14), (7, .int tv9), (6, .int tv7), (0, .ref (tr_ad w 21)), (1, .ref (tr_ad w tn1)), (2, .int tv901), (3, .int tv902), (5, .int tv3)]) hx hb dX6_longest_60 hl (by decide) rfl (fun ls hl => ?_)
        obtain ⟨tv15, etv15, hk⟩ := tr_okd hk
        refine lv_iinc (v := tv15) (lv' := [(5, .int tv15), (4, .int tv14), (7, .int tv9), (6, .int tv7), (0, .ref (tr_ad w 21)), (1, .ref (tr_ad w tn1)), (2, .int tv901), (3, .int tv902)]) hx hb dX6_longest_62 hl (k := 7) rfl (by rw [etv15]; rfl) (by decide) rfl (fun ls hl => ?_)
        refine lv_goto (tgt := 6) hx hb dX6_longest_65 (by decide) ?_
        exact hin6 _ (tr_okS hk) _ _ _ hP hS (lv_sub hl [4, 5, 6, 7, 1, 0] rfl)
abbrev r_X6_leastMean : Room := { frames := 1, cells := 0, slots := 0, locals := 21 }
set_option maxHeartbeats 4000000 in
set_option maxRecDepth 100000 in
theorem c_X6_leastMean (l : Launch) (w : tr_E) (tv900 : Int32) (tv901 : Int32) (h : tr_H) (r0 : Int32) (hk : f_X6_leastMean tv900 tv901 h = some r0) : Met l yX6_leastMean (Cond.code yX6_leastMean cX6_leastMean 6 (some .int) :: tr_T) r_X6_leastMean (va_Pc [.ref (tr_ad w 21), .int tv900, .int tv901] (tr_Wo tr_X w h)) (tr_Qi tr_X w r0 h) 0 0 (tr_R tr_X w) := by
  refine tr_start (by decide) (Nat.le_refl _) ?_
  intro p e s m args below meth c C hr hlocks hargs hP
  have hx := C.1
  have hb := C.2.1
  have hS : va_S (tr_R tr_X w) s.heap s.heap [] := va_S.rf
  have hl := lv_entry ([.ref (tr_ad w 21), .int tv900, .int tv901]) (n := 6) (Nat.le_of_ble_eq_true rfl)
  rw [lg_entry_eq]
  generalize (lg_sl ([.ref (tr_ad w 21), .int tv900, .int tv901]) ++ List.replicate (6 - (lg_sl ([.ref (tr_ad w 21), .int tv900, .int tv901])).length) Slot.unset).toArray = ls at hl ⊢
  have hl : lv_has ls 6 [(0, .ref (tr_ad w 21)), (1, .int tv900), (2, .int tv901)] := hl
  replace hk : tr_ok (f_X6_leastMean tv900 tv901 h) (fun o => o = r0) := ⟨_, hk, rfl⟩
  unfold f_X6_leastMean at hk
  refine lv_aload_n hx hb dX6_leastMean_0 rfl (lv_at hl 0 rfl) ?_
  refine gf_X6_9 C hP dX6_leastMean_1 ?_
  refine lv_iload_n hx hb dX6_leastMean_4 rfl (lv_at hl 1 rfl) ?_
  refine lv_bipush (v := 6) hx hb dX6_leastMean_5 (by decide) ?_
  refine lv_imul hx hb dX6_leastMean_7 ?_
  refine lv_iload_n hx hb dX6_leastMean_8 rfl (lv_at hl 2 rfl) ?_
  refine lv_iadd hx hb dX6_leastMean_9 ?_
  refine tr_ti hk (fun tv1 hk => ?_)
  obtain ⟨tg2, hk⟩ := tr_okg hk
  refine tr_ial C hP (ar_X_22 w) tg2 dX6_leastMean_10 ?_
  refine tr_ti hk (fun tv3 hk => ?_)
  refine lv_istore_n (lv' := [(3, .int tv3), (0, .ref (tr_ad w 21)), (1, .int tv900), (2, .int tv901)]) hx hb dX6_leastMean_11 rfl hl (by decide) rfl (fun ls hl => ?_)
  refine lv_iload_n hx hb dX6_leastMean_12 rfl (lv_at hl 0 rfl) ?_
  refine lv_if_ge (tgt := 18) hx hb dX6_leastMean_13 (by decide) (fun tc4 => ?_) (fun tc4 => ?_)
  · replace hk := tr_ift hk tc4
    refine lv_ldc (v := 1000000) hx hb C.2.2.2.1 (C.2.2.2.2.1 _ mc_X6_44) dX6_leastMean_18 ?_
    refine lv_istore (lv' := [(4, .int 1000000), (3, .int tv3), (0, .ref (tr_ad w 21)), (1, .int tv900), (2, .int tv901)]) hx hb dX6_leastMean_20 hl (by decide) rfl (fun ls hl => ?_)
    refine lv_iconst (v := 0) hx hb dX6_leastMean_22 (by decide) ?_
    refine lv_istore (lv' := [(5, .int 0), (4, .int 1000000), (3, .int tv3), (0, .ref (tr_ad w 21)), (1, .int tv900), (2, .int tv901)]) hx hb dX6_leastMean_23 hl (by decide) rfl (fun ls hl => ?_)
    have j67_25 : ∀ (tv5 : Int32), tr_ok (f_X6_leastMean_E67 tv5) (fun o => o = r0) → tr_Wd p l e r_X6_leastMean s m args below meth c (MQ below (tr_Qi tr_X w r0 h) args s 0 0 (tr_R tr_X w)) tr_X w 6 67 [(4, .int tv5)] [] h := by
      intro tv5 hk H locs ls hP hS hl
      unfold f_X6_leastMean_E67 at hk
      refine lv_iload hx hb dX6_leastMean_67 (lv_at hl 0 rfl) ?_
      exact tr_iret C hP hS hr hlocks (congrArg (fun x => (x, h)) (tr_okS (P := (fun o => o = r0)) hk)) dX6_leastMean_69
    refine tr_loop (fun q => tr_Wd p l e r_X6_leastMean s m args below meth c (MQ below (tr_Qi tr_X w r0 h) args s 0 0 (tr_R tr_X w)) tr_X w 6 25 [(0, .ref (tr_ad w 21)), (1, .int tv900), (2, .int tv901), (3, .int tv3), (4, .int q.1), (5, .int q.2)] [] h) hk ?_ _ _ _ hP hS (lv_sub hl [3, 4, 5, 2, 1, 0] rfl)
    intro P25 hin25 hex25 q hk
    obtain ⟨tv6, tv7⟩ := q
    intro H locs ls hP hS hl
    replace hk : tr_ok (f_X6_leastMean_L25 tv900 tv901 tv3 h tv6 tv7) P25 := hk
    unfold f_X6_leastMean_L25 at hk
    refine lv_iload hx hb dX6_leastMean_25 (lv_at hl 5 rfl) ?_
    refine lv_iload_n hx hb dX6_leastMean_27 rfl (lv_at hl 1 rfl) ?_
    refine lv_icmp_ge (tgt := 67) hx hb dX6_leastMean_28 (by decide) (fun tc8 => ?_) (fun tc8 => ?_)
    · replace hk := tr_ift hk tc8
      replace hk := hex25 _ (tr_okS hk)
      replace hk : tr_ok (f_X6_leastMean_E67 tv6) (fun o => o = r0) := hk
      exact j67_25 tv6 hk _ _ _ hP hS (lv_sub hl [4] rfl)
    · replace hk := tr_iff hk tc8
      refine lv_iload hx hb dX6_leastMean_31 (lv_at hl 4 rfl) ?_
      refine lv_iload_n hx hb dX6_leastMean_33 rfl (lv_at hl 3 rfl) ?_
      refine lv_aload_n hx hb dX6_leastMean_34 rfl (lv_at hl 0 rfl) ?_
      refine gf_X6_9 C hP dX6_leastMean_35 ?_
      refine lv_iload hx hb dX6_leastMean_38 (lv_at hl 5 rfl) ?_
      refine lv_bipush (v := 6) hx hb dX6_leastMean_40 (by decide) ?_
      refine lv_imul hx hb dX6_leastMean_42 ?_
      refine lv_iload_n hx hb dX6_leastMean_43 rfl (lv_at hl 2 rfl) ?_
      refine lv_iadd hx hb dX6_leastMean_44 ?_
      refine tr_ti hk (fun tv9 hk => ?_)
      obtain ⟨tg10, hk⟩ := tr_okg hk
      refine tr_ial C hP (ar_X_22 w) tg10 dX6_leastMean_45 ?_
      refine lv_isub hx hb dX6_leastMean_46 ?_
      refine gs_X6_45 C hS dX6_leastMean_47 ?_
      refine lv_iload_n hx hb dX6_leastMean_50 rfl (lv_at hl 1 rfl) ?_
      refine lv_iload hx hb dX6_leastMean_51 (lv_at hl 5 rfl) ?_
      refine lv_isub hx hb dX6_leastMean_53 ?_
      refine tr_ti hk (fun tv11 hk => ?_)
      obtain ⟨tg12, hk⟩ := tr_okg hk
      refine tr_s0 C hS tg12 dX6_leastMean_54 ?_
      refine lv_imul hx hb dX6_leastMean_55 ?_
      refine tr_mn C hl ml_X6_48 ⟨Nat.le_of_ble_eq_true rfl, Nat.le_of_ble_eq_true rfl⟩ ⟨Nat.le_refl _, Nat.le_refl _⟩ dX6_leastMean_56 ?_
      refine tr_ti hk (fun tv13 hk => ?_)
      refine lv_istore (lv' := [(4, .int tv13), (0, .ref (tr_ad w 21)), (1, .int tv900), (2, .int tv901), (3, .int tv3), (5, .int tv7)]) hx hb dX6_leastMean_59 hl (by decide) rfl (fun ls hl => ?_)
      obtain ⟨tv14, etv14, hk⟩ := tr_okd hk
      refine lv_iinc (v := tv14) (lv' := [(5, .int tv14), (4, .int tv13), (0, .ref (tr_ad w 21)), (1, .int tv900), (2, .int tv901), (3, .int tv3)]) hx hb dX6_leastMean_61 hl (k := 5) rfl (by rw [etv14]; rfl) (by decide) rfl (fun ls hl => ?_)
      refine lv_goto (tgt := 25) hx hb dX6_leastMean_64 (by decide) ?_
      exact hin25 _ (tr_okS hk) _ _ _ hP hS (lv_sub hl [2, 3, 4, 5, 1, 0] rfl)
  · replace hk := tr_iff hk tc4
    refine lv_iconst (v := (-1)) hx hb dX6_leastMean_16 (by decide) ?_
    exact tr_iret C hP hS hr hlocks (congrArg (fun x => (x, h)) (tr_okS (P := (fun o => o = r0)) hk)) dX6_leastMean_17
abbrev r_X6_slowest : Room := { frames := 2, cells := 0, slots := 0, locals := 49 }
set_option maxHeartbeats 4000000 in
set_option maxRecDepth 100000 in
theorem c_X6_slowest (l : Launch) (w : tr_E) (tn1 : Nat) (htn1 : tr_net tn1) (h : tr_H) (r0 : Int32) (h0 : tr_H) (hk : f_X6_slowest tn1 h = some (r0, h0)) : Met l yX6_slowest (Cond.code yX6_slowest cX6_slowest 4 (some .int) :: tr_T) r_X6_slowest (va_Pc [.ref (tr_ad w 21), .ref (tr_ad w tn1)] (tr_Wo tr_X w h)) (tr_Qi tr_X w r0 h0) 0 0 (tr_R tr_X w) := by
  refine tr_start (by decide) (Nat.le_refl _) ?_
  intro p e s m args below meth c C hr hlocks hargs hP
  have hx := C.1
  have hb := C.2.1
  have hS : va_S (tr_R tr_X w) s.heap s.heap [] := va_S.rf
  have hl := lv_entry ([.ref (tr_ad w 21), .ref (tr_ad w tn1)]) (n := 4) (Nat.le_of_ble_eq_true rfl)
  rw [lg_entry_eq]
  generalize (lg_sl ([.ref (tr_ad w 21), .ref (tr_ad w tn1)]) ++ List.replicate (4 - (lg_sl ([.ref (tr_ad w 21), .ref (tr_ad w tn1)])).length) Slot.unset).toArray = ls at hl ⊢
  have hl : lv_has ls 4 [(0, .ref (tr_ad w 21)), (1, .ref (tr_ad w tn1))] := hl
  replace hk : tr_ok (f_X6_slowest tn1 h) (fun o => o = (r0, h0)) := ⟨_, hk, rfl⟩
  unfold f_X6_slowest at hk
  refine lv_iconst (v := 0) hx hb dX6_slowest_0 (by decide) ?_
  refine lv_istore_n (lv' := [(2, .int 0), (0, .ref (tr_ad w 21)), (1, .ref (tr_ad w tn1))]) hx hb dX6_slowest_1 rfl hl (by decide) rfl (fun ls hl => ?_)
  have j23_2 : ∀ (th1 : tr_H), tr_ok (f_X6_slowest_E23 tn1 th1) (fun o => o = (r0, h0)) → tr_Wd p l e r_X6_slowest s m args below meth c (MQ below (tr_Qi tr_X w r0 h0) args s 0 0 (tr_R tr_X w)) tr_X w 4 23 [(0, .ref (tr_ad w 21)), (1, .ref (tr_ad w tn1))] [] th1 := by
    intro th1 hk H locs ls hP hS hl
    unfold f_X6_slowest_E23 at hk
    refine lv_iconst (v := 1) hx hb dX6_slowest_23 (by decide) ?_
    refine lv_istore_n (lv' := [(2, .int 1), (0, .ref (tr_ad w 21)), (1, .ref (tr_ad w tn1))]) hx hb dX6_slowest_24 rfl hl (by decide) rfl (fun ls hl => ?_)
    have j75_25 : ∀ (th2 : tr_H), tr_ok (f_X6_slowest_E75 tn1 th2) (fun o => o = (r0, h0)) → tr_Wd p l e r_X6_slowest s m args below meth c (MQ below (tr_Qi tr_X w r0 h0) args s 0 0 (tr_R tr_X w)) tr_X w 4 75 [(0, .ref (tr_ad w 21)), (1, .ref (tr_ad w tn1))] [] th2 := by
      intro th2 hk H locs ls hP hS hl
      unfold f_X6_slowest_E75 at hk
      refine lv_iconst (v := (-1)) hx hb dX6_slowest_75 (by decide) ?_
      refine lv_istore_n (lv' := [(2, .int (-1)), (0, .ref (tr_ad w 21)), (1, .ref (tr_ad w tn1))]) hx hb dX6_slowest_76 rfl hl (by decide) rfl (fun ls hl => ?_)
      refine lv_iconst (v := 0) hx hb dX6_slowest_77 (by decide) ?_
      refine lv_istore_n (lv' := [(3, .int 0), (2, .int (-1)), (0, .ref (tr_ad w 21)), (1, .ref (tr_ad w tn1))]) hx hb dX6_slowest_78 rfl hl (by decide) rfl (fun ls hl => ?_)
      have j107_79 : ∀ (tv3 : Int32), tr_ok (f_X6_slowest_E107 th2 tv3) (fun o => o = (r0, h0)) → tr_Wd p l e r_X6_slowest s m args below meth c (MQ below (tr_Qi tr_X w r0 h0) args s 0 0 (tr_R tr_X w)) tr_X w 4 107 [(2, .int tv3)] [] th2 := by
        intro tv3 hk H locs ls hP hS hl
        unfold f_X6_slowest_E107 at hk
        refine lv_iload_n hx hb dX6_slowest_107 rfl (lv_at hl 0 rfl) ?_
        exact tr_iret C hP hS hr hlocks (tr_okS (P := (fun o => o = (r0, h0))) hk) dX6_slowest_108
      refine tr_loop (fun q => tr_Wd p l e r_X6_slowest s m args below meth c (MQ below (tr_Qi tr_X w r0 h0) args s 0 0 (tr_R tr_X w)) tr_X w 4 79 [(0, .ref (tr_ad w 21)), (1, .ref (tr_ad w tn1)), (2, .int q.1), (3, .int q.2)] [] th2) hk ?_ _ _ _ hP hS (lv_sub hl [2, 3, 1, 0] rfl)
      intro P79 hin79 hex79 q hk
      obtain ⟨tv4, tv5⟩ := q
      intro H locs ls hP hS hl
      replace hk : tr_ok (f_X6_slowest_L79 th2 tn1 tv4 tv5) P79 := hk
      unfold f_X6_slowest_L79 at hk
      refine lv_iload_n hx hb dX6_slowest_79 rfl (lv_at hl 3 rfl) ?_
      refine lv_aload_n hx hb dX6_slowest_80 rfl (lv_at hl 1 rfl) ?_
      refine gf_X6_22 htn1 C hP dX6_slowest_81 ?_
      refine lv_icmp_ge (tgt := 107) hx hb dX6_slowest_84 (by decide) (fun tc6 => ?_) (fun tc6 => ?_)
      · replace hk := tr_ift hk tc6
        replace hk := hex79 _ (tr_okS hk)
        replace hk : tr_ok (f_X6_slowest_E107 th2 tv4) (fun o => o = (r0, h0)) := hk
        exact j107_79 tv4 hk _ _ _ hP hS (lv_sub hl [2] rfl)
      · replace hk := tr_iff hk tc6
        refine lv_iload_n hx hb dX6_slowest_87 rfl (lv_at hl 2 rfl) ?_
        refine lv_aload_n hx hb dX6_slowest_88 rfl (lv_at hl 0 rfl) ?_
        refine lv_aload_n hx hb dX6_slowest_89 rfl (lv_at hl 1 rfl) ?_
        refine gf_X6_22 htn1 C hP dX6_slowest_90 ?_
        refine lv_iload_n hx hb dX6_slowest_93 rfl (lv_at hl 3 rfl) ?_
        obtain ⟨tv8, tq7, hk⟩ := tr_okb hk
        refine tr_cvi (As := [.int (th2.1 tn1 1), .int tv5]) (rest := [.int tv4]) C hP hS hl (c_X6_leastMean l w (th2.1 tn1 1) tv5 th2 tv8 tq7) mz_X6_leastMean ml_X6_32 (by decide) rfl rfl rfl rfl ⟨Nat.le_of_ble_eq_true rfl, Nat.le_of_ble_eq_true rfl⟩ rfl rfl (Nat.le_of_ble_eq_true rfl) ⟨Nat.le_refl _, Nat.le_refl _⟩ dX6_slowest_94 (fun H locs hP hS => ?_)
        refine tr_mx C hl ml_X6_36 ⟨Nat.le_of_ble_eq_true rfl, Nat.le_of_ble_eq_true rfl⟩ ⟨Nat.le_refl _, Nat.le_refl _⟩ dX6_slowest_97 ?_
        refine tr_ti hk (fun tv9 hk => ?_)
        refine lv_istore_n (lv' := [(2, .int tv9), (0, .ref (tr_ad w 21)), (1, .ref (tr_ad w tn1)), (3, .int tv5)]) hx hb dX6_slowest_100 rfl hl (by decide) rfl (fun ls hl => ?_)
        obtain ⟨tv10, etv10, hk⟩ := tr_okd hk
        refine lv_iinc (v := tv10) (lv' := [(3, .int tv10), (2, .int tv9), (0, .ref (tr_ad w 21)), (1, .ref (tr_ad w tn1))]) hx hb dX6_slowest_101 hl (k := 3) rfl (by rw [etv10]; rfl) (by decide) rfl (fun ls hl => ?_)
        refine lv_goto (tgt := 79) hx hb dX6_slowest_104 (by decide) ?_
        exact hin79 _ (tr_okS hk) _ _ _ hP hS (lv_sub hl [2, 3, 1, 0] rfl)
    refine tr_loop (fun q => tr_Wd p l e r_X6_slowest s m args below meth c (MQ below (tr_Qi tr_X w r0 h0) args s 0 0 (tr_R tr_X w)) tr_X w 4 25 [(0, .ref (tr_ad w 21)), (1, .ref (tr_ad w tn1)), (2, .int q.1)] [] q.2) hk ?_ _ _ _ hP hS (lv_sub hl [1, 2, 0] rfl)
    intro P25 hin25 hex25 q hk
    obtain ⟨tv11, th12⟩ := q
    intro H locs ls hP hS hl
    replace hk : tr_ok (f_X6_slowest_L25 tn1 tv11 th12) P25 := hk
    unfold f_X6_slowest_L25 at hk
    refine lv_iload_n hx hb dX6_slowest_25 rfl (lv_at hl 2 rfl) ?_
    refine lv_aload_n hx hb dX6_slowest_26 rfl (lv_at hl 1 rfl) ?_
    refine gf_X6_22 htn1 C hP dX6_slowest_27 ?_
    refine lv_icmp_gt (tgt := 75) hx hb dX6_slowest_30 (by decide) (fun tc13 => ?_) (fun tc13 => ?_)
    · replace hk := tr_ift hk tc13
      replace hk := hex25 _ (tr_okS hk)
      replace hk : tr_ok (f_X6_slowest_E75 tn1 th12) (fun o => o = (r0, h0)) := hk
      exact j75_25 th12 hk _ _ _ hP hS (lv_sub hl [0, 1] rfl)
    · replace hk := tr_iff hk tc13
      refine lv_iconst (v := 0) hx hb dX6_slowest_33 (by decide) ?_
      refine lv_istore_n (lv' := [(3, .int 0), (0, .ref (tr_ad w 21)), (1, .ref (tr_ad w tn1)), (2, .int tv11)]) hx hb dX6_slowest_34 rfl hl (by decide) rfl (fun ls hl => ?_)
      have j69_35 : ∀ (th14 : tr_H), tr_ok (f_X6_slowest_E69 tv11 th14) P25 → tr_Wd p l e r_X6_slowest s m args below meth c (MQ below (tr_Qi tr_X w r0 h0) args s 0 0 (tr_R tr_X w)) tr_X w 4 69 [(0, .ref (tr_ad w 21)), (1, .ref (tr_ad w tn1)), (2, .int tv11)] [] th14 := by
        intro th14 hk H locs ls hP hS hl
        unfold f_X6_slowest_E69 at hk
        obtain ⟨tv15, etv15, hk⟩ := tr_okd hk
        refine lv_iinc (v := tv15) (lv' := [(2, .int tv15), (0, .ref (tr_ad w 21)), (1, .ref (tr_ad w tn1))]) hx hb dX6_slowest_69 hl (k := 2) rfl (by rw [etv15]; rfl) (by decide) rfl (fun ls hl => ?_)
        refine lv_goto (tgt := 25) hx hb dX6_slowest_72 (by decide) ?_
        exact hin25 _ (tr_okS hk) _ _ _ hP hS (lv_sub hl [1, 2, 0] rfl)
      refine tr_loop (fun q => tr_Wd p l e r_X6_slowest s m args below meth c (MQ below (tr_Qi tr_X w r0 h0) args s 0 0 (tr_R tr_X w)) tr_X w 4 35 [(0, .ref (tr_ad w 21)), (1, .ref (tr_ad w tn1)), (2, .int tv11), (3, .int q.1)] [] q.2) hk ?_ _ _ _ hP hS (lv_sub hl [1, 2, 3, 0] rfl)
      intro P35 hin35 hex35 q hk
      obtain ⟨tv16, th17⟩ := q
      intro H locs ls hP hS hl
      replace hk : tr_ok (f_X6_slowest_L35 tn1 tv11 tv16 th17) P35 := hk
      unfold f_X6_slowest_L35 at hk
      refine lv_iload_n hx hb dX6_slowest_35 rfl (lv_at hl 3 rfl) ?_
      refine lv_aload_n hx hb dX6_slowest_36 rfl (lv_at hl 1 rfl) ?_
      refine gf_X6_22 htn1 C hP dX6_slowest_37 ?_
      refine lv_icmp_ge (tgt := 69) hx hb dX6_slowest_40 (by decide) (fun tc18 => ?_) (fun tc18 => ?_)
      · replace hk := tr_ift hk tc18
        replace hk := hex35 _ (tr_okS hk)
        replace hk : tr_ok (f_X6_slowest_E69 tv11 th17) P25 := hk
        exact j69_35 th17 hk _ _ _ hP hS (lv_sub hl [0, 1, 2] rfl)
      · replace hk := tr_iff hk tc18
        refine lv_aload_n hx hb dX6_slowest_43 rfl (lv_at hl 0 rfl) ?_
        refine gf_X6_9 C hP dX6_slowest_44 ?_
        refine lv_iload_n hx hb dX6_slowest_47 rfl (lv_at hl 2 rfl) ?_
        refine lv_bipush (v := 6) hx hb dX6_slowest_48 (by decide) ?_
        refine lv_imul hx hb dX6_slowest_50 ?_
        refine lv_iload_n hx hb dX6_slowest_51 rfl (lv_at hl 3 rfl) ?_
        refine lv_iadd hx hb dX6_slowest_52 ?_
        refine lv_aload_n hx hb dX6_slowest_53 rfl (lv_at hl 0 rfl) ?_
        refine lv_aload_n hx hb dX6_slowest_54 rfl (lv_at hl 1 rfl) ?_
        refine lv_iload_n hx hb dX6_slowest_55 rfl (lv_at hl 2 rfl) ?_
        refine lv_iconst (v := 1) hx hb dX6_slowest_56 (by decide) ?_
        refine lv_isub hx hb dX6_slowest_57 ?_
        refine lv_iload_n hx hb dX6_slowest_58 rfl (lv_at hl 3 rfl) ?_
        obtain ⟨tv20, tq19, hk⟩ := tr_okb hk
        refine tr_cvi (As := [.ref (tr_ad w tn1), .int (tv11 - 1), .int tv16]) (rest := [.int ((tv11 * 6) + tv16), .ref (tr_ad w 22)]) C hP hS hl (c_X6_longest l w tn1 htn1 (tv11 - 1) tv16 th17 tv20 tq19) mz_X6_longest ml_X6_28 (by decide) rfl rfl rfl rfl ⟨Nat.le_of_ble_eq_true rfl, Nat.le_of_ble_eq_true rfl⟩ rfl rfl (Nat.le_of_ble_eq_true rfl) ⟨Nat.le_refl _, Nat.le_refl _⟩ dX6_slowest_59 (fun H locs hP hS => ?_)
        obtain ⟨tv21, etv21, hk⟩ := tr_okd hk
        rw [← etv21]
        obtain ⟨tg22, hk⟩ := tr_okg hk
        refine tr_ias C hP hS (ar_X_22 w) tg22 dX6_slowest_62 (fun H locs hP hS => ?_)
        refine tr_th hk hP (fun th23 hk hP => ?_)
        obtain ⟨tv24, etv24, hk⟩ := tr_okd hk
        refine lv_iinc (v := tv24) (lv' := [(3, .int tv24), (0, .ref (tr_ad w 21)), (1, .ref (tr_ad w tn1)), (2, .int tv11)]) hx hb dX6_slowest_63 hl (k := 3) rfl (by rw [etv24]; rfl) (by decide) rfl (fun ls hl => ?_)
        refine lv_goto (tgt := 35) hx hb dX6_slowest_66 (by decide) ?_
        exact hin35 _ (tr_okS hk) _ _ _ hP hS (lv_sub hl [1, 2, 3, 0] rfl)
  refine tr_loop (fun q => tr_Wd p l e r_X6_slowest s m args below meth c (MQ below (tr_Qi tr_X w r0 h0) args s 0 0 (tr_R tr_X w)) tr_X w 4 2 [(0, .ref (tr_ad w 21)), (1, .ref (tr_ad w tn1)), (2, .int q.1)] [] q.2) hk ?_ _ _ _ hP hS (lv_sub hl [1, 2, 0] rfl)
  intro P2 hin2 hex2 q hk
  obtain ⟨tv25, th26⟩ := q
  intro H locs ls hP hS hl
  replace hk : tr_ok (f_X6_slowest_L2 tn1 tv25 th26) P2 := hk
  unfold f_X6_slowest_L2 at hk
  refine lv_iload_n hx hb dX6_slowest_2 rfl (lv_at hl 2 rfl) ?_
  refine lv_aload_n hx hb dX6_slowest_3 rfl (lv_at hl 1 rfl) ?_
  refine gf_X6_22 htn1 C hP dX6_slowest_4 ?_
  refine lv_icmp_ge (tgt := 23) hx hb dX6_slowest_7 (by decide) (fun tc27 => ?_) (fun tc27 => ?_)
  · replace hk := tr_ift hk tc27
    replace hk := hex2 _ (tr_okS hk)
    replace hk : tr_ok (f_X6_slowest_E23 tn1 th26) (fun o => o = (r0, h0)) := hk
    exact j23_2 th26 hk _ _ _ hP hS (lv_sub hl [0, 1] rfl)
  · replace hk := tr_iff hk tc27
    refine lv_aload_n hx hb dX6_slowest_10 rfl (lv_at hl 0 rfl) ?_
    refine gf_X6_9 C hP dX6_slowest_11 ?_
    refine lv_iload_n hx hb dX6_slowest_14 rfl (lv_at hl 2 rfl) ?_
    refine lv_iconst (v := 0) hx hb dX6_slowest_15 (by decide) ?_
    obtain ⟨tg28, hk⟩ := tr_okg hk
    refine tr_ias C hP hS (ar_X_22 w) tg28 dX6_slowest_16 (fun H locs hP hS => ?_)
    refine tr_th hk hP (fun th29 hk hP => ?_)
    obtain ⟨tv30, etv30, hk⟩ := tr_okd hk
    refine lv_iinc (v := tv30) (lv' := [(2, .int tv30), (0, .ref (tr_ad w 21)), (1, .ref (tr_ad w tn1))]) hx hb dX6_slowest_17 hl (k := 2) rfl (by rw [etv30]; rfl) (by decide) rfl (fun ls hl => ?_)
    refine lv_goto (tgt := 2) hx hb dX6_slowest_20 (by decide) ?_
    exact hin2 _ (tr_okS hk) _ _ _ hP hS (lv_sub hl [1, 2, 0] rfl)
abbrev r_X6_isKept : Room := { frames := 3, cells := 0, slots := 0, locals := 72 }
set_option maxHeartbeats 4000000 in
set_option maxRecDepth 100000 in
theorem c_X6_isKept (l : Launch) (w : tr_E) (tn1 : Nat) (htn1 : tr_net tn1) (tv901 : Int32) (h : tr_H) (r0 : Int32) (h0 : tr_H) (hk : f_X6_isKept tn1 tv901 h = some (r0, h0)) : Met l yX6_isKept (Cond.code yX6_isKept cX6_isKept 3 (some .boolean) :: tr_T) r_X6_isKept (va_Pc [.ref (tr_ad w 21), .ref (tr_ad w tn1), .int tv901] (tr_Wo tr_X w h)) (tr_Qi tr_X w r0 h0) 0 0 (tr_R tr_X w) := by
  refine tr_start (by decide) (Nat.le_refl _) ?_
  intro p e s m args below meth c C hr hlocks hargs hP
  have hx := C.1
  have hb := C.2.1
  have hS : va_S (tr_R tr_X w) s.heap s.heap [] := va_S.rf
  have hl := lv_entry ([.ref (tr_ad w 21), .ref (tr_ad w tn1), .int tv901]) (n := 3) (Nat.le_of_ble_eq_true rfl)
  rw [lg_entry_eq]
  generalize (lg_sl ([.ref (tr_ad w 21), .ref (tr_ad w tn1), .int tv901]) ++ List.replicate (3 - (lg_sl ([.ref (tr_ad w 21), .ref (tr_ad w tn1), .int tv901])).length) Slot.unset).toArray = ls at hl ⊢
  have hl : lv_has ls 3 [(0, .ref (tr_ad w 21)), (1, .ref (tr_ad w tn1)), (2, .int tv901)] := hl
  replace hk : tr_ok (f_X6_isKept tn1 tv901 h) (fun o => o = (r0, h0)) := ⟨_, hk, rfl⟩
  unfold f_X6_isKept at hk
  refine lv_aload_n hx hb dX6_isKept_0 rfl (lv_at hl 0 rfl) ?_
  refine lv_aload_n hx hb dX6_isKept_1 rfl (lv_at hl 1 rfl) ?_
  obtain ⟨tv2, th3, tq1, hk⟩ := tr_okb2 hk
  refine tr_cvi (As := [.ref (tr_ad w tn1)]) (rest := []) C hP hS hl (c_X6_slowest l w tn1 htn1 h tv2 th3 tq1) mz_X6_slowest ml_X6_18 (by decide) rfl rfl rfl rfl ⟨Nat.le_of_ble_eq_true rfl, Nat.le_of_ble_eq_true rfl⟩ rfl rfl (Nat.le_of_ble_eq_true rfl) ⟨Nat.le_refl _, Nat.le_refl _⟩ dX6_isKept_2 (fun H locs hP hS => ?_)
  refine lv_bipush (v := 60) hx hb dX6_isKept_5 (by decide) ?_
  refine lv_iload_n hx hb dX6_isKept_7 rfl (lv_at hl 2 rfl) ?_
  refine lv_imul hx hb dX6_isKept_8 ?_
  refine lv_icmp_gt (tgt := 16) hx hb dX6_isKept_9 (by decide) (fun tc4 => ?_) (fun tc4 => ?_)
  · replace hk := tr_ift hk tc4
    refine lv_iconst (v := 0) hx hb dX6_isKept_16 (by decide) ?_
    exact tr_zret C hP hS hr hlocks rfl (tr_okS (P := (fun o => o = (r0, h0))) hk) dX6_isKept_17
  · replace hk := tr_iff hk tc4
    refine lv_iconst (v := 1) hx hb dX6_isKept_12 (by decide) ?_
    refine lv_goto (tgt := 17) hx hb dX6_isKept_13 (by decide) ?_
    exact tr_zret C hP hS hr hlocks rfl (tr_okS (P := (fun o => o = (r0, h0))) hk) dX6_isKept_17
abbrev r_X6_gainOf : Room := { frames := 1, cells := 0, slots := 0, locals := 22 }
set_option maxHeartbeats 4000000 in
set_option maxRecDepth 100000 in
theorem c_X6_gainOf (l : Launch) (w : tr_E) (tn1 : Nat) (htn1 : tr_net tn1) (tv901 : Int32) (tv902 : Int32) (h : tr_H) (r0 : Int32) (hk : f_X6_gainOf tn1 tv901 tv902 h = some r0) : Met l yX6_gainOf (Cond.code yX6_gainOf cX6_gainOf 5 (some .int) :: tr_T) r_X6_gainOf (va_Pc [.ref (tr_ad w 21), .ref (tr_ad w tn1), .int tv901, .int tv902] (tr_Wo tr_X w h)) (tr_Qi tr_X w r0 h) 0 0 (tr_R tr_X w) := by
  refine tr_start (by decide) (Nat.le_refl _) ?_
  intro p e s m args below meth c C hr hlocks hargs hP
  have hx := C.1
  have hb := C.2.1
  have hS : va_S (tr_R tr_X w) s.heap s.heap [] := va_S.rf
  have hl := lv_entry ([.ref (tr_ad w 21), .ref (tr_ad w tn1), .int tv901, .int tv902]) (n := 5) (Nat.le_of_ble_eq_true rfl)
  rw [lg_entry_eq]
  generalize (lg_sl ([.ref (tr_ad w 21), .ref (tr_ad w tn1), .int tv901, .int tv902]) ++ List.replicate (5 - (lg_sl ([.ref (tr_ad w 21), .ref (tr_ad w tn1), .int tv901, .int tv902])).length) Slot.unset).toArray = ls at hl ⊢
  have hl : lv_has ls 5 [(0, .ref (tr_ad w 21)), (1, .ref (tr_ad w tn1)), (2, .int tv901), (3, .int tv902)] := hl
  replace hk : tr_ok (f_X6_gainOf tn1 tv901 tv902 h) (fun o => o = r0) := ⟨_, hk, rfl⟩
  unfold f_X6_gainOf at hk
  refine lv_aload_n hx hb dX6_gainOf_0 rfl (lv_at hl 1 rfl) ?_
  refine lv_iload_n hx hb dX6_gainOf_1 rfl (lv_at hl 2 rfl) ?_
  refine lv_iload_n hx hb dX6_gainOf_2 rfl (lv_at hl 3 rfl) ?_
  obtain ⟨tv2, tq1, hk⟩ := tr_okb hk
  refine tr_cvi (As := [.int tv901, .int tv902]) (rest := []) C hP hS hl (c_X2_of l w tn1 htn1 tv901 tv902 h tv2 tq1) mz_X2_of ml_X6_41 (tr_net_lt htn1) (tr_net_cx htn1 (tr_ad w) w.2.1 (h.1 tn1) (h.2 tn1)) rfl rfl rfl ⟨Nat.le_of_ble_eq_true rfl, Nat.le_of_ble_eq_true rfl⟩ rfl rfl (Nat.le_of_ble_eq_true rfl) ⟨Nat.le_refl _, Nat.le_refl _⟩ dX6_gainOf_3 (fun H locs hP hS => ?_)
  refine lv_istore (lv' := [(4, .int tv2), (0, .ref (tr_ad w 21)), (1, .ref (tr_ad w tn1)), (2, .int tv901), (3, .int tv902)]) hx hb dX6_gainOf_6 hl (by decide) rfl (fun ls hl => ?_)
  refine lv_iload hx hb dX6_gainOf_8 (lv_at hl 0 rfl) ?_
  refine lv_bipush (v := (-9)) hx hb dX6_gainOf_10 (by decide) ?_
  refine lv_icmp_ne (tgt := 20) hx hb dX6_gainOf_12 (by decide) (fun tc3 => ?_) (fun tc3 => ?_)
  · replace hk := tr_iff hk tc3
    refine lv_bipush (v := 60) hx hb dX6_gainOf_20 (by decide) ?_
    refine lv_iload hx hb dX6_gainOf_22 (lv_at hl 0 rfl) ?_
    refine lv_imul hx hb dX6_gainOf_24 ?_
    refine lv_aload_n hx hb dX6_gainOf_25 rfl (lv_at hl 1 rfl) ?_
    refine gf_X6_51 C hP dX6_gainOf_26 ?_
    refine lv_isub hx hb dX6_gainOf_29 ?_
    exact tr_iret C hP hS hr hlocks (congrArg (fun x => (x, h)) (tr_okS (P := (fun o => o = r0)) hk)) dX6_gainOf_30
  · replace hk := tr_ift hk tc3
    refine lv_ldc (v := (-1000000)) hx hb C.2.2.2.1 (C.2.2.2.2.1 _ mc_X6_61) dX6_gainOf_15 ?_
    refine lv_goto (tgt := 30) hx hb dX6_gainOf_17 (by decide) ?_
    exact tr_iret C hP hS hr hlocks (congrArg (fun x => (x, h)) (tr_okS (P := (fun o => o = r0)) hk)) dX6_gainOf_30
abbrev r_X6_join : Room := { frames := 1, cells := 0, slots := 0, locals := 21 }
set_option maxHeartbeats 4000000 in
set_option maxRecDepth 100000 in
theorem c_X6_join (l : Launch) (w : tr_E) (tv900 : Int32) (tv901 : Int32) (tv902 : Int32) (h : tr_H) (h0 : tr_H) (hk : f_X6_join tv900 tv901 tv902 h = some h0) : Met l yX6_join (Cond.code yX6_join cX6_join 7 none :: tr_T) r_X6_join (va_Pc [.ref (tr_ad w 21), .int tv900, .int tv901, .int tv902] (tr_Wo tr_X w h)) (tr_Qv tr_X w h0) 0 0 (tr_R tr_X w) := by
  refine tr_start (by decide) (Nat.le_refl _) ?_
  intro p e s m args below meth c C hr hlocks hargs hP
  have hx := C.1
  have hb := C.2.1
  have hS : va_S (tr_R tr_X w) s.heap s.heap [] := va_S.rf
  have hl := lv_entry ([.ref (tr_ad w 21), .int tv900, .int tv901, .int tv902]) (n := 7) (Nat.le_of_ble_eq_true rfl)
  rw [lg_entry_eq]
  generalize (lg_sl ([.ref (tr_ad w 21), .int tv900, .int tv901, .int tv902]) ++ List.replicate (7 - (lg_sl ([.ref (tr_ad w 21), .int tv900, .int tv901, .int tv902])).length) Slot.unset).toArray = ls at hl ⊢
  have hl : lv_has ls 7 [(0, .ref (tr_ad w 21)), (1, .int tv900), (2, .int tv901), (3, .int tv902)] := hl
  replace hk : tr_ok (f_X6_join tv900 tv901 tv902 h) (fun o => o = h0) := ⟨_, hk, rfl⟩
  unfold f_X6_join at hk
  refine lv_aload_n hx hb dX6_join_0 rfl (lv_at hl 0 rfl) ?_
  refine gf_X6_15 C hP dX6_join_1 ?_
  refine lv_iload_n hx hb dX6_join_4 rfl (lv_at hl 1 rfl) ?_
  refine lv_bipush (v := 6) hx hb dX6_join_5 (by decide) ?_
  refine lv_imul hx hb dX6_join_7 ?_
  refine lv_iload_n hx hb dX6_join_8 rfl (lv_at hl 2 rfl) ?_
  refine lv_iadd hx hb dX6_join_9 ?_
  refine tr_ti hk (fun tv1 hk => ?_)
  obtain ⟨tg2, hk⟩ := tr_okg hk
  refine tr_ial C hP (ar_X_23 w) tg2 dX6_join_10 ?_
  refine tr_ti hk (fun tv3 hk => ?_)
  refine lv_istore (lv' := [(4, .int tv3), (0, .ref (tr_ad w 21)), (1, .int tv900), (2, .int tv901), (3, .int tv902)]) hx hb dX6_join_11 hl (by decide) rfl (fun ls hl => ?_)
  refine lv_aload_n hx hb dX6_join_13 rfl (lv_at hl 1 rfl) ?_
  refine gf_X6_15 C hP dX6_join_14 ?_
  refine lv_iload_n hx hb dX6_join_17 rfl (lv_at hl 3 rfl) ?_
  refine lv_bipush (v := 6) hx hb dX6_join_18 (by decide) ?_
  refine lv_imul hx hb dX6_join_20 ?_
  refine lv_iload_n hx hb dX6_join_21 rfl (lv_at hl 4 rfl) ?_
  refine lv_iadd hx hb dX6_join_22 ?_
  refine tr_ti hk (fun tv4 hk => ?_)
  obtain ⟨tg5, hk⟩ := tr_okg hk
  refine tr_ial C hP (ar_X_23 w) tg5 dX6_join_23 ?_
  refine tr_ti hk (fun tv6 hk => ?_)
  refine lv_istore (lv' := [(5, .int tv6), (4, .int tv3), (0, .ref (tr_ad w 21)), (1, .int tv900), (2, .int tv901), (3, .int tv902)]) hx hb dX6_join_24 hl (by decide) rfl (fun ls hl => ?_)
  refine lv_iload hx hb dX6_join_26 (lv_at hl 1 rfl) ?_
  refine lv_ldc (v := (-1000000)) hx hb C.2.2.2.1 (C.2.2.2.2.1 _ mc_X6_61) dX6_join_28 ?_
  refine lv_icmp_eq (tgt := 70) hx hb dX6_join_30 (by decide) (fun tc7 => ?_) (fun tc7 => ?_)
  · replace hk := tr_ift hk tc7
    exact tr_vret C hP hS hr hlocks (tr_okS (P := (fun o => o = h0)) hk) dX6_join_70
  · replace hk := tr_iff hk tc7
    refine lv_iload hx hb dX6_join_33 (lv_at hl 0 rfl) ?_
    refine lv_ldc (v := (-1000000)) hx hb C.2.2.2.1 (C.2.2.2.2.1 _ mc_X6_61) dX6_join_35 ?_
    refine lv_icmp_eq (tgt := 70) hx hb dX6_join_37 (by decide) (fun tc8 => ?_) (fun tc8 => ?_)
    · replace hk := tr_ift hk tc8
      exact tr_vret C hP hS hr hlocks (tr_okS (P := (fun o => o = h0)) hk) dX6_join_70
    · replace hk := tr_iff hk tc8
      refine lv_iload_n hx hb dX6_join_40 rfl (lv_at hl 3 rfl) ?_
      refine lv_bipush (v := 6) hx hb dX6_join_41 (by decide) ?_
      refine lv_imul hx hb dX6_join_43 ?_
      refine lv_iload_n hx hb dX6_join_44 rfl (lv_at hl 5 rfl) ?_
      refine lv_iadd hx hb dX6_join_45 ?_
      refine tr_ti hk (fun tv9 hk => ?_)
      refine lv_istore (lv' := [(6, .int tv9), (5, .int tv6), (4, .int tv3), (0, .ref (tr_ad w 21)), (1, .int tv900), (2, .int tv901), (3, .int tv902)]) hx hb dX6_join_46 hl (by decide) rfl (fun ls hl => ?_)
      refine lv_aload_n hx hb dX6_join_48 rfl (lv_at hl 3 rfl) ?_
      refine gf_X6_15 C hP dX6_join_49 ?_
      refine lv_iload hx hb dX6_join_52 (lv_at hl 0 rfl) ?_
      refine lv_aload_n hx hb dX6_join_54 rfl (lv_at hl 3 rfl) ?_
      refine gf_X6_15 C hP dX6_join_55 ?_
      refine lv_iload hx hb dX6_join_58 (lv_at hl 0 rfl) ?_
      obtain ⟨tg10, hk⟩ := tr_okg hk
      refine tr_ial C hP (ar_X_23 w) tg10 dX6_join_60 ?_
      refine lv_iload hx hb dX6_join_61 (lv_at hl 2 rfl) ?_
      refine lv_iload hx hb dX6_join_63 (lv_at hl 1 rfl) ?_
      refine lv_iadd hx hb dX6_join_65 ?_
      refine tr_mx C hl ml_X6_36 ⟨Nat.le_of_ble_eq_true rfl, Nat.le_of_ble_eq_true rfl⟩ ⟨Nat.le_refl _, Nat.le_refl _⟩ dX6_join_66 ?_
      obtain ⟨tg11, hk⟩ := tr_okg hk
      refine tr_ias C hP hS (ar_X_23 w) tg11 dX6_join_69 (fun H locs hP hS => ?_)
      refine tr_th hk hP (fun th12 hk hP => ?_)
      exact tr_vret C hP hS hr hlocks (tr_okS (P := (fun o => o = h0)) hk) dX6_join_70
abbrev r_X6_compare : Room := { frames := 3, cells := 0, slots := 0, locals := 72 }
set_option maxHeartbeats 4000000 in
set_option maxRecDepth 100000 in
theorem c_X6_compare (l : Launch) (w : tr_E) (tn1 : Nat) (htn1 : tr_net tn1) (h : tr_H) (h0 : tr_H) (hk : f_X6_compare tn1 h = some h0) : Met l yX6_compare (Cond.code yX6_compare cX6_compare 5 none :: tr_T) r_X6_compare (va_Pc [.ref (tr_ad w 21), .ref (tr_ad w tn1)] (tr_Wo tr_X w h)) (tr_Qv tr_X w h0) 0 0 (tr_R tr_X w) := by
  refine tr_start (by decide) (Nat.le_refl _) ?_
  intro p e s m args below meth c C hr hlocks hargs hP
  have hx := C.1
  have hb := C.2.1
  have hS : va_S (tr_R tr_X w) s.heap s.heap [] := va_S.rf
  have hl := lv_entry ([.ref (tr_ad w 21), .ref (tr_ad w tn1)]) (n := 5) (Nat.le_of_ble_eq_true rfl)
  rw [lg_entry_eq]
  generalize (lg_sl ([.ref (tr_ad w 21), .ref (tr_ad w tn1)]) ++ List.replicate (5 - (lg_sl ([.ref (tr_ad w 21), .ref (tr_ad w tn1)])).length) Slot.unset).toArray = ls at hl ⊢
  have hl : lv_has ls 5 [(0, .ref (tr_ad w 21)), (1, .ref (tr_ad w tn1))] := hl
  replace hk : tr_ok (f_X6_compare tn1 h) (fun o => o = h0) := ⟨_, hk, rfl⟩
  unfold f_X6_compare at hk
  refine lv_aload_n hx hb dX6_compare_0 rfl (lv_at hl 0 rfl) ?_
  refine lv_aload_n hx hb dX6_compare_1 rfl (lv_at hl 0 rfl) ?_
  refine lv_aload_n hx hb dX6_compare_2 rfl (lv_at hl 1 rfl) ?_
  obtain ⟨tv2, th3, tq1, hk⟩ := tr_okb2 hk
  refine tr_cvi (As := [.ref (tr_ad w tn1)]) (rest := [.ref (tr_ad w 21)]) C hP hS hl (c_X6_slowest l w tn1 htn1 h tv2 th3 tq1) mz_X6_slowest ml_X6_18 (by decide) rfl rfl rfl rfl ⟨Nat.le_of_ble_eq_true rfl, Nat.le_of_ble_eq_true rfl⟩ rfl rfl (Nat.le_of_ble_eq_true rfl) ⟨Nat.le_refl _, Nat.le_refl _⟩ dX6_compare_3 (fun H locs hP hS => ?_)
  refine pf_X6_51 C hP hS dX6_compare_6 (fun H locs hP hS => ?_)
  refine tr_th hk hP (fun th4 hk hP => ?_)
  refine lv_iconst (v := 0) hx hb dX6_compare_9 (by decide) ?_
  refine lv_istore_n (lv' := [(2, .int 0), (0, .ref (tr_ad w 21)), (1, .ref (tr_ad w tn1))]) hx hb dX6_compare_10 rfl hl (by decide) rfl (fun ls hl => ?_)
  have j72_11 : ∀ (th5 : tr_H), tr_ok (f_X6_compare_E72 tn1 th5) (fun o => o = h0) → tr_Wd p l e r_X6_compare s m args below meth c (MQ below (tr_Qv tr_X w h0) args s 0 0 (tr_R tr_X w)) tr_X w 5 72 [(0, .ref (tr_ad w 21)), (1, .ref (tr_ad w tn1))] [] th5 := by
    intro th5 hk H locs ls hP hS hl
    unfold f_X6_compare_E72 at hk
    refine lv_iconst (v := 0) hx hb dX6_compare_72 (by decide) ?_
    refine lv_istore_n (lv' := [(2, .int 0), (0, .ref (tr_ad w 21)), (1, .ref (tr_ad w tn1))]) hx hb dX6_compare_73 rfl hl (by decide) rfl (fun ls hl => ?_)
    have j130_74 : ∀ (th6 : tr_H), tr_ok (f_X6_compare_E130 th6) (fun o => o = h0) → tr_Wd p l e r_X6_compare s m args below meth c (MQ below (tr_Qv tr_X w h0) args s 0 0 (tr_R tr_X w)) tr_X w 5 130 [] [] th6 := by
      intro th6 hk H locs ls hP hS hl
      unfold f_X6_compare_E130 at hk
      exact tr_vret C hP hS hr hlocks (tr_okS (P := (fun o => o = h0)) hk) dX6_compare_130
    refine tr_loop (fun q => tr_Wd p l e r_X6_compare s m args below meth c (MQ below (tr_Qv tr_X w h0) args s 0 0 (tr_R tr_X w)) tr_X w 5 74 [(0, .ref (tr_ad w 21)), (1, .ref (tr_ad w tn1)), (2, .int q.1)] [] q.2) hk ?_ _ _ _ hP hS (lv_sub hl [1, 2, 0] rfl)
    intro P74 hin74 hex74 q hk
    obtain ⟨tv7, th8⟩ := q
    intro H locs ls hP hS hl
    replace hk : tr_ok (f_X6_compare_L74 tn1 tv7 th8) P74 := hk
    unfold f_X6_compare_L74 at hk
    refine lv_iload_n hx hb dX6_compare_74 rfl (lv_at hl 2 rfl) ?_
    refine lv_aload_n hx hb dX6_compare_75 rfl (lv_at hl 1 rfl) ?_
    refine gf_X6_22 htn1 C hP dX6_compare_76 ?_
    refine lv_icmp_ge (tgt := 130) hx hb dX6_compare_79 (by decide) (fun tc9 => ?_) (fun tc9 => ?_)
    · replace hk := tr_ift hk tc9
      replace hk := hex74 _ (tr_okS hk)
      replace hk : tr_ok (f_X6_compare_E130 th8) (fun o => o = h0) := hk
      exact j130_74 th8 hk _ _ _ hP hS (lv_sub hl [] rfl)
    · replace hk := tr_iff hk tc9
      refine lv_iconst (v := 0) hx hb dX6_compare_82 (by decide) ?_
      refine lv_istore_n (lv' := [(3, .int 0), (0, .ref (tr_ad w 21)), (1, .ref (tr_ad w tn1)), (2, .int tv7)]) hx hb dX6_compare_83 rfl hl (by decide) rfl (fun ls hl => ?_)
      have j124_84 : ∀ (th10 : tr_H), tr_ok (f_X6_compare_E124 tv7 th10) P74 → tr_Wd p l e r_X6_compare s m args below meth c (MQ below (tr_Qv tr_X w h0) args s 0 0 (tr_R tr_X w)) tr_X w 5 124 [(0, .ref (tr_ad w 21)), (1, .ref (tr_ad w tn1)), (2, .int tv7)] [] th10 := by
        intro th10 hk H locs ls hP hS hl
        unfold f_X6_compare_E124 at hk
        obtain ⟨tv11, etv11, hk⟩ := tr_okd hk
        refine lv_iinc (v := tv11) (lv' := [(2, .int tv11), (0, .ref (tr_ad w 21)), (1, .ref (tr_ad w tn1))]) hx hb dX6_compare_124 hl (k := 2) rfl (by rw [etv11]; rfl) (by decide) rfl (fun ls hl => ?_)
        refine lv_goto (tgt := 74) hx hb dX6_compare_127 (by decide) ?_
        exact hin74 _ (tr_okS hk) _ _ _ hP hS (lv_sub hl [1, 2, 0] rfl)
      refine tr_loop (fun q => tr_Wd p l e r_X6_compare s m args below meth c (MQ below (tr_Qv tr_X w h0) args s 0 0 (tr_R tr_X w)) tr_X w 5 84 [(0, .ref (tr_ad w 21)), (1, .ref (tr_ad w tn1)), (2, .int tv7), (3, .int q.1)] [] q.2) hk ?_ _ _ _ hP hS (lv_sub hl [1, 2, 3, 0] rfl)
      intro P84 hin84 hex84 q hk
      obtain ⟨tv12, th13⟩ := q
      intro H locs ls hP hS hl
      replace hk : tr_ok (f_X6_compare_L84 tn1 tv7 tv12 th13) P84 := hk
      unfold f_X6_compare_L84 at hk
      refine lv_iload_n hx hb dX6_compare_84 rfl (lv_at hl 3 rfl) ?_
      refine lv_aload_n hx hb dX6_compare_85 rfl (lv_at hl 1 rfl) ?_
      refine gf_X6_22 htn1 C hP dX6_compare_86 ?_
      refine lv_icmp_ge (tgt := 124) hx hb dX6_compare_89 (by decide) (fun tc14 => ?_) (fun tc14 => ?_)
      · replace hk := tr_ift hk tc14
        replace hk := hex84 _ (tr_okS hk)
        replace hk : tr_ok (f_X6_compare_E124 tv7 th13) P74 := hk
        exact j124_84 th13 hk _ _ _ hP hS (lv_sub hl [0, 1, 2] rfl)
      · replace hk := tr_iff hk tc14
        refine lv_iconst (v := 0) hx hb dX6_compare_92 (by decide) ?_
        refine lv_istore (lv' := [(4, .int 0), (0, .ref (tr_ad w 21)), (1, .ref (tr_ad w tn1)), (2, .int tv7), (3, .int tv12)]) hx hb dX6_compare_93 hl (by decide) rfl (fun ls hl => ?_)
        have j118_95 : ∀ (th15 : tr_H), tr_ok (f_X6_compare_E118 tv12 th15) P84 → tr_Wd p l e r_X6_compare s m args below meth c (MQ below (tr_Qv tr_X w h0) args s 0 0 (tr_R tr_X w)) tr_X w 5 118 [(0, .ref (tr_ad w 21)), (1, .ref (tr_ad w tn1)), (2, .int tv7), (3, .int tv12)] [] th15 := by
          intro th15 hk H locs ls hP hS hl
          unfold f_X6_compare_E118 at hk
          obtain ⟨tv16, etv16, hk⟩ := tr_okd hk
          refine lv_iinc (v := tv16) (lv' := [(3, .int tv16), (0, .ref (tr_ad w 21)), (1, .ref (tr_ad w tn1)), (2, .int tv7)]) hx hb dX6_compare_118 hl (k := 3) rfl (by rw [etv16]; rfl) (by decide) rfl (fun ls hl => ?_)
          refine lv_goto (tgt := 84) hx hb dX6_compare_121 (by decide) ?_
          exact hin84 _ (tr_okS hk) _ _ _ hP hS (lv_sub hl [1, 2, 3, 0] rfl)
        refine tr_loop (fun q => tr_Wd p l e r_X6_compare s m args below meth c (MQ below (tr_Qv tr_X w h0) args s 0 0 (tr_R tr_X w)) tr_X w 5 95 [(0, .ref (tr_ad w 21)), (1, .ref (tr_ad w tn1)), (2, .int tv7), (3, .int tv12), (4, .int q.1)] [] q.2) hk ?_ _ _ _ hP hS (lv_sub hl [1, 2, 3, 4, 0] rfl)
        intro P95 hin95 hex95 q hk
        obtain ⟨tv17, th18⟩ := q
        intro H locs ls hP hS hl
        replace hk : tr_ok (f_X6_compare_L95 tn1 tv12 tv7 tv17 th18) P95 := hk
        unfold f_X6_compare_L95 at hk
        refine lv_iload hx hb dX6_compare_95 (lv_at hl 4 rfl) ?_
        refine lv_aload_n hx hb dX6_compare_97 rfl (lv_at hl 1 rfl) ?_
        refine gf_X6_22 htn1 C hP dX6_compare_98 ?_
        refine lv_icmp_ge (tgt := 118) hx hb dX6_compare_101 (by decide) (fun tc19 => ?_) (fun tc19 => ?_)
        · replace hk := tr_ift hk tc19
          replace hk := hex95 _ (tr_okS hk)
          replace hk : tr_ok (f_X6_compare_E118 tv12 th18) P84 := hk
          exact j118_95 th18 hk _ _ _ hP hS (lv_sub hl [0, 1, 2, 3] rfl)
        · replace hk := tr_iff hk tc19
          refine lv_aload_n hx hb dX6_compare_104 rfl (lv_at hl 0 rfl) ?_
          refine lv_iload_n hx hb dX6_compare_105 rfl (lv_at hl 3 rfl) ?_
          refine lv_iload_n hx hb dX6_compare_106 rfl (lv_at hl 2 rfl) ?_
          refine lv_iload hx hb dX6_compare_107 (lv_at hl 4 rfl) ?_
          obtain ⟨th21, tq20, hk⟩ := tr_okb hk
          refine tr_cvv (As := [.int tv12, .int tv7, .int tv17]) (rest := []) C hP hS hl (c_X6_join l w tv12 tv7 tv17 th18 th21 tq20) mz_X6_join ml_X6_57 (by decide) rfl rfl rfl rfl ⟨Nat.le_of_ble_eq_true rfl, Nat.le_of_ble_eq_true rfl⟩ rfl rfl (Nat.le_of_ble_eq_true rfl) ⟨Nat.le_refl _, Nat.le_refl _⟩ dX6_compare_109 (fun H locs hP hS => ?_)
          obtain ⟨tv22, etv22, hk⟩ := tr_okd hk
          refine lv_iinc (v := tv22) (lv' := [(4, .int tv22), (0, .ref (tr_ad w 21)), (1, .ref (tr_ad w tn1)), (2, .int tv7), (3, .int tv12)]) hx hb dX6_compare_112 hl (k := 4) rfl (by rw [etv22]; rfl) (by decide) rfl (fun ls hl => ?_)
          refine lv_goto (tgt := 95) hx hb dX6_compare_115 (by decide) ?_
          exact hin95 _ (tr_okS hk) _ _ _ hP hS (lv_sub hl [1, 2, 3, 4, 0] rfl)
  refine tr_loop (fun q => tr_Wd p l e r_X6_compare s m args below meth c (MQ below (tr_Qv tr_X w h0) args s 0 0 (tr_R tr_X w)) tr_X w 5 11 [(0, .ref (tr_ad w 21)), (1, .ref (tr_ad w tn1)), (2, .int q.1)] [] q.2) hk ?_ _ _ _ hP hS (lv_sub hl [1, 2, 0] rfl)
  intro P11 hin11 hex11 q hk
  obtain ⟨tv23, th24⟩ := q
  intro H locs ls hP hS hl
  replace hk : tr_ok (f_X6_compare_L11 tn1 tv23 th24) P11 := hk
  unfold f_X6_compare_L11 at hk
  refine lv_iload_n hx hb dX6_compare_11 rfl (lv_at hl 2 rfl) ?_
  refine lv_aload_n hx hb dX6_compare_12 rfl (lv_at hl 1 rfl) ?_
  refine gf_X6_22 htn1 C hP dX6_compare_13 ?_
  refine lv_icmp_ge (tgt := 72) hx hb dX6_compare_16 (by decide) (fun tc25 => ?_) (fun tc25 => ?_)
  · replace hk := tr_ift hk tc25
    replace hk := hex11 _ (tr_okS hk)
    replace hk : tr_ok (f_X6_compare_E72 tn1 th24) (fun o => o = h0) := hk
    exact j72_11 th24 hk _ _ _ hP hS (lv_sub hl [0, 1] rfl)
  · replace hk := tr_iff hk tc25
    refine lv_iconst (v := 0) hx hb dX6_compare_19 (by decide) ?_
    refine lv_istore_n (lv' := [(3, .int 0), (0, .ref (tr_ad w 21)), (1, .ref (tr_ad w tn1)), (2, .int tv23)]) hx hb dX6_compare_20 rfl hl (by decide) rfl (fun ls hl => ?_)
    have j66_21 : ∀ (th26 : tr_H), tr_ok (f_X6_compare_E66 tv23 th26) P11 → tr_Wd p l e r_X6_compare s m args below meth c (MQ below (tr_Qv tr_X w h0) args s 0 0 (tr_R tr_X w)) tr_X w 5 66 [(0, .ref (tr_ad w 21)), (1, .ref (tr_ad w tn1)), (2, .int tv23)] [] th26 := by
      intro th26 hk H locs ls hP hS hl
      unfold f_X6_compare_E66 at hk
      obtain ⟨tv27, etv27, hk⟩ := tr_okd hk
      refine lv_iinc (v := tv27) (lv' := [(2, .int tv27), (0, .ref (tr_ad w 21)), (1, .ref (tr_ad w tn1))]) hx hb dX6_compare_66 hl (k := 2) rfl (by rw [etv27]; rfl) (by decide) rfl (fun ls hl => ?_)
      refine lv_goto (tgt := 11) hx hb dX6_compare_69 (by decide) ?_
      exact hin11 _ (tr_okS hk) _ _ _ hP hS (lv_sub hl [1, 2, 0] rfl)
    refine tr_loop (fun q => tr_Wd p l e r_X6_compare s m args below meth c (MQ below (tr_Qv tr_X w h0) args s 0 0 (tr_R tr_X w)) tr_X w 5 21 [(0, .ref (tr_ad w 21)), (1, .ref (tr_ad w tn1)), (2, .int tv23), (3, .int q.1)] [] q.2) hk ?_ _ _ _ hP hS (lv_sub hl [1, 2, 3, 0] rfl)
    intro P21 hin21 hex21 q hk
    obtain ⟨tv28, th29⟩ := q
    intro H locs ls hP hS hl
    replace hk : tr_ok (f_X6_compare_L21 tn1 tv23 tv28 th29) P21 := hk
    unfold f_X6_compare_L21 at hk
    refine lv_iload_n hx hb dX6_compare_21 rfl (lv_at hl 3 rfl) ?_
    refine lv_aload_n hx hb dX6_compare_22 rfl (lv_at hl 1 rfl) ?_
    refine gf_X6_22 htn1 C hP dX6_compare_23 ?_
    refine lv_icmp_ge (tgt := 66) hx hb dX6_compare_26 (by decide) (fun tc30 => ?_) (fun tc30 => ?_)
    · replace hk := tr_ift hk tc30
      replace hk := hex21 _ (tr_okS hk)
      replace hk : tr_ok (f_X6_compare_E66 tv23 th29) P11 := hk
      exact j66_21 th29 hk _ _ _ hP hS (lv_sub hl [0, 1, 2] rfl)
    · replace hk := tr_iff hk tc30
      refine lv_iload_n hx hb dX6_compare_29 rfl (lv_at hl 2 rfl) ?_
      refine lv_iload_n hx hb dX6_compare_30 rfl (lv_at hl 3 rfl) ?_
      refine lv_icmp_ne (tgt := 38) hx hb dX6_compare_31 (by decide) (fun tc31 => ?_) (fun tc31 => ?_)
      · replace hk := tr_iff hk tc31
        refine lv_aload_n hx hb dX6_compare_38 rfl (lv_at hl 0 rfl) ?_
        refine lv_aload_n hx hb dX6_compare_39 rfl (lv_at hl 1 rfl) ?_
        refine lv_iload_n hx hb dX6_compare_40 rfl (lv_at hl 2 rfl) ?_
        refine lv_iload_n hx hb dX6_compare_41 rfl (lv_at hl 3 rfl) ?_
        obtain ⟨tv33, tq32, hk⟩ := tr_okb hk
        refine tr_cvi (As := [.ref (tr_ad w tn1), .int tv23, .int tv28]) (rest := []) C hP hS hl (c_X6_gainOf l w tn1 htn1 tv23 tv28 th29 tv33 tq32) mz_X6_gainOf ml_X6_54 (by decide) rfl rfl rfl rfl ⟨Nat.le_of_ble_eq_true rfl, Nat.le_of_ble_eq_true rfl⟩ rfl rfl (Nat.le_of_ble_eq_true rfl) ⟨Nat.le_refl _, Nat.le_refl _⟩ dX6_compare_42 (fun H locs hP hS => ?_)
        refine lv_istore (lv' := [(4, .int tv33), (0, .ref (tr_ad w 21)), (1, .ref (tr_ad w tn1)), (2, .int tv23), (3, .int tv28)]) hx hb dX6_compare_45 hl (by decide) rfl (fun ls hl => ?_)
        refine lv_aload_n hx hb dX6_compare_47 rfl (lv_at hl 1 rfl) ?_
        refine gf_X6_15 C hP dX6_compare_48 ?_
        refine lv_iload_n hx hb dX6_compare_51 rfl (lv_at hl 3 rfl) ?_
        refine lv_bipush (v := 6) hx hb dX6_compare_52 (by decide) ?_
        refine lv_imul hx hb dX6_compare_54 ?_
        refine lv_iload_n hx hb dX6_compare_55 rfl (lv_at hl 4 rfl) ?_
        refine lv_iadd hx hb dX6_compare_56 ?_
        refine lv_iload hx hb dX6_compare_57 (lv_at hl 0 rfl) ?_
        obtain ⟨tv34, etv34, hk⟩ := tr_okd hk
        rw [← etv34]
        obtain ⟨tg35, hk⟩ := tr_okg hk
        refine tr_ias C hP hS (ar_X_23 w) tg35 dX6_compare_59 (fun H locs hP hS => ?_)
        refine tr_th hk hP (fun th36 hk hP => ?_)
        obtain ⟨tv37, etv37, hk⟩ := tr_okd hk
        refine lv_iinc (v := tv37) (lv' := [(3, .int tv37), (4, .int tv33), (0, .ref (tr_ad w 21)), (1, .ref (tr_ad w tn1)), (2, .int tv23)]) hx hb dX6_compare_60 hl (k := 4) rfl (by rw [etv37]; rfl) (by decide) rfl (fun ls hl => ?_)
        refine lv_goto (tgt := 21) hx hb dX6_compare_63 (by decide) ?_
        exact hin21 _ (tr_okS hk) _ _ _ hP hS (lv_sub hl [2, 3, 4, 0] rfl)
      · replace hk := tr_ift hk tc31
        refine lv_iconst (v := 0) hx hb dX6_compare_34 (by decide) ?_
        refine lv_goto (tgt := 45) hx hb dX6_compare_35 (by decide) ?_
        refine lv_istore (lv' := [(4, .int 0), (0, .ref (tr_ad w 21)), (1, .ref (tr_ad w tn1)), (2, .int tv23), (3, .int tv28)]) hx hb dX6_compare_45 hl (by decide) rfl (fun ls hl => ?_)
        refine lv_aload_n hx hb dX6_compare_47 rfl (lv_at hl 1 rfl) ?_
        refine gf_X6_15 C hP dX6_compare_48 ?_
        refine lv_iload_n hx hb dX6_compare_51 rfl (lv_at hl 3 rfl) ?_
        refine lv_bipush (v := 6) hx hb dX6_compare_52 (by decide) ?_
        refine lv_imul hx hb dX6_compare_54 ?_
        refine lv_iload_n hx hb dX6_compare_55 rfl (lv_at hl 4 rfl) ?_
        refine lv_iadd hx hb dX6_compare_56 ?_
        refine lv_iload hx hb dX6_compare_57 (lv_at hl 0 rfl) ?_
        obtain ⟨tv38, etv38, hk⟩ := tr_okd hk
        rw [← etv38]
        obtain ⟨tg39, hk⟩ := tr_okg hk
        refine tr_ias C hP hS (ar_X_23 w) tg39 dX6_compare_59 (fun H locs hP hS => ?_)
        refine tr_th hk hP (fun th40 hk hP => ?_)
        obtain ⟨tv41, etv41, hk⟩ := tr_okd hk
        refine lv_iinc (v := tv41) (lv' := [(3, .int tv41), (4, .int 0), (0, .ref (tr_ad w 21)), (1, .ref (tr_ad w tn1)), (2, .int tv23)]) hx hb dX6_compare_60 hl (k := 4) rfl (by rw [etv41]; rfl) (by decide) rfl (fun ls hl => ?_)
        refine lv_goto (tgt := 21) hx hb dX6_compare_63 (by decide) ?_
        exact hin21 _ (tr_okS hk) _ _ _ hP hS (lv_sub hl [2, 3, 4, 0] rfl)
abbrev r_X6_comesBack : Room := { frames := 0, cells := 0, slots := 0, locals := 0 }
set_option maxHeartbeats 4000000 in
set_option maxRecDepth 100000 in
theorem c_X6_comesBack (l : Launch) (w : tr_E) (tv900 : Int32) (tv901 : Int32) (h : tr_H) (r0 : Int32) (hk : f_X6_comesBack tv900 tv901 h = some r0) : Met l yX6_comesBack (Cond.code yX6_comesBack cX6_comesBack 3 (some .boolean) :: tr_T) r_X6_comesBack (va_Pc [.ref (tr_ad w 21), .int tv900, .int tv901] (tr_Wo tr_X w h)) (tr_Qi tr_X w r0 h) 0 0 (tr_R tr_X w) := by
  refine tr_start (by decide) (Nat.le_refl _) ?_
  intro p e s m args below meth c C hr hlocks hargs hP
  have hx := C.1
  have hb := C.2.1
  have hS : va_S (tr_R tr_X w) s.heap s.heap [] := va_S.rf
  have hl := lv_entry ([.ref (tr_ad w 21), .int tv900, .int tv901]) (n := 3) (Nat.le_of_ble_eq_true rfl)
  rw [lg_entry_eq]
  generalize (lg_sl ([.ref (tr_ad w 21), .int tv900, .int tv901]) ++ List.replicate (3 - (lg_sl ([.ref (tr_ad w 21), .int tv900, .int tv901])).length) Slot.unset).toArray = ls at hl ⊢
  have hl : lv_has ls 3 [(0, .ref (tr_ad w 21)), (1, .int tv900), (2, .int tv901)] := hl
  replace hk : tr_ok (f_X6_comesBack tv900 tv901 h) (fun o => o = r0) := ⟨_, hk, rfl⟩
  unfold f_X6_comesBack at hk
  refine lv_aload_n hx hb dX6_comesBack_0 rfl (lv_at hl 0 rfl) ?_
  refine gf_X6_15 C hP dX6_comesBack_1 ?_
  refine lv_iload_n hx hb dX6_comesBack_4 rfl (lv_at hl 2 rfl) ?_
  refine lv_bipush (v := 6) hx hb dX6_comesBack_5 (by decide) ?_
  refine lv_imul hx hb dX6_comesBack_7 ?_
  refine lv_iload_n hx hb dX6_comesBack_8 rfl (lv_at hl 1 rfl) ?_
  refine lv_iadd hx hb dX6_comesBack_9 ?_
  refine tr_ti hk (fun tv1 hk => ?_)
  obtain ⟨tg2, hk⟩ := tr_okg hk
  refine tr_ial C hP (ar_X_23 w) tg2 dX6_comesBack_10 ?_
  refine lv_ldc (v := (-1000000)) hx hb C.2.2.2.1 (C.2.2.2.2.1 _ mc_X6_61) dX6_comesBack_11 ?_
  refine lv_icmp_eq (tgt := 20) hx hb dX6_comesBack_13 (by decide) (fun tc3 => ?_) (fun tc3 => ?_)
  · replace hk := tr_ift hk tc3
    refine lv_iconst (v := 0) hx hb dX6_comesBack_20 (by decide) ?_
    exact tr_zret C hP hS hr hlocks rfl (congrArg (fun x => (x, h)) (tr_okS (P := (fun o => o = r0)) hk)) dX6_comesBack_21
  · replace hk := tr_iff hk tc3
    refine lv_iconst (v := 1) hx hb dX6_comesBack_16 (by decide) ?_
    refine lv_goto (tgt := 21) hx hb dX6_comesBack_17 (by decide) ?_
    exact tr_zret C hP hS hr hlocks rfl (congrArg (fun x => (x, h)) (tr_okS (P := (fun o => o = r0)) hk)) dX6_comesBack_21
abbrev r_X6_isCritical : Room := { frames := 2, cells := 0, slots := 0, locals := 46 }
set_option maxHeartbeats 4000000 in
set_option maxRecDepth 100000 in
theorem c_X6_isCritical (l : Launch) (w : tr_E) (tn1 : Nat) (htn1 : tr_net tn1) (tv901 : Int32) (tv902 : Int32) (h : tr_H) (r0 : Int32) (hk : f_X6_isCritical tn1 tv901 tv902 h = some r0) : Met l yX6_isCritical (Cond.code yX6_isCritical cX6_isCritical 4 (some .boolean) :: tr_T) r_X6_isCritical (va_Pc [.ref (tr_ad w 21), .ref (tr_ad w tn1), .int tv901, .int tv902] (tr_Wo tr_X w h)) (tr_Qi tr_X w r0 h) 0 0 (tr_R tr_X w) := by
  refine tr_start (by decide) (Nat.le_refl _) ?_
  intro p e s m args below meth c C hr hlocks hargs hP
  have hx := C.1
  have hb := C.2.1
  have hS : va_S (tr_R tr_X w) s.heap s.heap [] := va_S.rf
  have hl := lv_entry ([.ref (tr_ad w 21), .ref (tr_ad w tn1), .int tv901, .int tv902]) (n := 4) (Nat.le_of_ble_eq_true rfl)
  rw [lg_entry_eq]
  generalize (lg_sl ([.ref (tr_ad w 21), .ref (tr_ad w tn1), .int tv901, .int tv902]) ++ List.replicate (4 - (lg_sl ([.ref (tr_ad w 21), .ref (tr_ad w tn1), .int tv901, .int tv902])).length) Slot.unset).toArray = ls at hl ⊢
  have hl : lv_has ls 4 [(0, .ref (tr_ad w 21)), (1, .ref (tr_ad w tn1)), (2, .int tv901), (3, .int tv902)] := hl
  replace hk : tr_ok (f_X6_isCritical tn1 tv901 tv902 h) (fun o => o = r0) := ⟨_, hk, rfl⟩
  unfold f_X6_isCritical at hk
  refine lv_aload_n hx hb dX6_isCritical_0 rfl (lv_at hl 1 rfl) ?_
  refine lv_iload_n hx hb dX6_isCritical_1 rfl (lv_at hl 2 rfl) ?_
  refine lv_iload_n hx hb dX6_isCritical_2 rfl (lv_at hl 3 rfl) ?_
  obtain ⟨tv2, tq1, hk⟩ := tr_okb hk
  refine tr_cvi (As := [.int tv901, .int tv902]) (rest := []) C hP hS hl (c_X2_of l w tn1 htn1 tv901 tv902 h tv2 tq1) mz_X2_of ml_X6_41 (tr_net_lt htn1) (tr_net_cx htn1 (tr_ad w) w.2.1 (h.1 tn1) (h.2 tn1)) rfl rfl rfl ⟨Nat.le_of_ble_eq_true rfl, Nat.le_of_ble_eq_true rfl⟩ rfl rfl (Nat.le_of_ble_eq_true rfl) ⟨Nat.le_refl _, Nat.le_refl _⟩ dX6_isCritical_3 (fun H locs hP hS => ?_)
  refine lv_bipush (v := (-9)) hx hb dX6_isCritical_6 (by decide) ?_
  refine lv_icmp_eq (tgt := 20) hx hb dX6_isCritical_8 (by decide) (fun tc3 => ?_) (fun tc3 => ?_)
  · replace hk := tr_ift hk tc3
    refine lv_iconst (v := 0) hx hb dX6_isCritical_20 (by decide) ?_
    exact tr_zret C hP hS hr hlocks rfl (congrArg (fun x => (x, h)) (tr_okS (P := (fun o => o = r0)) hk)) dX6_isCritical_21
  · replace hk := tr_iff hk tc3
    refine lv_aload_n hx hb dX6_isCritical_11 rfl (lv_at hl 0 rfl) ?_
    refine lv_iload_n hx hb dX6_isCritical_12 rfl (lv_at hl 2 rfl) ?_
    refine lv_iload_n hx hb dX6_isCritical_13 rfl (lv_at hl 3 rfl) ?_
    obtain ⟨tv5, tq4, hk⟩ := tr_okb hk
    refine tr_cvi (As := [.int tv901, .int tv902]) (rest := []) C hP hS hl (c_X6_comesBack l w tv901 tv902 h tv5 tq4) mz_X6_comesBack ml_X6_62 (by decide) rfl rfl rfl rfl ⟨Nat.le_of_ble_eq_true rfl, Nat.le_of_ble_eq_true rfl⟩ rfl rfl (Nat.le_of_ble_eq_true rfl) ⟨Nat.le_refl _, Nat.le_refl _⟩ dX6_isCritical_14 (fun H locs hP hS => ?_)
    refine lv_if_ne (tgt := 22) hx hb dX6_isCritical_17 (by decide) (fun tc6 => ?_) (fun tc6 => ?_)
    · replace hk := tr_iff hk tc6
      refine lv_aload_n hx hb dX6_isCritical_22 rfl (lv_at hl 0 rfl) ?_
      refine lv_aload_n hx hb dX6_isCritical_23 rfl (lv_at hl 1 rfl) ?_
      refine lv_iload_n hx hb dX6_isCritical_24 rfl (lv_at hl 2 rfl) ?_
      refine lv_iload_n hx hb dX6_isCritical_25 rfl (lv_at hl 3 rfl) ?_
      obtain ⟨tv8, tq7, hk⟩ := tr_okb hk
      refine tr_cvi (As := [.ref (tr_ad w tn1), .int tv901, .int tv902]) (rest := []) C hP hS hl (c_X6_gainOf l w tn1 htn1 tv901 tv902 h tv8 tq7) mz_X6_gainOf ml_X6_54 (by decide) rfl rfl rfl rfl ⟨Nat.le_of_ble_eq_true rfl, Nat.le_of_ble_eq_true rfl⟩ rfl rfl (Nat.le_of_ble_eq_true rfl) ⟨Nat.le_refl _, Nat.le_refl _⟩ dX6_isCritical_26 (fun H locs hP hS => ?_)
      refine lv_aload_n hx hb dX6_isCritical_29 rfl (lv_at hl 0 rfl) ?_
      refine gf_X6_15 C hP dX6_isCritical_30 ?_
      refine lv_iload_n hx hb dX6_isCritical_33 rfl (lv_at hl 3 rfl) ?_
      refine lv_bipush (v := 6) hx hb dX6_isCritical_34 (by decide) ?_
      refine lv_imul hx hb dX6_isCritical_36 ?_
      refine lv_iload_n hx hb dX6_isCritical_37 rfl (lv_at hl 2 rfl) ?_
      refine lv_iadd hx hb dX6_isCritical_38 ?_
      refine tr_ti hk (fun tv9 hk => ?_)
      obtain ⟨tg10, hk⟩ := tr_okg hk
      refine tr_ial C hP (ar_X_23 w) tg10 dX6_isCritical_39 ?_
      refine lv_iadd hx hb dX6_isCritical_40 ?_
      refine lv_if_ne (tgt := 48) hx hb dX6_isCritical_41 (by decide) (fun tc11 => ?_) (fun tc11 => ?_)
      · replace hk := tr_iff hk tc11
        refine lv_iconst (v := 0) hx hb dX6_isCritical_48 (by decide) ?_
        exact tr_zret C hP hS hr hlocks rfl (congrArg (fun x => (x, h)) (tr_okS (P := (fun o => o = r0)) hk)) dX6_isCritical_49
      · replace hk := tr_ift hk tc11
        refine lv_iconst (v := 1) hx hb dX6_isCritical_44 (by decide) ?_
        refine lv_goto (tgt := 49) hx hb dX6_isCritical_45 (by decide) ?_
        exact tr_zret C hP hS hr hlocks rfl (congrArg (fun x => (x, h)) (tr_okS (P := (fun o => o = r0)) hk)) dX6_isCritical_49
    · replace hk := tr_ift hk tc6
      refine lv_iconst (v := 0) hx hb dX6_isCritical_20 (by decide) ?_
      exact tr_zret C hP hS hr hlocks rfl (congrArg (fun x => (x, h)) (tr_okS (P := (fun o => o = r0)) hk)) dX6_isCritical_21
