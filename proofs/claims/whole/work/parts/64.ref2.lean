abbrev r_X8_layTimes : Room := { frames := 2, cells := 0, slots := 0, locals := 44 }
set_option maxHeartbeats 4000000 in
set_option maxRecDepth 100000 in
theorem c_X8_layTimes (l : Launch) (w : tr_E) (tn1 : Nat) (htn1 : tr_pg tn1) (tv901 : Int32) (h : tr_H) (h0 : tr_H) (hk : f_X8_layTimes tn1 tv901 h = some h0) : Met l yX8_layTimes (Cond.code yX8_layTimes cX8_layTimes 7 none :: tr_T) r_X8_layTimes (va_Pc [.ref (tr_ad w 0), .ref (tr_ad w tn1), .int tv901] (tr_Wo tr_M w h)) (tr_Qv tr_M w h0) 0 0 (tr_R tr_M w) := by
  refine tr_start (by decide) (Nat.le_refl _) ?_
  intro p e s m args below meth c C hr hlocks hargs hP
  have hx := C.1
  have hb := C.2.1
  have hS : va_S (tr_R tr_M w) s.heap s.heap [] := va_S.rf
  have hl := lv_entry ([.ref (tr_ad w 0), .ref (tr_ad w tn1), .int tv901]) (n := 7) (Nat.le_of_ble_eq_true rfl)
  rw [lg_entry_eq]
  generalize (lg_sl ([.ref (tr_ad w 0), .ref (tr_ad w tn1), .int tv901]) ++ List.replicate (7 - (lg_sl ([.ref (tr_ad w 0), .ref (tr_ad w tn1), .int tv901])).length) Slot.unset).toArray = ls at hl ⊢
  have hl : lv_has ls 7 [(0, .ref (tr_ad w 0)), (1, .ref (tr_ad w tn1)), (2, .int tv901)] := hl
  replace hk : tr_ok (f_X8_layTimes tn1 tv901 h) (fun o => o = h0) := ⟨_, hk, rfl⟩
  unfold f_X8_layTimes at hk
  refine lv_iconst (v := 0) hx hb dX8_layTimes_0 (by decide) ?_
  refine lv_istore_n (lv' := [(3, .int 0), (0, .ref (tr_ad w 0)), (1, .ref (tr_ad w tn1)), (2, .int tv901)]) hx hb dX8_layTimes_1 rfl hl (by decide) rfl (fun ls hl => ?_)
  have j21_2 : ∀ (th1 : tr_H), tr_ok (f_X8_layTimes_E21 tn1 tv901 th1) (fun o => o = h0) → tr_Wd p l e r_X8_layTimes s m args below meth c (MQ below (tr_Qv tr_M w h0) args s 0 0 (tr_R tr_M w)) tr_M w 7 21 [(0, .ref (tr_ad w 0)), (1, .ref (tr_ad w tn1)), (2, .int tv901)] [] th1 := by
    intro th1 hk H locs ls hP hS hl
    unfold f_X8_layTimes_E21 at hk
    refine lv_iconst (v := 0) hx hb dX8_layTimes_21 (by decide) ?_
    refine lv_istore_n (lv' := [(3, .int 0), (0, .ref (tr_ad w 0)), (1, .ref (tr_ad w tn1)), (2, .int tv901)]) hx hb dX8_layTimes_22 rfl hl (by decide) rfl (fun ls hl => ?_)
    have j131_23 : ∀ (th2 : tr_H), tr_ok (f_X8_layTimes_E131 th2) (fun o => o = h0) → tr_Wd p l e r_X8_layTimes s m args below meth c (MQ below (tr_Qv tr_M w h0) args s 0 0 (tr_R tr_M w)) tr_M w 7 131 [] [] th2 := by
      intro th2 hk H locs ls hP hS hl
      unfold f_X8_layTimes_E131 at hk
      exact tr_vret C hP hS hr hlocks (tr_okS (P := (fun o => o = h0)) hk) dX8_layTimes_131
    refine tr_loop (fun q => tr_Wd p l e r_X8_layTimes s m args below meth c (MQ below (tr_Qv tr_M w h0) args s 0 0 (tr_R tr_M w)) tr_M w 7 23 [(0, .ref (tr_ad w 0)), (1, .ref (tr_ad w tn1)), (2, .int tv901), (3, .int q.1)] [] q.2) hk ?_ _ _ _ hP hS (lv_sub hl [1, 2, 3, 0] rfl)
    intro P23 hin23 hex23 q hk
    obtain ⟨tv3, th4⟩ := q
    intro H locs ls hP hS hl
    replace hk : tr_ok (f_X8_layTimes_L23 tn1 tv901 tv3 th4) P23 := hk
    unfold f_X8_layTimes_L23 at hk
    refine lv_iload_n hx hb dX8_layTimes_23 rfl (lv_at hl 3 rfl) ?_
    refine lv_bipush (v := 6) hx hb dX8_layTimes_24 (by decide) ?_
    refine lv_icmp_ge (tgt := 131) hx hb dX8_layTimes_26 (by decide) (fun tc5 => ?_) (fun tc5 => ?_)
    · replace hk := tr_ift hk tc5
      replace hk := hex23 _ (tr_okS hk)
      replace hk : tr_ok (f_X8_layTimes_E131 th4) (fun o => o = h0) := hk
      exact j131_23 th4 hk _ _ _ hP hS (lv_sub hl [] rfl)
    · replace hk := tr_iff hk tc5
      refine lv_iconst (v := 0) hx hb dX8_layTimes_29 (by decide) ?_
      refine lv_istore (lv' := [(4, .int 0), (0, .ref (tr_ad w 0)), (1, .ref (tr_ad w tn1)), (2, .int tv901), (3, .int tv3)]) hx hb dX8_layTimes_30 hl (by decide) rfl (fun ls hl => ?_)
      have j125_32 : ∀ (th6 : tr_H), tr_ok (f_X8_layTimes_E125 tv3 th6) P23 → tr_Wd p l e r_X8_layTimes s m args below meth c (MQ below (tr_Qv tr_M w h0) args s 0 0 (tr_R tr_M w)) tr_M w 7 125 [(0, .ref (tr_ad w 0)), (1, .ref (tr_ad w tn1)), (2, .int tv901), (3, .int tv3)] [] th6 := by
        intro th6 hk H locs ls hP hS hl
        unfold f_X8_layTimes_E125 at hk
        obtain ⟨tv7, etv7, hk⟩ := tr_okd hk
        refine lv_iinc (v := tv7) (lv' := [(3, .int tv7), (0, .ref (tr_ad w 0)), (1, .ref (tr_ad w tn1)), (2, .int tv901)]) hx hb dX8_layTimes_125 hl (k := 3) rfl (by rw [etv7]; rfl) (by decide) rfl (fun ls hl => ?_)
        refine lv_goto (tgt := 23) hx hb dX8_layTimes_128 (by decide) ?_
        exact hin23 _ (tr_okS hk) _ _ _ hP hS (lv_sub hl [1, 2, 3, 0] rfl)
      refine tr_loop (fun q => tr_Wd p l e r_X8_layTimes s m args below meth c (MQ below (tr_Qv tr_M w h0) args s 0 0 (tr_R tr_M w)) tr_M w 7 32 [(0, .ref (tr_ad w 0)), (1, .ref (tr_ad w tn1)), (2, .int tv901), (3, .int tv3), (4, .int q.1)] [] q.2) hk ?_ _ _ _ hP hS (lv_sub hl [1, 2, 3, 4, 0] rfl)
      intro P32 hin32 hex32 q hk
      obtain ⟨tv8, th9⟩ := q
      intro H locs ls hP hS hl
      replace hk : tr_ok (f_X8_layTimes_L32 tn1 tv901 tv8 th9) P32 := hk
      unfold f_X8_layTimes_L32 at hk
      refine lv_iload hx hb dX8_layTimes_32 (lv_at hl 4 rfl) ?_
      refine lv_aload_n hx hb dX8_layTimes_34 rfl (lv_at hl 1 rfl) ?_
      refine lv_iconst (v := 0) hx hb dX8_layTimes_35 (by decide) ?_
      refine tr_ial C hP (tr_pg_ar htn1 w) (show ¬ ((0 : Int32) < 0 ∨ 37 ≤ (0 : Int32).toNatClampNeg) by decide) dX8_layTimes_36 ?_
      refine lv_icmp_ge (tgt := 125) hx hb dX8_layTimes_37 (by decide) (fun tc10 => ?_) (fun tc10 => ?_)
      · replace hk := tr_ift hk tc10
        replace hk := hex32 _ (tr_okS hk)
        replace hk : tr_ok (f_X8_layTimes_E125 tv3 th9) P23 := hk
        exact j125_32 th9 hk _ _ _ hP hS (lv_sub hl [0, 1, 2, 3] rfl)
      · replace hk := tr_iff hk tc10
        refine lv_iconst (v := 0) hx hb dX8_layTimes_40 (by decide) ?_
        refine lv_istore (lv' := [(5, .int 0), (0, .ref (tr_ad w 0)), (1, .ref (tr_ad w tn1)), (2, .int tv901), (3, .int tv3), (4, .int tv8)]) hx hb dX8_layTimes_41 hl (by decide) rfl (fun ls hl => ?_)
        have j119_43 : ∀ (th11 : tr_H), tr_ok (f_X8_layTimes_E119 tv8 th11) P32 → tr_Wd p l e r_X8_layTimes s m args below meth c (MQ below (tr_Qv tr_M w h0) args s 0 0 (tr_R tr_M w)) tr_M w 7 119 [(0, .ref (tr_ad w 0)), (1, .ref (tr_ad w tn1)), (2, .int tv901), (3, .int tv3), (4, .int tv8)] [] th11 := by
          intro th11 hk H locs ls hP hS hl
          unfold f_X8_layTimes_E119 at hk
          obtain ⟨tv12, etv12, hk⟩ := tr_okd hk
          refine lv_iinc (v := tv12) (lv' := [(4, .int tv12), (0, .ref (tr_ad w 0)), (1, .ref (tr_ad w tn1)), (2, .int tv901), (3, .int tv3)]) hx hb dX8_layTimes_119 hl (k := 4) rfl (by rw [etv12]; rfl) (by decide) rfl (fun ls hl => ?_)
          refine lv_goto (tgt := 32) hx hb dX8_layTimes_122 (by decide) ?_
          exact hin32 _ (tr_okS hk) _ _ _ hP hS (lv_sub hl [1, 2, 3, 4, 0] rfl)
        refine tr_loop (fun q => tr_Wd p l e r_X8_layTimes s m args below meth c (MQ below (tr_Qv tr_M w h0) args s 0 0 (tr_R tr_M w)) tr_M w 7 43 [(0, .ref (tr_ad w 0)), (1, .ref (tr_ad w tn1)), (2, .int tv901), (3, .int tv3), (4, .int tv8), (5, .int q.1)] [] q.2) hk ?_ _ _ _ hP hS (lv_sub hl [1, 2, 3, 4, 5, 0] rfl)
        intro P43 hin43 hex43 q hk
        obtain ⟨tv13, th14⟩ := q
        intro H locs ls hP hS hl
        replace hk : tr_ok (f_X8_layTimes_L43 tn1 tv8 tv901 tv13 th14) P43 := hk
        unfold f_X8_layTimes_L43 at hk
        refine lv_iload hx hb dX8_layTimes_43 (lv_at hl 5 rfl) ?_
        refine lv_aload_n hx hb dX8_layTimes_45 rfl (lv_at hl 1 rfl) ?_
        refine lv_iconst (v := 0) hx hb dX8_layTimes_46 (by decide) ?_
        refine tr_ial C hP (tr_pg_ar htn1 w) (show ¬ ((0 : Int32) < 0 ∨ 37 ≤ (0 : Int32).toNatClampNeg) by decide) dX8_layTimes_47 ?_
        refine lv_icmp_ge (tgt := 119) hx hb dX8_layTimes_48 (by decide) (fun tc15 => ?_) (fun tc15 => ?_)
        · replace hk := tr_ift hk tc15
          replace hk := hex43 _ (tr_okS hk)
          replace hk : tr_ok (f_X8_layTimes_E119 tv8 th14) P32 := hk
          exact j119_43 th14 hk _ _ _ hP hS (lv_sub hl [0, 1, 2, 3, 4] rfl)
        · replace hk := tr_iff hk tc15
          refine lv_aload_n hx hb dX8_layTimes_51 rfl (lv_at hl 0 rfl) ?_
          refine gf_X8_47 C hP dX8_layTimes_52 ?_
          refine lv_iload hx hb dX8_layTimes_55 (lv_at hl 4 rfl) ?_
          obtain ⟨tg16, hk⟩ := tr_okg hk
          refine tr_ial C hP (ar_M_13 w) tg16 dX8_layTimes_57 ?_
          refine lv_aload_n hx hb dX8_layTimes_58 rfl (lv_at hl 1 rfl) ?_
          refine lv_iload hx hb dX8_layTimes_59 (lv_at hl 4 rfl) ?_
          refine lv_iload hx hb dX8_layTimes_61 (lv_at hl 5 rfl) ?_
          obtain ⟨tv18, tq17, hk⟩ := tr_okb hk
          refine tr_csi (As := [.ref (tr_ad w tn1), .int tv8, .int tv13]) (rest := [.int (th14.1 13 tv8.toNatClampNeg)]) C hP hS hl (c_X8_minutesOf l w tn1 htn1 tv8 tv13 th14 tv18 tq17) mz_X8_minutesOf ml_X8_67 rfl rfl ⟨Nat.le_of_ble_eq_true rfl, Nat.le_of_ble_eq_true rfl⟩ rfl rfl (Nat.le_of_ble_eq_true rfl) ⟨Nat.le_refl _, Nat.le_refl _⟩ dX8_layTimes_63 (fun H locs hP hS => ?_)
          refine lv_iadd hx hb dX8_layTimes_66 ?_
          refine lv_iload_n hx hb dX8_layTimes_67 rfl (lv_at hl 2 rfl) ?_
          refine lv_isub hx hb dX8_layTimes_68 ?_
          refine tr_ti hk (fun tv19 hk => ?_)
          refine lv_istore (lv' := [(6, .int tv19), (0, .ref (tr_ad w 0)), (1, .ref (tr_ad w tn1)), (2, .int tv901), (3, .int tv3), (4, .int tv8), (5, .int tv13)]) hx hb dX8_layTimes_69 hl (by decide) rfl (fun ls hl => ?_)
          refine lv_aload_n hx hb dX8_layTimes_71 rfl (lv_at hl 1 rfl) ?_
          refine gf_X8_47 C hP dX8_layTimes_72 ?_
          refine lv_iload hx hb dX8_layTimes_75 (lv_at hl 6 rfl) ?_
          refine lv_aload_n hx hb dX8_layTimes_77 rfl (lv_at hl 2 rfl) ?_
          refine lv_iload hx hb dX8_layTimes_78 (lv_at hl 5 rfl) ?_
          refine lv_iload hx hb dX8_layTimes_80 (lv_at hl 6 rfl) ?_
          obtain ⟨tv21, tq20, hk⟩ := tr_okb hk
          refine tr_csi (As := [.ref (tr_ad w tn1), .int tv8, .int tv13]) (rest := [.int tv13, .ref (tr_ad w 13)]) C hP hS hl (c_X8_isThere l w tn1 htn1 tv8 tv13 th14 tv21 tq20) mz_X8_isThere ml_X8_79 rfl rfl ⟨Nat.le_of_ble_eq_true rfl, Nat.le_of_ble_eq_true rfl⟩ rfl rfl (Nat.le_of_ble_eq_true rfl) ⟨Nat.le_refl _, Nat.le_refl _⟩ dX8_layTimes_82 (fun H locs hP hS => ?_)
          refine lv_if_eq (tgt := 105) hx hb dX8_layTimes_85 (by decide) (fun tc22 => ?_) (fun tc22 => ?_)
          · replace hk := tr_ift hk tc22
            refine lv_aload_n hx hb dX8_layTimes_105 rfl (lv_at hl 1 rfl) ?_
            refine gf_X8_47 C hP dX8_layTimes_106 ?_
            refine lv_iload hx hb dX8_layTimes_109 (lv_at hl 6 rfl) ?_
            obtain ⟨tg23, hk⟩ := tr_okg hk
            refine tr_ial C hP (ar_M_13 w) tg23 dX8_layTimes_111 ?_
            obtain ⟨tg24, hk⟩ := tr_okg hk
            refine tr_ias C hP hS (ar_M_13 w) tg24 dX8_layTimes_112 (fun H locs hP hS => ?_)
            refine tr_th hk hP (fun th25 hk hP => ?_)
            obtain ⟨tv26, etv26, hk⟩ := tr_okd hk
            refine lv_iinc (v := tv26) (lv' := [(5, .int tv26), (6, .int tv19), (0, .ref (tr_ad w 0)), (1, .ref (tr_ad w tn1)), (2, .int tv901), (3, .int tv3), (4, .int tv8)]) hx hb dX8_layTimes_113 hl (k := 6) rfl (by rw [etv26]; rfl) (by decide) rfl (fun ls hl => ?_)
            refine lv_goto (tgt := 43) hx hb dX8_layTimes_116 (by decide) ?_
            exact hin43 _ (tr_okS hk) _ _ _ hP hS (lv_sub hl [2, 3, 4, 5, 6, 0] rfl)
          · replace hk := tr_iff hk tc22
            refine lv_iload hx hb dX8_layTimes_88 (lv_at hl 0 rfl) ?_
            refine lv_aload_n hx hb dX8_layTimes_90 rfl (lv_at hl 1 rfl) ?_
            refine gf_X8_47 C hP dX8_layTimes_91 ?_
            refine lv_iload hx hb dX8_layTimes_94 (lv_at hl 6 rfl) ?_
            obtain ⟨tg27, hk⟩ := tr_okg hk
            refine tr_ial C hP (ar_M_13 w) tg27 dX8_layTimes_96 ?_
            refine lv_icmp_le (tgt := 105) hx hb dX8_layTimes_97 (by decide) (fun tc28 => ?_) (fun tc28 => ?_)
            · replace hk := tr_ift hk tc28
              refine lv_aload_n hx hb dX8_layTimes_105 rfl (lv_at hl 1 rfl) ?_
              refine gf_X8_47 C hP dX8_layTimes_106 ?_
              refine lv_iload hx hb dX8_layTimes_109 (lv_at hl 6 rfl) ?_
              obtain ⟨tg29, hk⟩ := tr_okg hk
              refine tr_ial C hP (ar_M_13 w) tg29 dX8_layTimes_111 ?_
              obtain ⟨tg30, hk⟩ := tr_okg hk
              refine tr_ias C hP hS (ar_M_13 w) tg30 dX8_layTimes_112 (fun H locs hP hS => ?_)
              refine tr_th hk hP (fun th31 hk hP => ?_)
              obtain ⟨tv32, etv32, hk⟩ := tr_okd hk
              refine lv_iinc (v := tv32) (lv' := [(5, .int tv32), (6, .int tv19), (0, .ref (tr_ad w 0)), (1, .ref (tr_ad w tn1)), (2, .int tv901), (3, .int tv3), (4, .int tv8)]) hx hb dX8_layTimes_113 hl (k := 6) rfl (by rw [etv32]; rfl) (by decide) rfl (fun ls hl => ?_)
              refine lv_goto (tgt := 43) hx hb dX8_layTimes_116 (by decide) ?_
              exact hin43 _ (tr_okS hk) _ _ _ hP hS (lv_sub hl [2, 3, 4, 5, 6, 0] rfl)
            · replace hk := tr_iff hk tc28
              refine lv_iload hx hb dX8_layTimes_100 (lv_at hl 0 rfl) ?_
              refine lv_goto (tgt := 112) hx hb dX8_layTimes_102 (by decide) ?_
              obtain ⟨tg33, hk⟩ := tr_okg hk
              refine tr_ias C hP hS (ar_M_13 w) tg33 dX8_layTimes_112 (fun H locs hP hS => ?_)
              refine tr_th hk hP (fun th34 hk hP => ?_)
              obtain ⟨tv35, etv35, hk⟩ := tr_okd hk
              refine lv_iinc (v := tv35) (lv' := [(5, .int tv35), (6, .int tv19), (0, .ref (tr_ad w 0)), (1, .ref (tr_ad w tn1)), (2, .int tv901), (3, .int tv3), (4, .int tv8)]) hx hb dX8_layTimes_113 hl (k := 6) rfl (by rw [etv35]; rfl) (by decide) rfl (fun ls hl => ?_)
              refine lv_goto (tgt := 43) hx hb dX8_layTimes_116 (by decide) ?_
              exact hin43 _ (tr_okS hk) _ _ _ hP hS (lv_sub hl [2, 3, 4, 5, 6, 0] rfl)
  refine tr_loop (fun q => tr_Wd p l e r_X8_layTimes s m args below meth c (MQ below (tr_Qv tr_M w h0) args s 0 0 (tr_R tr_M w)) tr_M w 7 2 [(0, .ref (tr_ad w 0)), (1, .ref (tr_ad w tn1)), (2, .int tv901), (3, .int q.1)] [] q.2) hk ?_ _ _ _ hP hS (lv_sub hl [1, 2, 3, 0] rfl)
  intro P2 hin2 hex2 q hk
  obtain ⟨tv36, th37⟩ := q
  intro H locs ls hP hS hl
  replace hk : tr_ok (f_X8_layTimes_L2 tv36 th37) P2 := hk
  unfold f_X8_layTimes_L2 at hk
  refine lv_iload_n hx hb dX8_layTimes_2 rfl (lv_at hl 3 rfl) ?_
  refine lv_bipush (v := 6) hx hb dX8_layTimes_3 (by decide) ?_
  refine lv_icmp_ge (tgt := 21) hx hb dX8_layTimes_5 (by decide) (fun tc38 => ?_) (fun tc38 => ?_)
  · replace hk := tr_ift hk tc38
    replace hk := hex2 _ (tr_okS hk)
    replace hk : tr_ok (f_X8_layTimes_E21 tn1 tv901 th37) (fun o => o = h0) := hk
    exact j21_2 th37 hk _ _ _ hP hS (lv_sub hl [0, 1, 2] rfl)
  · replace hk := tr_iff hk tc38
    refine lv_aload_n hx hb dX8_layTimes_8 rfl (lv_at hl 0 rfl) ?_
    refine gf_X8_47 C hP dX8_layTimes_9 ?_
    refine lv_iload_n hx hb dX8_layTimes_12 rfl (lv_at hl 3 rfl) ?_
    refine lv_iconst (v := 0) hx hb dX8_layTimes_13 (by decide) ?_
    obtain ⟨tg39, hk⟩ := tr_okg hk
    refine tr_ias C hP hS (ar_M_13 w) tg39 dX8_layTimes_14 (fun H locs hP hS => ?_)
    refine tr_th hk hP (fun th40 hk hP => ?_)
    obtain ⟨tv41, etv41, hk⟩ := tr_okd hk
    refine lv_iinc (v := tv41) (lv' := [(3, .int tv41), (0, .ref (tr_ad w 0)), (1, .ref (tr_ad w tn1)), (2, .int tv901)]) hx hb dX8_layTimes_15 hl (k := 3) rfl (by rw [etv41]; rfl) (by decide) rfl (fun ls hl => ?_)
    refine lv_goto (tgt := 2) hx hb dX8_layTimes_18 (by decide) ?_
    exact hin2 _ (tr_okS hk) _ _ _ hP hS (lv_sub hl [1, 2, 3, 0] rfl)
abbrev r_X8_spareOf : Room := { frames := 1, cells := 0, slots := 0, locals := 22 }
set_option maxHeartbeats 4000000 in
set_option maxRecDepth 100000 in
theorem c_X8_spareOf (l : Launch) (w : tr_E) (tn1 : Nat) (htn1 : tr_pg tn1) (tv901 : Int32) (tv902 : Int32) (tv903 : Int32) (h : tr_H) (r0 : Int32) (hk : f_X8_spareOf tn1 tv901 tv902 tv903 h = some r0) : Met l yX8_spareOf (Cond.code yX8_spareOf cX8_spareOf 5 (some .int) :: tr_T) r_X8_spareOf (va_Pc [.ref (tr_ad w 0), .ref (tr_ad w tn1), .int tv901, .int tv902, .int tv903] (tr_Wo tr_M w h)) (tr_Qi tr_M w r0 h) 0 0 (tr_R tr_M w) := by
  refine tr_start (by decide) (Nat.le_refl _) ?_
  intro p e s m args below meth c C hr hlocks hargs hP
  have hx := C.1
  have hb := C.2.1
  have hS : va_S (tr_R tr_M w) s.heap s.heap [] := va_S.rf
  have hl := lv_entry ([.ref (tr_ad w 0), .ref (tr_ad w tn1), .int tv901, .int tv902, .int tv903]) (n := 5) (Nat.le_of_ble_eq_true rfl)
  rw [lg_entry_eq]
  generalize (lg_sl ([.ref (tr_ad w 0), .ref (tr_ad w tn1), .int tv901, .int tv902, .int tv903]) ++ List.replicate (5 - (lg_sl ([.ref (tr_ad w 0), .ref (tr_ad w tn1), .int tv901, .int tv902, .int tv903])).length) Slot.unset).toArray = ls at hl ⊢
  have hl : lv_has ls 5 [(0, .ref (tr_ad w 0)), (1, .ref (tr_ad w tn1)), (2, .int tv901), (3, .int tv902), (4, .int tv903)] := hl
  replace hk : tr_ok (f_X8_spareOf tn1 tv901 tv902 tv903 h) (fun o => o = r0) := ⟨_, hk, rfl⟩
  unfold f_X8_spareOf at hk
  refine lv_aload_n hx hb dX8_spareOf_0 rfl (lv_at hl 0 rfl) ?_
  refine gf_X8_47 C hP dX8_spareOf_1 ?_
  refine lv_iload_n hx hb dX8_spareOf_4 rfl (lv_at hl 3 rfl) ?_
  obtain ⟨tg1, hk⟩ := tr_okg hk
  refine tr_ial C hP (ar_M_13 w) tg1 dX8_spareOf_5 ?_
  refine lv_iload hx hb dX8_spareOf_6 (lv_at hl 4 rfl) ?_
  refine lv_iadd hx hb dX8_spareOf_8 ?_
  refine lv_aload_n hx hb dX8_spareOf_9 rfl (lv_at hl 0 rfl) ?_
  refine gf_X8_47 C hP dX8_spareOf_10 ?_
  refine lv_iload_n hx hb dX8_spareOf_13 rfl (lv_at hl 2 rfl) ?_
  obtain ⟨tg2, hk⟩ := tr_okg hk
  refine tr_ial C hP (ar_M_13 w) tg2 dX8_spareOf_14 ?_
  refine lv_isub hx hb dX8_spareOf_15 ?_
  refine lv_aload_n hx hb dX8_spareOf_16 rfl (lv_at hl 1 rfl) ?_
  refine lv_iload_n hx hb dX8_spareOf_17 rfl (lv_at hl 2 rfl) ?_
  refine lv_iload_n hx hb dX8_spareOf_18 rfl (lv_at hl 3 rfl) ?_
  obtain ⟨tv4, tq3, hk⟩ := tr_okb hk
  refine tr_csi (As := [.ref (tr_ad w tn1), .int tv901, .int tv902]) (rest := [.int (((h.1 13 tv902.toNatClampNeg) + tv903) - (h.1 13 tv901.toNatClampNeg))]) C hP hS hl (c_X8_minutesOf l w tn1 htn1 tv901 tv902 h tv4 tq3) mz_X8_minutesOf ml_X8_67 rfl rfl ⟨Nat.le_of_ble_eq_true rfl, Nat.le_of_ble_eq_true rfl⟩ rfl rfl (Nat.le_of_ble_eq_true rfl) ⟨Nat.le_refl _, Nat.le_refl _⟩ dX8_spareOf_19 (fun H locs hP hS => ?_)
  refine lv_isub hx hb dX8_spareOf_22 ?_
  exact tr_iret C hP hS hr hlocks (congrArg (fun x => (x, h)) (tr_okS (P := (fun o => o = r0)) hk)) dX8_spareOf_23
abbrev r_X8_departs : Room := { frames := 6, cells := 0, slots := 0, locals := 142 }
set_option maxHeartbeats 4000000 in
set_option maxRecDepth 100000 in
theorem c_X8_departs (l : Launch) (w : tr_E) (tv900 : Int32) (tv901 : Int32) (h : tr_H) (r0 : Int32) (h0 : tr_H) (hk : f_X8_departs tv900 tv901 h = some (r0, h0)) : Met l yX8_departs (Cond.code yX8_departs cX8_departs 3 (some .int) :: tr_T) r_X8_departs (va_Pc [.ref (tr_ad w 0), .int tv900, .int tv901] (tr_Wo tr_M w h)) (tr_Qi tr_M w r0 h0) 0 0 (tr_R tr_M w) := by
  refine tr_start (by decide) (Nat.le_refl _) ?_
  intro p e s m args below meth c C hr hlocks hargs hP
  have hx := C.1
  have hb := C.2.1
  have hS : va_S (tr_R tr_M w) s.heap s.heap [] := va_S.rf
  have hl := lv_entry ([.ref (tr_ad w 0), .int tv900, .int tv901]) (n := 3) (Nat.le_of_ble_eq_true rfl)
  rw [lg_entry_eq]
  generalize (lg_sl ([.ref (tr_ad w 0), .int tv900, .int tv901]) ++ List.replicate (3 - (lg_sl ([.ref (tr_ad w 0), .int tv900, .int tv901])).length) Slot.unset).toArray = ls at hl ⊢
  have hl : lv_has ls 3 [(0, .ref (tr_ad w 0)), (1, .int tv900), (2, .int tv901)] := hl
  replace hk : tr_ok (f_X8_departs tv900 tv901 h) (fun o => o = (r0, h0)) := ⟨_, hk, rfl⟩
  unfold f_X8_departs at hk
  refine lv_aload_n hx hb dX8_departs_0 rfl (lv_at hl 0 rfl) ?_
  refine lv_iconst (v := 0) hx hb dX8_departs_1 (by decide) ?_
  refine pf_X8_59 C hP hS dX8_departs_2 (fun H locs hP hS => ?_)
  refine tr_th hk hP (fun th1 hk hP => ?_)
  refine lv_aload_n hx hb dX8_departs_5 rfl (lv_at hl 0 rfl) ?_
  refine lv_iload_n hx hb dX8_departs_6 rfl (lv_at hl 1 rfl) ?_
  obtain ⟨tv3, tq2, hk⟩ := tr_okb hk
  refine tr_cvi (As := [.int tv900]) (rest := []) C hP hS hl (c_X8_noDeparture l w tv900 th1 tv3 tq2) mz_X8_noDeparture ml_X8_164 (by decide) rfl rfl rfl rfl ⟨Nat.le_of_ble_eq_true rfl, Nat.le_of_ble_eq_true rfl⟩ rfl rfl (Nat.le_of_ble_eq_true rfl) ⟨Nat.le_refl _, Nat.le_refl _⟩ dX8_departs_7 (fun H locs hP hS => ?_)
  refine lv_if_eq (tgt := 15) hx hb dX8_departs_10 (by decide) (fun tc4 => ?_) (fun tc4 => ?_)
  · replace hk := tr_ift hk tc4
    refine lv_iload_n hx hb dX8_departs_15 rfl (lv_at hl 2 rfl) ?_
    refine lv_i2l hx hb dX8_departs_16 rfl ?_
    refine lv_lconst (v := 0) hx hb dX8_departs_17 (by decide) ?_
    refine lv_ldc2 (v := 20) hx hb C.2.2.2.1 (C.2.2.2.2.1 _ mc_X8_181) dX8_departs_18 ?_
    obtain ⟨tv6, tq5, hk⟩ := tr_okb hk
    refine tr_csi (As := [.long ((tv901 : Int32).toInt64), .long 0, .long 20]) (rest := []) C hP hS hl (c_X8_in l w ((tv901 : Int32).toInt64) 0 20 th1 tv6 tq5) mz_X8_in ml_X8_63 rfl rfl ⟨Nat.le_of_ble_eq_true rfl, Nat.le_of_ble_eq_true rfl⟩ rfl rfl (Nat.le_of_ble_eq_true rfl) ⟨Nat.le_refl _, Nat.le_refl _⟩ dX8_departs_21 (fun H locs hP hS => ?_)
    refine lv_if_ne (tgt := 30) hx hb dX8_departs_24 (by decide) (fun tc7 => ?_) (fun tc7 => ?_)
    · replace hk := tr_iff hk tc7
      refine lv_aload_n hx hb dX8_departs_30 rfl (lv_at hl 0 rfl) ?_
      refine lv_aload_n hx hb dX8_departs_31 rfl (lv_at hl 0 rfl) ?_
      refine gf_X8_16 C hP dX8_departs_32 ?_
      refine lv_iload_n hx hb dX8_departs_35 rfl (lv_at hl 2 rfl) ?_
      obtain ⟨tv9, th10, tq8, hk⟩ := tr_okb2 hk
      refine tr_cvi (As := [.ref (tr_ad w 3), .int tv901]) (rest := []) C hP hS hl (c_X8_isPeriod l w 3 tr_pg_3 tv901 th1 tv9 th10 tq8) mz_X8_isPeriod ml_X8_150 (by decide) rfl rfl rfl rfl ⟨Nat.le_of_ble_eq_true rfl, Nat.le_of_ble_eq_true rfl⟩ rfl rfl (Nat.le_of_ble_eq_true rfl) ⟨Nat.le_refl _, Nat.le_refl _⟩ dX8_departs_36 (fun H locs hP hS => ?_)
      refine lv_if_ne (tgt := 45) hx hb dX8_departs_39 (by decide) (fun tc11 => ?_) (fun tc11 => ?_)
      · replace hk := tr_iff hk tc11
        refine lv_aload_n hx hb dX8_departs_45 rfl (lv_at hl 0 rfl) ?_
        refine lv_aload_n hx hb dX8_departs_46 rfl (lv_at hl 0 rfl) ?_
        refine gf_X8_16 C hP dX8_departs_47 ?_
        refine lv_iload_n hx hb dX8_departs_50 rfl (lv_at hl 2 rfl) ?_
        obtain ⟨th13, tq12, hk⟩ := tr_okb hk
        refine tr_cvv (As := [.ref (tr_ad w 3), .int tv901]) (rest := []) C hP hS hl (c_X8_layTimes l w 3 tr_pg_3 tv901 th10 th13 tq12) mz_X8_layTimes ml_X8_183 (by decide) rfl rfl rfl rfl ⟨Nat.le_of_ble_eq_true rfl, Nat.le_of_ble_eq_true rfl⟩ rfl rfl (Nat.le_of_ble_eq_true rfl) ⟨Nat.le_refl _, Nat.le_refl _⟩ dX8_departs_51 (fun H locs hP hS => ?_)
        refine lv_aload_n hx hb dX8_departs_54 rfl (lv_at hl 0 rfl) ?_
        refine gf_X8_47 C hP dX8_departs_55 ?_
        refine lv_iload_n hx hb dX8_departs_58 rfl (lv_at hl 1 rfl) ?_
        obtain ⟨tg14, hk⟩ := tr_okg hk
        refine tr_ial C hP (ar_M_13 w) tg14 dX8_departs_59 ?_
        exact tr_iret C hP hS hr hlocks (tr_okS (P := (fun o => o = (r0, h0))) hk) dX8_departs_60
      · replace hk := tr_ift hk tc11
        refine lv_bipush (v := (-3)) hx hb dX8_departs_42 (by decide) ?_
        exact tr_iret C hP hS hr hlocks (tr_okS (P := (fun o => o = (r0, h0))) hk) dX8_departs_44
    · replace hk := tr_ift hk tc7
      refine lv_bipush (v := (-2)) hx hb dX8_departs_27 (by decide) ?_
      exact tr_iret C hP hS hr hlocks (tr_okS (P := (fun o => o = (r0, h0))) hk) dX8_departs_29
  · replace hk := tr_iff hk tc4
    refine lv_iconst (v := (-1)) hx hb dX8_departs_13 (by decide) ?_
    exact tr_iret C hP hS hr hlocks (tr_okS (P := (fun o => o = (r0, h0))) hk) dX8_departs_14
abbrev r_X8_spare : Room := { frames := 6, cells := 0, slots := 0, locals := 142 }
set_option maxHeartbeats 4000000 in
set_option maxRecDepth 100000 in
theorem c_X8_spare (l : Launch) (w : tr_E) (tv900 : Int32) (tv901 : Int32) (tv902 : Int32) (h : tr_H) (r0 : Int32) (h0 : tr_H) (hk : f_X8_spare tv900 tv901 tv902 h = some (r0, h0)) : Met l yX8_spare (Cond.code yX8_spare cX8_spare 4 (some .int) :: tr_T) r_X8_spare (va_Pc [.ref (tr_ad w 0), .int tv900, .int tv901, .int tv902] (tr_Wo tr_M w h)) (tr_Qi tr_M w r0 h0) 0 0 (tr_R tr_M w) := by
  refine tr_start (by decide) (Nat.le_refl _) ?_
  intro p e s m args below meth c C hr hlocks hargs hP
  have hx := C.1
  have hb := C.2.1
  have hS : va_S (tr_R tr_M w) s.heap s.heap [] := va_S.rf
  have hl := lv_entry ([.ref (tr_ad w 0), .int tv900, .int tv901, .int tv902]) (n := 4) (Nat.le_of_ble_eq_true rfl)
  rw [lg_entry_eq]
  generalize (lg_sl ([.ref (tr_ad w 0), .int tv900, .int tv901, .int tv902]) ++ List.replicate (4 - (lg_sl ([.ref (tr_ad w 0), .int tv900, .int tv901, .int tv902])).length) Slot.unset).toArray = ls at hl ⊢
  have hl : lv_has ls 4 [(0, .ref (tr_ad w 0)), (1, .int tv900), (2, .int tv901), (3, .int tv902)] := hl
  replace hk : tr_ok (f_X8_spare tv900 tv901 tv902 h) (fun o => o = (r0, h0)) := ⟨_, hk, rfl⟩
  unfold f_X8_spare at hk
  refine lv_aload_n hx hb dX8_spare_0 rfl (lv_at hl 0 rfl) ?_
  refine lv_iconst (v := 0) hx hb dX8_spare_1 (by decide) ?_
  refine pf_X8_59 C hP hS dX8_spare_2 (fun H locs hP hS => ?_)
  refine tr_th hk hP (fun th1 hk hP => ?_)
  refine lv_aload_n hx hb dX8_spare_5 rfl (lv_at hl 0 rfl) ?_
  refine lv_iload_n hx hb dX8_spare_6 rfl (lv_at hl 1 rfl) ?_
  obtain ⟨tv3, tq2, hk⟩ := tr_okb hk
  refine tr_cvi (As := [.int tv900]) (rest := []) C hP hS hl (c_X8_noDeparture l w tv900 th1 tv3 tq2) mz_X8_noDeparture ml_X8_164 (by decide) rfl rfl rfl rfl ⟨Nat.le_of_ble_eq_true rfl, Nat.le_of_ble_eq_true rfl⟩ rfl rfl (Nat.le_of_ble_eq_true rfl) ⟨Nat.le_refl _, Nat.le_refl _⟩ dX8_spare_7 (fun H locs hP hS => ?_)
  refine lv_if_ne (tgt := 21) hx hb dX8_spare_10 (by decide) (fun tc4 => ?_) (fun tc4 => ?_)
  · replace hk := tr_iff hk tc4
    refine lv_iconst (v := (-1)) hx hb dX8_spare_21 (by decide) ?_
    exact tr_iret C hP hS hr hlocks (tr_okS (P := (fun o => o = (r0, h0))) hk) dX8_spare_22
  · replace hk := tr_ift hk tc4
    refine lv_aload_n hx hb dX8_spare_13 rfl (lv_at hl 0 rfl) ?_
    refine lv_iload_n hx hb dX8_spare_14 rfl (lv_at hl 2 rfl) ?_
    obtain ⟨tv6, tq5, hk⟩ := tr_okb hk
    refine tr_cvi (As := [.int tv901]) (rest := []) C hP hS hl (c_X8_noDeparture l w tv901 th1 tv6 tq5) mz_X8_noDeparture ml_X8_164 (by decide) rfl rfl rfl rfl ⟨Nat.le_of_ble_eq_true rfl, Nat.le_of_ble_eq_true rfl⟩ rfl rfl (Nat.le_of_ble_eq_true rfl) ⟨Nat.le_refl _, Nat.le_refl _⟩ dX8_spare_15 (fun H locs hP hS => ?_)
    refine lv_if_eq (tgt := 23) hx hb dX8_spare_18 (by decide) (fun tc7 => ?_) (fun tc7 => ?_)
    · replace hk := tr_ift hk tc7
      refine lv_iload_n hx hb dX8_spare_23 rfl (lv_at hl 3 rfl) ?_
      refine lv_i2l hx hb dX8_spare_24 rfl ?_
      refine lv_lconst (v := 0) hx hb dX8_spare_25 (by decide) ?_
      refine lv_ldc2 (v := 20) hx hb C.2.2.2.1 (C.2.2.2.2.1 _ mc_X8_181) dX8_spare_26 ?_
      obtain ⟨tv9, tq8, hk⟩ := tr_okb hk
      refine tr_csi (As := [.long ((tv902 : Int32).toInt64), .long 0, .long 20]) (rest := []) C hP hS hl (c_X8_in l w ((tv902 : Int32).toInt64) 0 20 th1 tv9 tq8) mz_X8_in ml_X8_63 rfl rfl ⟨Nat.le_of_ble_eq_true rfl, Nat.le_of_ble_eq_true rfl⟩ rfl rfl (Nat.le_of_ble_eq_true rfl) ⟨Nat.le_refl _, Nat.le_refl _⟩ dX8_spare_29 (fun H locs hP hS => ?_)
      refine lv_if_ne (tgt := 38) hx hb dX8_spare_32 (by decide) (fun tc10 => ?_) (fun tc10 => ?_)
      · replace hk := tr_iff hk tc10
        refine lv_aload_n hx hb dX8_spare_38 rfl (lv_at hl 0 rfl) ?_
        refine gf_X8_16 C hP dX8_spare_39 ?_
        refine lv_iload_n hx hb dX8_spare_42 rfl (lv_at hl 1 rfl) ?_
        refine lv_iload_n hx hb dX8_spare_43 rfl (lv_at hl 2 rfl) ?_
        obtain ⟨tv12, tq11, hk⟩ := tr_okb hk
        refine tr_csi (As := [.ref (tr_ad w 3), .int tv900, .int tv901]) (rest := []) C hP hS hl (c_X8_isThere l w 3 tr_pg_3 tv900 tv901 th1 tv12 tq11) mz_X8_isThere ml_X8_79 rfl rfl ⟨Nat.le_of_ble_eq_true rfl, Nat.le_of_ble_eq_true rfl⟩ rfl rfl (Nat.le_of_ble_eq_true rfl) ⟨Nat.le_refl _, Nat.le_refl _⟩ dX8_spare_44 (fun H locs hP hS => ?_)
        refine lv_if_eq (tgt := 62) hx hb dX8_spare_47 (by decide) (fun tc13 => ?_) (fun tc13 => ?_)
        · replace hk := tr_ift hk tc13
          refine lv_bipush (v := (-3)) hx hb dX8_spare_62 (by decide) ?_
          exact tr_iret C hP hS hr hlocks (tr_okS (P := (fun o => o = (r0, h0))) hk) dX8_spare_64
        · replace hk := tr_iff hk tc13
          refine lv_aload_n hx hb dX8_spare_50 rfl (lv_at hl 0 rfl) ?_
          refine lv_aload_n hx hb dX8_spare_51 rfl (lv_at hl 0 rfl) ?_
          refine gf_X8_16 C hP dX8_spare_52 ?_
          refine lv_iload_n hx hb dX8_spare_55 rfl (lv_at hl 3 rfl) ?_
          obtain ⟨tv15, th16, tq14, hk⟩ := tr_okb2 hk
          refine tr_cvi (As := [.ref (tr_ad w 3), .int tv902]) (rest := []) C hP hS hl (c_X8_isPeriod l w 3 tr_pg_3 tv902 th1 tv15 th16 tq14) mz_X8_isPeriod ml_X8_150 (by decide) rfl rfl rfl rfl ⟨Nat.le_of_ble_eq_true rfl, Nat.le_of_ble_eq_true rfl⟩ rfl rfl (Nat.le_of_ble_eq_true rfl) ⟨Nat.le_refl _, Nat.le_refl _⟩ dX8_spare_56 (fun H locs hP hS => ?_)
          refine lv_if_ne (tgt := 65) hx hb dX8_spare_59 (by decide) (fun tc17 => ?_) (fun tc17 => ?_)
          · replace hk := tr_iff hk tc17
            refine lv_aload_n hx hb dX8_spare_65 rfl (lv_at hl 0 rfl) ?_
            refine lv_aload_n hx hb dX8_spare_66 rfl (lv_at hl 0 rfl) ?_
            refine gf_X8_16 C hP dX8_spare_67 ?_
            refine lv_iload_n hx hb dX8_spare_70 rfl (lv_at hl 3 rfl) ?_
            obtain ⟨th19, tq18, hk⟩ := tr_okb hk
            refine tr_cvv (As := [.ref (tr_ad w 3), .int tv902]) (rest := []) C hP hS hl (c_X8_layTimes l w 3 tr_pg_3 tv902 th16 th19 tq18) mz_X8_layTimes ml_X8_183 (by decide) rfl rfl rfl rfl ⟨Nat.le_of_ble_eq_true rfl, Nat.le_of_ble_eq_true rfl⟩ rfl rfl (Nat.le_of_ble_eq_true rfl) ⟨Nat.le_refl _, Nat.le_refl _⟩ dX8_spare_71 (fun H locs hP hS => ?_)
            refine lv_aload_n hx hb dX8_spare_74 rfl (lv_at hl 0 rfl) ?_
            refine lv_aload_n hx hb dX8_spare_75 rfl (lv_at hl 0 rfl) ?_
            refine gf_X8_16 C hP dX8_spare_76 ?_
            refine lv_iload_n hx hb dX8_spare_79 rfl (lv_at hl 1 rfl) ?_
            refine lv_iload_n hx hb dX8_spare_80 rfl (lv_at hl 2 rfl) ?_
            refine lv_iload_n hx hb dX8_spare_81 rfl (lv_at hl 3 rfl) ?_
            obtain ⟨tv21, tq20, hk⟩ := tr_okb hk
            refine tr_cvi (As := [.ref (tr_ad w 3), .int tv900, .int tv901, .int tv902]) (rest := []) C hP hS hl (c_X8_spareOf l w 3 tr_pg_3 tv900 tv901 tv902 th19 tv21 tq20) mz_X8_spareOf ml_X8_186 (by decide) rfl rfl rfl rfl ⟨Nat.le_of_ble_eq_true rfl, Nat.le_of_ble_eq_true rfl⟩ rfl rfl (Nat.le_of_ble_eq_true rfl) ⟨Nat.le_refl _, Nat.le_refl _⟩ dX8_spare_82 (fun H locs hP hS => ?_)
            exact tr_iret C hP hS hr hlocks (tr_okS (P := (fun o => o = (r0, h0))) hk) dX8_spare_85
          · replace hk := tr_ift hk tc17
            refine lv_bipush (v := (-3)) hx hb dX8_spare_62 (by decide) ?_
            exact tr_iret C hP hS hr hlocks (tr_okS (P := (fun o => o = (r0, h0))) hk) dX8_spare_64
      · replace hk := tr_ift hk tc10
        refine lv_bipush (v := (-2)) hx hb dX8_spare_35 (by decide) ?_
        exact tr_iret C hP hS hr hlocks (tr_okS (P := (fun o => o = (r0, h0))) hk) dX8_spare_37
    · replace hk := tr_iff hk tc7
      refine lv_iconst (v := (-1)) hx hb dX8_spare_21 (by decide) ?_
      exact tr_iret C hP hS hr hlocks (tr_okS (P := (fun o => o = (r0, h0))) hk) dX8_spare_22
abbrev r_X8_beginLate : Room := { frames := 0, cells := 0, slots := 0, locals := 0 }
set_option maxHeartbeats 4000000 in
set_option maxRecDepth 100000 in
theorem c_X8_beginLate (l : Launch) (w : tr_E) (tv900 : Int32) (tv901 : Int32) (h : tr_H) (h0 : tr_H) (hk : f_X8_beginLate tv900 tv901 h = some h0) : Met l yX8_beginLate (Cond.code yX8_beginLate cX8_beginLate 4 none :: tr_T) r_X8_beginLate (va_Pc [.ref (tr_ad w 0), .int tv900, .int tv901] (tr_Wo tr_M w h)) (tr_Qv tr_M w h0) 0 0 (tr_R tr_M w) := by
  refine tr_start (by decide) (Nat.le_refl _) ?_
  intro p e s m args below meth c C hr hlocks hargs hP
  have hx := C.1
  have hb := C.2.1
  have hS : va_S (tr_R tr_M w) s.heap s.heap [] := va_S.rf
  have hl := lv_entry ([.ref (tr_ad w 0), .int tv900, .int tv901]) (n := 4) (Nat.le_of_ble_eq_true rfl)
  rw [lg_entry_eq]
  generalize (lg_sl ([.ref (tr_ad w 0), .int tv900, .int tv901]) ++ List.replicate (4 - (lg_sl ([.ref (tr_ad w 0), .int tv900, .int tv901])).length) Slot.unset).toArray = ls at hl ⊢
  have hl : lv_has ls 4 [(0, .ref (tr_ad w 0)), (1, .int tv900), (2, .int tv901)] := hl
  replace hk : tr_ok (f_X8_beginLate tv900 tv901 h) (fun o => o = h0) := ⟨_, hk, rfl⟩
  unfold f_X8_beginLate at hk
  refine lv_iconst (v := 0) hx hb dX8_beginLate_0 (by decide) ?_
  refine lv_istore_n (lv' := [(3, .int 0), (0, .ref (tr_ad w 0)), (1, .int tv900), (2, .int tv901)]) hx hb dX8_beginLate_1 rfl hl (by decide) rfl (fun ls hl => ?_)
  have j30_2 : ∀ (th1 : tr_H), tr_ok (f_X8_beginLate_E30 th1) (fun o => o = h0) → tr_Wd p l e r_X8_beginLate s m args below meth c (MQ below (tr_Qv tr_M w h0) args s 0 0 (tr_R tr_M w)) tr_M w 4 30 [] [] th1 := by
    intro th1 hk H locs ls hP hS hl
    unfold f_X8_beginLate_E30 at hk
    exact tr_vret C hP hS hr hlocks (tr_okS (P := (fun o => o = h0)) hk) dX8_beginLate_30
  refine tr_loop (fun q => tr_Wd p l e r_X8_beginLate s m args below meth c (MQ below (tr_Qv tr_M w h0) args s 0 0 (tr_R tr_M w)) tr_M w 4 2 [(0, .ref (tr_ad w 0)), (1, .int tv900), (2, .int tv901), (3, .int q.1)] [] q.2) hk ?_ _ _ _ hP hS (lv_sub hl [1, 2, 3, 0] rfl)
  intro P2 hin2 hex2 q hk
  obtain ⟨tv2, th3⟩ := q
  intro H locs ls hP hS hl
  replace hk : tr_ok (f_X8_beginLate_L2 tv900 tv901 tv2 th3) P2 := hk
  unfold f_X8_beginLate_L2 at hk
  refine lv_iload_n hx hb dX8_beginLate_2 rfl (lv_at hl 3 rfl) ?_
  refine lv_bipush (v := 6) hx hb dX8_beginLate_3 (by decide) ?_
  refine lv_icmp_ge (tgt := 30) hx hb dX8_beginLate_5 (by decide) (fun tc4 => ?_) (fun tc4 => ?_)
  · replace hk := tr_ift hk tc4
    replace hk := hex2 _ (tr_okS hk)
    replace hk : tr_ok (f_X8_beginLate_E30 th3) (fun o => o = h0) := hk
    exact j30_2 th3 hk _ _ _ hP hS (lv_sub hl [] rfl)
  · replace hk := tr_iff hk tc4
    refine lv_aload_n hx hb dX8_beginLate_8 rfl (lv_at hl 0 rfl) ?_
    refine gf_X8_50 C hP dX8_beginLate_9 ?_
    refine lv_iload_n hx hb dX8_beginLate_12 rfl (lv_at hl 3 rfl) ?_
    refine lv_iload_n hx hb dX8_beginLate_13 rfl (lv_at hl 3 rfl) ?_
    refine lv_iload_n hx hb dX8_beginLate_14 rfl (lv_at hl 1 rfl) ?_
    refine lv_icmp_ne (tgt := 22) hx hb dX8_beginLate_15 (by decide) (fun tc5 => ?_) (fun tc5 => ?_)
    · replace hk := tr_iff hk tc5
      refine lv_iconst (v := 0) hx hb dX8_beginLate_22 (by decide) ?_
      obtain ⟨tg6, hk⟩ := tr_okg hk
      refine tr_ias C hP hS (ar_M_14 w) tg6 dX8_beginLate_23 (fun H locs hP hS => ?_)
      refine tr_th hk hP (fun th7 hk hP => ?_)
      obtain ⟨tv8, etv8, hk⟩ := tr_okd hk
      refine lv_iinc (v := tv8) (lv' := [(3, .int tv8), (0, .ref (tr_ad w 0)), (1, .int tv900), (2, .int tv901)]) hx hb dX8_beginLate_24 hl (k := 3) rfl (by rw [etv8]; rfl) (by decide) rfl (fun ls hl => ?_)
      refine lv_goto (tgt := 2) hx hb dX8_beginLate_27 (by decide) ?_
      exact hin2 _ (tr_okS hk) _ _ _ hP hS (lv_sub hl [1, 2, 3, 0] rfl)
    · replace hk := tr_ift hk tc5
      refine lv_iload_n hx hb dX8_beginLate_18 rfl (lv_at hl 2 rfl) ?_
      refine lv_goto (tgt := 23) hx hb dX8_beginLate_19 (by decide) ?_
      obtain ⟨tg9, hk⟩ := tr_okg hk
      refine tr_ias C hP hS (ar_M_14 w) tg9 dX8_beginLate_23 (fun H locs hP hS => ?_)
      refine tr_th hk hP (fun th10 hk hP => ?_)
      obtain ⟨tv11, etv11, hk⟩ := tr_okd hk
      refine lv_iinc (v := tv11) (lv' := [(3, .int tv11), (0, .ref (tr_ad w 0)), (1, .int tv900), (2, .int tv901)]) hx hb dX8_beginLate_24 hl (k := 3) rfl (by rw [etv11]; rfl) (by decide) rfl (fun ls hl => ?_)
      refine lv_goto (tgt := 2) hx hb dX8_beginLate_27 (by decide) ?_
      exact hin2 _ (tr_okS hk) _ _ _ hP hS (lv_sub hl [1, 2, 3, 0] rfl)
abbrev r_X8_goRound : Room := { frames := 2, cells := 0, slots := 0, locals := 46 }
set_option maxHeartbeats 4000000 in
set_option maxRecDepth 100000 in
theorem c_X8_goRound (l : Launch) (w : tr_E) (tn1 : Nat) (htn1 : tr_pg tn1) (tv901 : Int32) (h : tr_H) (r0 : Int32) (h0 : tr_H) (hk : f_X8_goRound tn1 tv901 h = some (r0, h0)) : Met l yX8_goRound (Cond.code yX8_goRound cX8_goRound 7 (some .int) :: tr_T) r_X8_goRound (va_Pc [.ref (tr_ad w 0), .ref (tr_ad w tn1), .int tv901] (tr_Wo tr_M w h)) (tr_Qi tr_M w r0 h0) 0 0 (tr_R tr_M w) := by
  refine tr_start (by decide) (Nat.le_refl _) ?_
  intro p e s m args below meth c C hr hlocks hargs hP
  have hx := C.1
  have hb := C.2.1
  have hS : va_S (tr_R tr_M w) s.heap s.heap [] := va_S.rf
  have hl := lv_entry ([.ref (tr_ad w 0), .ref (tr_ad w tn1), .int tv901]) (n := 7) (Nat.le_of_ble_eq_true rfl)
  rw [lg_entry_eq]
  generalize (lg_sl ([.ref (tr_ad w 0), .ref (tr_ad w tn1), .int tv901]) ++ List.replicate (7 - (lg_sl ([.ref (tr_ad w 0), .ref (tr_ad w tn1), .int tv901])).length) Slot.unset).toArray = ls at hl ⊢
  have hl : lv_has ls 7 [(0, .ref (tr_ad w 0)), (1, .ref (tr_ad w tn1)), (2, .int tv901)] := hl
  replace hk : tr_ok (f_X8_goRound tn1 tv901 h) (fun o => o = (r0, h0)) := ⟨_, hk, rfl⟩
  unfold f_X8_goRound at hk
  refine lv_iconst (v := 0) hx hb dX8_goRound_0 (by decide) ?_
  refine lv_istore_n (lv' := [(3, .int 0), (0, .ref (tr_ad w 0)), (1, .ref (tr_ad w tn1)), (2, .int tv901)]) hx hb dX8_goRound_1 rfl hl (by decide) rfl (fun ls hl => ?_)
  refine lv_iconst (v := 0) hx hb dX8_goRound_2 (by decide) ?_
  refine lv_istore (lv' := [(4, .int 0), (3, .int 0), (0, .ref (tr_ad w 0)), (1, .ref (tr_ad w tn1)), (2, .int tv901)]) hx hb dX8_goRound_3 hl (by decide) rfl (fun ls hl => ?_)
  have j127_5 : ∀ (tv1 : Int32) (th2 : tr_H), tr_ok (f_X8_goRound_E127 tv1 th2) (fun o => o = (r0, h0)) → tr_Wd p l e r_X8_goRound s m args below meth c (MQ below (tr_Qi tr_M w r0 h0) args s 0 0 (tr_R tr_M w)) tr_M w 7 127 [(0, .ref (tr_ad w 0)), (3, .int tv1)] [] th2 := by
    intro tv1 th2 hk H locs ls hP hS hl
    unfold f_X8_goRound_E127 at hk
    refine lv_iconst (v := 0) hx hb dX8_goRound_127 (by decide) ?_
    refine lv_istore (lv' := [(4, .int 0), (0, .ref (tr_ad w 0)), (3, .int tv1)]) hx hb dX8_goRound_128 hl (by decide) rfl (fun ls hl => ?_)
    have j157_130 : ∀ (th3 : tr_H), tr_ok (f_X8_goRound_E157 tv1 th3) (fun o => o = (r0, h0)) → tr_Wd p l e r_X8_goRound s m args below meth c (MQ below (tr_Qi tr_M w r0 h0) args s 0 0 (tr_R tr_M w)) tr_M w 7 157 [(3, .int tv1)] [] th3 := by
      intro th3 hk H locs ls hP hS hl
      unfold f_X8_goRound_E157 at hk
      refine lv_iload_n hx hb dX8_goRound_157 rfl (lv_at hl 0 rfl) ?_
      exact tr_iret C hP hS hr hlocks (tr_okS (P := (fun o => o = (r0, h0))) hk) dX8_goRound_158
    refine tr_loop (fun q => tr_Wd p l e r_X8_goRound s m args below meth c (MQ below (tr_Qi tr_M w r0 h0) args s 0 0 (tr_R tr_M w)) tr_M w 7 130 [(0, .ref (tr_ad w 0)), (3, .int tv1), (4, .int q.1)] [] q.2) hk ?_ _ _ _ hP hS (lv_sub hl [1, 2, 0] rfl)
    intro P130 hin130 hex130 q hk
    obtain ⟨tv4, th5⟩ := q
    intro H locs ls hP hS hl
    replace hk : tr_ok (f_X8_goRound_L130 tv4 th5) P130 := hk
    unfold f_X8_goRound_L130 at hk
    refine lv_iload hx hb dX8_goRound_130 (lv_at hl 2 rfl) ?_
    refine lv_bipush (v := 6) hx hb dX8_goRound_132 (by decide) ?_
    refine lv_icmp_ge (tgt := 157) hx hb dX8_goRound_134 (by decide) (fun tc6 => ?_) (fun tc6 => ?_)
    · replace hk := tr_ift hk tc6
      replace hk := hex130 _ (tr_okS hk)
      replace hk : tr_ok (f_X8_goRound_E157 tv1 th5) (fun o => o = (r0, h0)) := hk
      exact j157_130 th5 hk _ _ _ hP hS (lv_sub hl [1] rfl)
    · replace hk := tr_iff hk tc6
      refine lv_aload_n hx hb dX8_goRound_137 rfl (lv_at hl 0 rfl) ?_
      refine gf_X8_50 C hP dX8_goRound_138 ?_
      refine lv_iload hx hb dX8_goRound_141 (lv_at hl 2 rfl) ?_
      refine lv_aload_n hx hb dX8_goRound_143 rfl (lv_at hl 0 rfl) ?_
      refine gf_X8_53 C hP dX8_goRound_144 ?_
      refine lv_iload hx hb dX8_goRound_147 (lv_at hl 2 rfl) ?_
      obtain ⟨tg7, hk⟩ := tr_okg hk
      refine tr_ial C hP (ar_M_15 w) tg7 dX8_goRound_149 ?_
      obtain ⟨tg8, hk⟩ := tr_okg hk
      refine tr_ias C hP hS (ar_M_14 w) tg8 dX8_goRound_150 (fun H locs hP hS => ?_)
      refine tr_th hk hP (fun th9 hk hP => ?_)
      obtain ⟨tv10, etv10, hk⟩ := tr_okd hk
      refine lv_iinc (v := tv10) (lv' := [(4, .int tv10), (0, .ref (tr_ad w 0)), (3, .int tv1)]) hx hb dX8_goRound_151 hl (k := 2) rfl (by rw [etv10]; rfl) (by decide) rfl (fun ls hl => ?_)
      refine lv_goto (tgt := 130) hx hb dX8_goRound_154 (by decide) ?_
      exact hin130 _ (tr_okS hk) _ _ _ hP hS (lv_sub hl [1, 2, 0] rfl)
  refine tr_loop (fun q => tr_Wd p l e r_X8_goRound s m args below meth c (MQ below (tr_Qi tr_M w r0 h0) args s 0 0 (tr_R tr_M w)) tr_M w 7 5 [(0, .ref (tr_ad w 0)), (1, .ref (tr_ad w tn1)), (2, .int tv901), (3, .int q.1), (4, .int q.2.1)] [] q.2.2) hk ?_ _ _ _ hP hS (lv_sub hl [2, 3, 4, 1, 0] rfl)
  intro P5 hin5 hex5 q hk
  obtain ⟨tv11, tv12, th13⟩ := q
  intro H locs ls hP hS hl
  replace hk : tr_ok (f_X8_goRound_L5 tn1 tv901 tv11 tv12 th13) P5 := hk
  unfold f_X8_goRound_L5 at hk
  refine lv_iload hx hb dX8_goRound_5 (lv_at hl 4 rfl) ?_
  refine lv_bipush (v := 6) hx hb dX8_goRound_7 (by decide) ?_
  refine lv_icmp_ge (tgt := 127) hx hb dX8_goRound_9 (by decide) (fun tc14 => ?_) (fun tc14 => ?_)
  · replace hk := tr_ift hk tc14
    replace hk := hex5 _ (tr_okS hk)
    replace hk : tr_ok (f_X8_goRound_E127 tv11 th13) (fun o => o = (r0, h0)) := hk
    exact j127_5 tv11 th13 hk _ _ _ hP hS (lv_sub hl [0, 3] rfl)
  · replace hk := tr_iff hk tc14
    refine lv_aload_n hx hb dX8_goRound_12 rfl (lv_at hl 0 rfl) ?_
    refine gf_X8_53 C hP dX8_goRound_13 ?_
    refine lv_iload hx hb dX8_goRound_16 (lv_at hl 4 rfl) ?_
    refine lv_iconst (v := 0) hx hb dX8_goRound_18 (by decide) ?_
    obtain ⟨tg15, hk⟩ := tr_okg hk
    refine tr_ias C hP hS (ar_M_15 w) tg15 dX8_goRound_19 (fun H locs hP hS => ?_)
    refine tr_th hk hP (fun th16 hk hP => ?_)
    refine lv_iconst (v := 0) hx hb dX8_goRound_20 (by decide) ?_
    refine lv_istore (lv' := [(5, .int 0), (0, .ref (tr_ad w 0)), (1, .ref (tr_ad w tn1)), (2, .int tv901), (3, .int tv11), (4, .int tv12)]) hx hb dX8_goRound_21 hl (by decide) rfl (fun ls hl => ?_)
    have j111_23 : ∀ (th17 : tr_H), tr_ok (f_X8_goRound_E111 tv12 tv11 th17) P5 → tr_Wd p l e r_X8_goRound s m args below meth c (MQ below (tr_Qi tr_M w r0 h0) args s 0 0 (tr_R tr_M w)) tr_M w 7 111 [(0, .ref (tr_ad w 0)), (1, .ref (tr_ad w tn1)), (2, .int tv901), (3, .int tv11), (4, .int tv12)] [] th17 := by
      intro th17 hk H locs ls hP hS hl
      unfold f_X8_goRound_E111 at hk
      refine lv_iload_n hx hb dX8_goRound_111 rfl (lv_at hl 3 rfl) ?_
      refine lv_aload_n hx hb dX8_goRound_112 rfl (lv_at hl 0 rfl) ?_
      refine gf_X8_53 C hP dX8_goRound_113 ?_
      refine lv_iload hx hb dX8_goRound_116 (lv_at hl 4 rfl) ?_
      obtain ⟨tg18, hk⟩ := tr_okg hk
      refine tr_ial C hP (ar_M_15 w) tg18 dX8_goRound_118 ?_
      refine lv_iadd hx hb dX8_goRound_119 ?_
      refine tr_ti hk (fun tv19 hk => ?_)
      refine lv_istore_n (lv' := [(3, .int tv19), (0, .ref (tr_ad w 0)), (1, .ref (tr_ad w tn1)), (2, .int tv901), (4, .int tv12)]) hx hb dX8_goRound_120 rfl hl (by decide) rfl (fun ls hl => ?_)
      obtain ⟨tv20, etv20, hk⟩ := tr_okd hk
      refine lv_iinc (v := tv20) (lv' := [(4, .int tv20), (3, .int tv19), (0, .ref (tr_ad w 0)), (1, .ref (tr_ad w tn1)), (2, .int tv901)]) hx hb dX8_goRound_121 hl (k := 4) rfl (by rw [etv20]; rfl) (by decide) rfl (fun ls hl => ?_)
      refine lv_goto (tgt := 5) hx hb dX8_goRound_124 (by decide) ?_
      exact hin5 _ (tr_okS hk) _ _ _ hP hS (lv_sub hl [2, 3, 4, 1, 0] rfl)
    refine tr_loop (fun q => tr_Wd p l e r_X8_goRound s m args below meth c (MQ below (tr_Qi tr_M w r0 h0) args s 0 0 (tr_R tr_M w)) tr_M w 7 23 [(0, .ref (tr_ad w 0)), (1, .ref (tr_ad w tn1)), (2, .int tv901), (3, .int tv11), (4, .int tv12), (5, .int q.1)] [] q.2) hk ?_ _ _ _ hP hS (lv_sub hl [1, 2, 3, 4, 5, 0] rfl)
    intro P23 hin23 hex23 q hk
    obtain ⟨tv21, th22⟩ := q
    intro H locs ls hP hS hl
    replace hk : tr_ok (f_X8_goRound_L23 tn1 tv12 tv901 tv21 th22) P23 := hk
    unfold f_X8_goRound_L23 at hk
    refine lv_iload hx hb dX8_goRound_23 (lv_at hl 5 rfl) ?_
    refine lv_aload_n hx hb dX8_goRound_25 rfl (lv_at hl 1 rfl) ?_
    refine lv_iconst (v := 0) hx hb dX8_goRound_26 (by decide) ?_
    refine tr_ial C hP (tr_pg_ar htn1 w) (show ¬ ((0 : Int32) < 0 ∨ 37 ≤ (0 : Int32).toNatClampNeg) by decide) dX8_goRound_27 ?_
    refine lv_icmp_ge (tgt := 111) hx hb dX8_goRound_28 (by decide) (fun tc23 => ?_) (fun tc23 => ?_)
    · replace hk := tr_ift hk tc23
      replace hk := hex23 _ (tr_okS hk)
      replace hk : tr_ok (f_X8_goRound_E111 tv12 tv11 th22) P5 := hk
      exact j111_23 th22 hk _ _ _ hP hS (lv_sub hl [0, 1, 2, 3, 4] rfl)
    · replace hk := tr_iff hk tc23
      refine lv_iload hx hb dX8_goRound_31 (lv_at hl 4 rfl) ?_
      refine lv_aload_n hx hb dX8_goRound_33 rfl (lv_at hl 1 rfl) ?_
      refine lv_iconst (v := 0) hx hb dX8_goRound_34 (by decide) ?_
      refine tr_ial C hP (tr_pg_ar htn1 w) (show ¬ ((0 : Int32) < 0 ∨ 37 ≤ (0 : Int32).toNatClampNeg) by decide) dX8_goRound_35 ?_
      refine lv_icmp_ge (tgt := 111) hx hb dX8_goRound_36 (by decide) (fun tc24 => ?_) (fun tc24 => ?_)
      · replace hk := tr_ift hk tc24
        replace hk := hex23 _ (tr_okS hk)
        replace hk : tr_ok (f_X8_goRound_E111 tv12 tv11 th22) P5 := hk
        exact j111_23 th22 hk _ _ _ hP hS (lv_sub hl [0, 1, 2, 3, 4] rfl)
      · replace hk := tr_iff hk tc24
        refine lv_aload_n hx hb dX8_goRound_39 rfl (lv_at hl 1 rfl) ?_
        refine lv_iload hx hb dX8_goRound_40 (lv_at hl 5 rfl) ?_
        refine lv_iload hx hb dX8_goRound_42 (lv_at hl 4 rfl) ?_
        obtain ⟨tv26, tq25, hk⟩ := tr_okb hk
        refine tr_csi (As := [.ref (tr_ad w tn1), .int tv21, .int tv12]) (rest := []) C hP hS hl (c_X8_isThere l w tn1 htn1 tv21 tv12 th22 tv26 tq25) mz_X8_isThere ml_X8_79 rfl rfl ⟨Nat.le_of_ble_eq_true rfl, Nat.le_of_ble_eq_true rfl⟩ rfl rfl (Nat.le_of_ble_eq_true rfl) ⟨Nat.le_refl _, Nat.le_refl _⟩ dX8_goRound_44 (fun H locs hP hS => ?_)
        have j72 : ∀ (tv27 : Int32), tr_ok (f_X8_goRound_J72 tv12 th22 tv21 tv27) P23 → tr_Wd p l e r_X8_goRound s m args below meth c (MQ below (tr_Qi tr_M w r0 h0) args s 0 0 (tr_R tr_M w)) tr_M w 7 72 [(0, .ref (tr_ad w 0)), (1, .ref (tr_ad w tn1)), (2, .int tv901), (3, .int tv11), (4, .int tv12), (5, .int tv21)] [.int tv27] th22 := by
          intro tv27 hk H locs ls hP hS hl
          unfold f_X8_goRound_J72 at hk
          refine lv_istore (lv' := [(6, .int tv27), (0, .ref (tr_ad w 0)), (1, .ref (tr_ad w tn1)), (2, .int tv901), (3, .int tv11), (4, .int tv12), (5, .int tv21)]) hx hb dX8_goRound_72 hl (by decide) rfl (fun ls hl => ?_)
          refine lv_aload_n hx hb dX8_goRound_74 rfl (lv_at hl 1 rfl) ?_
          refine gf_X8_53 C hP dX8_goRound_75 ?_
          refine lv_iload hx hb dX8_goRound_78 (lv_at hl 5 rfl) ?_
          refine lv_iload hx hb dX8_goRound_80 (lv_at hl 0 rfl) ?_
          refine lv_aload_n hx hb dX8_goRound_82 rfl (lv_at hl 1 rfl) ?_
          refine gf_X8_53 C hP dX8_goRound_83 ?_
          refine lv_iload hx hb dX8_goRound_86 (lv_at hl 5 rfl) ?_
          obtain ⟨tg28, hk⟩ := tr_okg hk
          refine tr_ial C hP (ar_M_15 w) tg28 dX8_goRound_88 ?_
          refine lv_icmp_le (tgt := 97) hx hb dX8_goRound_89 (by decide) (fun tc29 => ?_) (fun tc29 => ?_)
          · replace hk := tr_ift hk tc29
            refine lv_aload_n hx hb dX8_goRound_97 rfl (lv_at hl 1 rfl) ?_
            refine gf_X8_53 C hP dX8_goRound_98 ?_
            refine lv_iload hx hb dX8_goRound_101 (lv_at hl 5 rfl) ?_
            obtain ⟨tg30, hk⟩ := tr_okg hk
            refine tr_ial C hP (ar_M_15 w) tg30 dX8_goRound_103 ?_
            obtain ⟨tg31, hk⟩ := tr_okg hk
            refine tr_ias C hP hS (ar_M_15 w) tg31 dX8_goRound_104 (fun H locs hP hS => ?_)
            refine tr_th hk hP (fun th32 hk hP => ?_)
            obtain ⟨tv33, etv33, hk⟩ := tr_okd hk
            refine lv_iinc (v := tv33) (lv' := [(5, .int tv33), (6, .int tv27), (0, .ref (tr_ad w 0)), (1, .ref (tr_ad w tn1)), (2, .int tv901), (3, .int tv11), (4, .int tv12)]) hx hb dX8_goRound_105 hl (k := 6) rfl (by rw [etv33]; rfl) (by decide) rfl (fun ls hl => ?_)
            refine lv_goto (tgt := 23) hx hb dX8_goRound_108 (by decide) ?_
            exact hin23 _ (tr_okS hk) _ _ _ hP hS (lv_sub hl [2, 3, 4, 5, 6, 0] rfl)
          · replace hk := tr_iff hk tc29
            refine lv_iload hx hb dX8_goRound_92 (lv_at hl 0 rfl) ?_
            refine lv_goto (tgt := 104) hx hb dX8_goRound_94 (by decide) ?_
            obtain ⟨tg34, hk⟩ := tr_okg hk
            refine tr_ias C hP hS (ar_M_15 w) tg34 dX8_goRound_104 (fun H locs hP hS => ?_)
            refine tr_th hk hP (fun th35 hk hP => ?_)
            obtain ⟨tv36, etv36, hk⟩ := tr_okd hk
            refine lv_iinc (v := tv36) (lv' := [(5, .int tv36), (6, .int tv27), (0, .ref (tr_ad w 0)), (1, .ref (tr_ad w tn1)), (2, .int tv901), (3, .int tv11), (4, .int tv12)]) hx hb dX8_goRound_105 hl (k := 6) rfl (by rw [etv36]; rfl) (by decide) rfl (fun ls hl => ?_)
            refine lv_goto (tgt := 23) hx hb dX8_goRound_108 (by decide) ?_
            exact hin23 _ (tr_okS hk) _ _ _ hP hS (lv_sub hl [2, 3, 4, 5, 6, 0] rfl)
        refine lv_if_eq (tgt := 71) hx hb dX8_goRound_47 (by decide) (fun tc37 => ?_) (fun tc37 => ?_)
        · replace hk := tr_ift hk tc37
          refine lv_iconst (v := 0) hx hb dX8_goRound_71 (by decide) ?_
          exact j72 0 hk _ _ _ hP hS (lv_sub hl [0, 1, 2, 3, 4, 5] rfl)
        · replace hk := tr_iff hk tc37
          refine lv_aload_n hx hb dX8_goRound_50 rfl (lv_at hl 0 rfl) ?_
          refine gf_X8_50 C hP dX8_goRound_51 ?_
          refine lv_iload hx hb dX8_goRound_54 (lv_at hl 5 rfl) ?_
          obtain ⟨tg38, hk⟩ := tr_okg hk
          refine tr_ial C hP (ar_M_14 w) tg38 dX8_goRound_56 ?_
          refine lv_aload_n hx hb dX8_goRound_57 rfl (lv_at hl 0 rfl) ?_
          refine lv_aload_n hx hb dX8_goRound_58 rfl (lv_at hl 1 rfl) ?_
          refine lv_iload hx hb dX8_goRound_59 (lv_at hl 5 rfl) ?_
          refine lv_iload hx hb dX8_goRound_61 (lv_at hl 4 rfl) ?_
          refine lv_iload_n hx hb dX8_goRound_63 rfl (lv_at hl 2 rfl) ?_
          obtain ⟨tv40, tq39, hk⟩ := tr_okb hk
          refine tr_cvi (As := [.ref (tr_ad w tn1), .int tv21, .int tv12, .int tv901]) (rest := [.int (th22.1 14 tv21.toNatClampNeg)]) C hP hS hl (c_X8_spareOf l w tn1 htn1 tv21 tv12 tv901 th22 tv40 tq39) mz_X8_spareOf ml_X8_186 (by decide) rfl rfl rfl rfl ⟨Nat.le_of_ble_eq_true rfl, Nat.le_of_ble_eq_true rfl⟩ rfl rfl (Nat.le_of_ble_eq_true rfl) ⟨Nat.le_refl _, Nat.le_refl _⟩ dX8_goRound_64 (fun H locs hP hS => ?_)
          refine lv_isub hx hb dX8_goRound_67 ?_
          refine lv_goto (tgt := 72) hx hb dX8_goRound_68 (by decide) ?_
          exact j72 ((th22.1 14 tv21.toNatClampNeg) - tv40) hk _ _ _ hP hS (lv_sub hl [0, 1, 2, 3, 4, 5] rfl)
abbrev r_X8_late : Room := { frames := 6, cells := 0, slots := 0, locals := 142 }
set_option maxHeartbeats 4000000 in
set_option maxRecDepth 100000 in
theorem c_X8_late (l : Launch) (w : tr_E) (tv900 : Int32) (tv901 : Int32) (tv902 : Int32) (tv903 : Int32) (tv904 : Int32) (h : tr_H) (r0 : Int32) (h0 : tr_H) (hk : f_X8_late tv900 tv901 tv902 tv903 tv904 h = some (r0, h0)) : Met l yX8_late (Cond.code yX8_late cX8_late 7 (some .int) :: tr_T) r_X8_late (va_Pc [.ref (tr_ad w 0), .int tv900, .int tv901, .int tv902, .int tv903, .int tv904] (tr_Wo tr_M w h)) (tr_Qi tr_M w r0 h0) 0 0 (tr_R tr_M w) := by
  refine tr_start (by decide) (Nat.le_refl _) ?_
  intro p e s m args below meth c C hr hlocks hargs hP
  have hx := C.1
  have hb := C.2.1
  have hS : va_S (tr_R tr_M w) s.heap s.heap [] := va_S.rf
  have hl := lv_entry ([.ref (tr_ad w 0), .int tv900, .int tv901, .int tv902, .int tv903, .int tv904]) (n := 7) (Nat.le_of_ble_eq_true rfl)
  rw [lg_entry_eq]
  generalize (lg_sl ([.ref (tr_ad w 0), .int tv900, .int tv901, .int tv902, .int tv903, .int tv904]) ++ List.replicate (7 - (lg_sl ([.ref (tr_ad w 0), .int tv900, .int tv901, .int tv902, .int tv903, .int tv904])).length) Slot.unset).toArray = ls at hl ⊢
  have hl : lv_has ls 7 [(0, .ref (tr_ad w 0)), (1, .int tv900), (2, .int tv901), (3, .int tv902), (4, .int tv903), (5, .int tv904)] := hl
  replace hk : tr_ok (f_X8_late tv900 tv901 tv902 tv903 tv904 h) (fun o => o = (r0, h0)) := ⟨_, hk, rfl⟩
  unfold f_X8_late at hk
  refine lv_aload_n hx hb dX8_late_0 rfl (lv_at hl 0 rfl) ?_
  refine lv_iconst (v := 0) hx hb dX8_late_1 (by decide) ?_
  refine pf_X8_59 C hP hS dX8_late_2 (fun H locs hP hS => ?_)
  refine tr_th hk hP (fun th1 hk hP => ?_)
  refine lv_aload_n hx hb dX8_late_5 rfl (lv_at hl 0 rfl) ?_
  refine lv_iload_n hx hb dX8_late_6 rfl (lv_at hl 1 rfl) ?_
  obtain ⟨tv3, tq2, hk⟩ := tr_okb hk
  refine tr_cvi (As := [.int tv900]) (rest := []) C hP hS hl (c_X8_noDeparture l w tv900 th1 tv3 tq2) mz_X8_noDeparture ml_X8_164 (by decide) rfl rfl rfl rfl ⟨Nat.le_of_ble_eq_true rfl, Nat.le_of_ble_eq_true rfl⟩ rfl rfl (Nat.le_of_ble_eq_true rfl) ⟨Nat.le_refl _, Nat.le_refl _⟩ dX8_late_7 (fun H locs hP hS => ?_)
  refine lv_if_ne (tgt := 22) hx hb dX8_late_10 (by decide) (fun tc4 => ?_) (fun tc4 => ?_)
  · replace hk := tr_iff hk tc4
    refine lv_iconst (v := (-1)) hx hb dX8_late_22 (by decide) ?_
    exact tr_iret C hP hS hr hlocks (tr_okS (P := (fun o => o = (r0, h0))) hk) dX8_late_23
  · replace hk := tr_ift hk tc4
    refine lv_aload_n hx hb dX8_late_13 rfl (lv_at hl 0 rfl) ?_
    refine lv_iload hx hb dX8_late_14 (lv_at hl 4 rfl) ?_
    obtain ⟨tv6, tq5, hk⟩ := tr_okb hk
    refine tr_cvi (As := [.int tv903]) (rest := []) C hP hS hl (c_X8_noDeparture l w tv903 th1 tv6 tq5) mz_X8_noDeparture ml_X8_164 (by decide) rfl rfl rfl rfl ⟨Nat.le_of_ble_eq_true rfl, Nat.le_of_ble_eq_true rfl⟩ rfl rfl (Nat.le_of_ble_eq_true rfl) ⟨Nat.le_refl _, Nat.le_refl _⟩ dX8_late_16 (fun H locs hP hS => ?_)
    refine lv_if_eq (tgt := 24) hx hb dX8_late_19 (by decide) (fun tc7 => ?_) (fun tc7 => ?_)
    · replace hk := tr_ift hk tc7
      refine lv_iload_n hx hb dX8_late_24 rfl (lv_at hl 2 rfl) ?_
      refine lv_i2l hx hb dX8_late_25 rfl ?_
      refine lv_lconst (v := 1) hx hb dX8_late_26 (by decide) ?_
      refine lv_ldc2 (v := 30) hx hb C.2.2.2.1 (C.2.2.2.2.1 _ mc_X8_190) dX8_late_27 ?_
      obtain ⟨tv9, tq8, hk⟩ := tr_okb hk
      refine tr_csi (As := [.long ((tv901 : Int32).toInt64), .long 1, .long 30]) (rest := []) C hP hS hl (c_X8_in l w ((tv901 : Int32).toInt64) 1 30 th1 tv9 tq8) mz_X8_in ml_X8_63 rfl rfl ⟨Nat.le_of_ble_eq_true rfl, Nat.le_of_ble_eq_true rfl⟩ rfl rfl (Nat.le_of_ble_eq_true rfl) ⟨Nat.le_refl _, Nat.le_refl _⟩ dX8_late_30 (fun H locs hP hS => ?_)
      refine lv_if_eq (tgt := 61) hx hb dX8_late_33 (by decide) (fun tc10 => ?_) (fun tc10 => ?_)
      · replace hk := tr_ift hk tc10
        refine lv_bipush (v := (-2)) hx hb dX8_late_61 (by decide) ?_
        exact tr_iret C hP hS hr hlocks (tr_okS (P := (fun o => o = (r0, h0))) hk) dX8_late_63
      · replace hk := tr_iff hk tc10
        refine lv_iload_n hx hb dX8_late_36 rfl (lv_at hl 3 rfl) ?_
        refine lv_i2l hx hb dX8_late_37 rfl ?_
        refine lv_lconst (v := 0) hx hb dX8_late_38 (by decide) ?_
        refine lv_ldc2 (v := 20) hx hb C.2.2.2.1 (C.2.2.2.2.1 _ mc_X8_181) dX8_late_39 ?_
        obtain ⟨tv12, tq11, hk⟩ := tr_okb hk
        refine tr_csi (As := [.long ((tv902 : Int32).toInt64), .long 0, .long 20]) (rest := []) C hP hS hl (c_X8_in l w ((tv902 : Int32).toInt64) 0 20 th1 tv12 tq11) mz_X8_in ml_X8_63 rfl rfl ⟨Nat.le_of_ble_eq_true rfl, Nat.le_of_ble_eq_true rfl⟩ rfl rfl (Nat.le_of_ble_eq_true rfl) ⟨Nat.le_refl _, Nat.le_refl _⟩ dX8_late_42 (fun H locs hP hS => ?_)
        refine lv_if_eq (tgt := 61) hx hb dX8_late_45 (by decide) (fun tc13 => ?_) (fun tc13 => ?_)
        · replace hk := tr_ift hk tc13
          refine lv_bipush (v := (-2)) hx hb dX8_late_61 (by decide) ?_
          exact tr_iret C hP hS hr hlocks (tr_okS (P := (fun o => o = (r0, h0))) hk) dX8_late_63
        · replace hk := tr_iff hk tc13
          refine lv_iload hx hb dX8_late_48 (lv_at hl 5 rfl) ?_
          refine lv_i2l hx hb dX8_late_50 rfl ?_
          refine lv_lconst (v := 0) hx hb dX8_late_51 (by decide) ?_
          refine lv_ldc2 (v := 40) hx hb C.2.2.2.1 (C.2.2.2.2.1 _ mc_X8_192) dX8_late_52 ?_
          obtain ⟨tv15, tq14, hk⟩ := tr_okb hk
          refine tr_csi (As := [.long ((tv904 : Int32).toInt64), .long 0, .long 40]) (rest := []) C hP hS hl (c_X8_in l w ((tv904 : Int32).toInt64) 0 40 th1 tv15 tq14) mz_X8_in ml_X8_63 rfl rfl ⟨Nat.le_of_ble_eq_true rfl, Nat.le_of_ble_eq_true rfl⟩ rfl rfl (Nat.le_of_ble_eq_true rfl) ⟨Nat.le_refl _, Nat.le_refl _⟩ dX8_late_55 (fun H locs hP hS => ?_)
          refine lv_if_ne (tgt := 64) hx hb dX8_late_58 (by decide) (fun tc16 => ?_) (fun tc16 => ?_)
          · replace hk := tr_iff hk tc16
            refine lv_aload_n hx hb dX8_late_64 rfl (lv_at hl 0 rfl) ?_
            refine lv_aload_n hx hb dX8_late_65 rfl (lv_at hl 0 rfl) ?_
            refine gf_X8_16 C hP dX8_late_66 ?_
            refine lv_iload_n hx hb dX8_late_69 rfl (lv_at hl 3 rfl) ?_
            obtain ⟨tv18, th19, tq17, hk⟩ := tr_okb2 hk
            refine tr_cvi (As := [.ref (tr_ad w 3), .int tv902]) (rest := []) C hP hS hl (c_X8_isPeriod l w 3 tr_pg_3 tv902 th1 tv18 th19 tq17) mz_X8_isPeriod ml_X8_150 (by decide) rfl rfl rfl rfl ⟨Nat.le_of_ble_eq_true rfl, Nat.le_of_ble_eq_true rfl⟩ rfl rfl (Nat.le_of_ble_eq_true rfl) ⟨Nat.le_refl _, Nat.le_refl _⟩ dX8_late_70 (fun H locs hP hS => ?_)
            refine lv_if_ne (tgt := 79) hx hb dX8_late_73 (by decide) (fun tc20 => ?_) (fun tc20 => ?_)
            · replace hk := tr_iff hk tc20
              refine lv_aload_n hx hb dX8_late_79 rfl (lv_at hl 0 rfl) ?_
              refine lv_aload_n hx hb dX8_late_80 rfl (lv_at hl 0 rfl) ?_
              refine gf_X8_16 C hP dX8_late_81 ?_
              refine lv_iload_n hx hb dX8_late_84 rfl (lv_at hl 3 rfl) ?_
              obtain ⟨th22, tq21, hk⟩ := tr_okb hk
              refine tr_cvv (As := [.ref (tr_ad w 3), .int tv902]) (rest := []) C hP hS hl (c_X8_layTimes l w 3 tr_pg_3 tv902 th19 th22 tq21) mz_X8_layTimes ml_X8_183 (by decide) rfl rfl rfl rfl ⟨Nat.le_of_ble_eq_true rfl, Nat.le_of_ble_eq_true rfl⟩ rfl rfl (Nat.le_of_ble_eq_true rfl) ⟨Nat.le_refl _, Nat.le_refl _⟩ dX8_late_85 (fun H locs hP hS => ?_)
              refine lv_aload_n hx hb dX8_late_88 rfl (lv_at hl 0 rfl) ?_
              refine lv_iload_n hx hb dX8_late_89 rfl (lv_at hl 1 rfl) ?_
              refine lv_iload_n hx hb dX8_late_90 rfl (lv_at hl 2 rfl) ?_
              obtain ⟨th24, tq23, hk⟩ := tr_okb hk
              refine tr_cvv (As := [.int tv900, .int tv901]) (rest := []) C hP hS hl (c_X8_beginLate l w tv900 tv901 th22 th24 tq23) mz_X8_beginLate ml_X8_194 (by decide) rfl rfl rfl rfl ⟨Nat.le_of_ble_eq_true rfl, Nat.le_of_ble_eq_true rfl⟩ rfl rfl (Nat.le_of_ble_eq_true rfl) ⟨Nat.le_refl _, Nat.le_refl _⟩ dX8_late_91 (fun H locs hP hS => ?_)
              refine lv_iconst (v := 0) hx hb dX8_late_94 (by decide) ?_
              refine lv_istore (lv' := [(6, .int 0), (0, .ref (tr_ad w 0)), (1, .int tv900), (2, .int tv901), (3, .int tv902), (4, .int tv903), (5, .int tv904)]) hx hb dX8_late_95 hl (by decide) rfl (fun ls hl => ?_)
              have j120_97 : ∀ (th25 : tr_H), tr_ok (f_X8_late_E120 tv903 th25) (fun o => o = (r0, h0)) → tr_Wd p l e r_X8_late s m args below meth c (MQ below (tr_Qi tr_M w r0 h0) args s 0 0 (tr_R tr_M w)) tr_M w 7 120 [(0, .ref (tr_ad w 0)), (4, .int tv903)] [] th25 := by
                intro th25 hk H locs ls hP hS hl
                unfold f_X8_late_E120 at hk
                refine lv_aload_n hx hb dX8_late_120 rfl (lv_at hl 0 rfl) ?_
                refine gf_X8_50 C hP dX8_late_121 ?_
                refine lv_iload hx hb dX8_late_124 (lv_at hl 1 rfl) ?_
                obtain ⟨tg26, hk⟩ := tr_okg hk
                refine tr_ial C hP (ar_M_14 w) tg26 dX8_late_126 ?_
                exact tr_iret C hP hS hr hlocks (tr_okS (P := (fun o => o = (r0, h0))) hk) dX8_late_127
              refine tr_loop (fun q => tr_Wd p l e r_X8_late s m args below meth c (MQ below (tr_Qi tr_M w r0 h0) args s 0 0 (tr_R tr_M w)) tr_M w 7 97 [(0, .ref (tr_ad w 0)), (3, .int tv902), (4, .int tv903), (5, .int tv904), (6, .int q.1)] [] q.2) hk ?_ _ _ _ hP hS (lv_sub hl [1, 4, 5, 6, 0] rfl)
              intro P97 hin97 hex97 q hk
              obtain ⟨tv27, th28⟩ := q
              intro H locs ls hP hS hl
              replace hk : tr_ok (f_X8_late_L97 tv904 tv902 tv27 th28) P97 := hk
              unfold f_X8_late_L97 at hk
              refine lv_iload hx hb dX8_late_97 (lv_at hl 4 rfl) ?_
              refine lv_iload hx hb dX8_late_99 (lv_at hl 3 rfl) ?_
              refine lv_icmp_ge (tgt := 120) hx hb dX8_late_101 (by decide) (fun tc29 => ?_) (fun tc29 => ?_)
              · replace hk := tr_ift hk tc29
                replace hk := hex97 _ (tr_okS hk)
                replace hk : tr_ok (f_X8_late_E120 tv903 th28) (fun o => o = (r0, h0)) := hk
                exact j120_97 th28 hk _ _ _ hP hS (lv_sub hl [0, 2] rfl)
              · replace hk := tr_iff hk tc29
                refine lv_aload_n hx hb dX8_late_104 rfl (lv_at hl 0 rfl) ?_
                refine lv_aload_n hx hb dX8_late_105 rfl (lv_at hl 0 rfl) ?_
                refine gf_X8_16 C hP dX8_late_106 ?_
                refine lv_iload_n hx hb dX8_late_109 rfl (lv_at hl 1 rfl) ?_
                obtain ⟨tv31, th32, tq30, hk⟩ := tr_okb2 hk
                refine tr_cvi (As := [.ref (tr_ad w 3), .int tv902]) (rest := []) C hP hS hl (c_X8_goRound l w 3 tr_pg_3 tv902 th28 tv31 th32 tq30) mz_X8_goRound ml_X8_198 (by decide) rfl rfl rfl rfl ⟨Nat.le_of_ble_eq_true rfl, Nat.le_of_ble_eq_true rfl⟩ rfl rfl (Nat.le_of_ble_eq_true rfl) ⟨Nat.le_refl _, Nat.le_refl _⟩ dX8_late_110 (fun H locs hP hS => ?_)
                refine lv_pop hx hb dX8_late_113 rfl ?_
                obtain ⟨tv33, etv33, hk⟩ := tr_okd hk
                refine lv_iinc (v := tv33) (lv' := [(6, .int tv33), (0, .ref (tr_ad w 0)), (3, .int tv902), (4, .int tv903), (5, .int tv904)]) hx hb dX8_late_114 hl (k := 4) rfl (by rw [etv33]; rfl) (by decide) rfl (fun ls hl => ?_)
                refine lv_goto (tgt := 97) hx hb dX8_late_117 (by decide) ?_
                exact hin97 _ (tr_okS hk) _ _ _ hP hS (lv_sub hl [1, 2, 3, 4, 0] rfl)
            · replace hk := tr_ift hk tc20
              refine lv_bipush (v := (-3)) hx hb dX8_late_76 (by decide) ?_
              exact tr_iret C hP hS hr hlocks (tr_okS (P := (fun o => o = (r0, h0))) hk) dX8_late_78
          · replace hk := tr_ift hk tc16
            refine lv_bipush (v := (-2)) hx hb dX8_late_61 (by decide) ?_
            exact tr_iret C hP hS hr hlocks (tr_okS (P := (fun o => o = (r0, h0))) hk) dX8_late_63
    · replace hk := tr_iff hk tc7
      refine lv_iconst (v := (-1)) hx hb dX8_late_22 (by decide) ?_
      exact tr_iret C hP hS hr hlocks (tr_okS (P := (fun o => o = (r0, h0))) hk) dX8_late_23
abbrev r_X8_diesOf : Room := { frames := 3, cells := 0, slots := 0, locals := 72 }
set_option maxHeartbeats 4000000 in
set_option maxRecDepth 100000 in
theorem c_X8_diesOf (l : Launch) (w : tr_E) (tn1 : Nat) (htn1 : tr_pg tn1) (tv901 : Int32) (tv902 : Int32) (tv903 : Int32) (h : tr_H) (r0 : Int32) (h0 : tr_H) (hk : f_X8_diesOf tn1 tv901 tv902 tv903 h = some (r0, h0)) : Met l yX8_diesOf (Cond.code yX8_diesOf cX8_diesOf 6 (some .int) :: tr_T) r_X8_diesOf (va_Pc [.ref (tr_ad w 0), .ref (tr_ad w tn1), .int tv901, .int tv902, .int tv903] (tr_Wo tr_M w h)) (tr_Qi tr_M w r0 h0) 0 0 (tr_R tr_M w) := by
  refine tr_start (by decide) (Nat.le_refl _) ?_
  intro p e s m args below meth c C hr hlocks hargs hP
  have hx := C.1
  have hb := C.2.1
  have hS : va_S (tr_R tr_M w) s.heap s.heap [] := va_S.rf
  have hl := lv_entry ([.ref (tr_ad w 0), .ref (tr_ad w tn1), .int tv901, .int tv902, .int tv903]) (n := 6) (Nat.le_of_ble_eq_true rfl)
  rw [lg_entry_eq]
  generalize (lg_sl ([.ref (tr_ad w 0), .ref (tr_ad w tn1), .int tv901, .int tv902, .int tv903]) ++ List.replicate (6 - (lg_sl ([.ref (tr_ad w 0), .ref (tr_ad w tn1), .int tv901, .int tv902, .int tv903])).length) Slot.unset).toArray = ls at hl ⊢
  have hl : lv_has ls 6 [(0, .ref (tr_ad w 0)), (1, .ref (tr_ad w tn1)), (2, .int tv901), (3, .int tv902), (4, .int tv903)] := hl
  replace hk : tr_ok (f_X8_diesOf tn1 tv901 tv902 tv903 h) (fun o => o = (r0, h0)) := ⟨_, hk, rfl⟩
  unfold f_X8_diesOf at hk
  refine lv_aload_n hx hb dX8_diesOf_0 rfl (lv_at hl 0 rfl) ?_
  refine lv_aload_n hx hb dX8_diesOf_1 rfl (lv_at hl 1 rfl) ?_
  refine lv_iload hx hb dX8_diesOf_2 (lv_at hl 4 rfl) ?_
  obtain ⟨th2, tq1, hk⟩ := tr_okb hk
  refine tr_cvv (As := [.ref (tr_ad w tn1), .int tv903]) (rest := []) C hP hS hl (c_X8_layTimes l w tn1 htn1 tv903 h th2 tq1) mz_X8_layTimes ml_X8_183 (by decide) rfl rfl rfl rfl ⟨Nat.le_of_ble_eq_true rfl, Nat.le_of_ble_eq_true rfl⟩ rfl rfl (Nat.le_of_ble_eq_true rfl) ⟨Nat.le_refl _, Nat.le_refl _⟩ dX8_diesOf_4 (fun H locs hP hS => ?_)
  refine lv_aload_n hx hb dX8_diesOf_7 rfl (lv_at hl 0 rfl) ?_
  refine lv_iload_n hx hb dX8_diesOf_8 rfl (lv_at hl 2 rfl) ?_
  refine lv_iload_n hx hb dX8_diesOf_9 rfl (lv_at hl 3 rfl) ?_
  obtain ⟨th4, tq3, hk⟩ := tr_okb hk
  refine tr_cvv (As := [.int tv901, .int tv902]) (rest := []) C hP hS hl (c_X8_beginLate l w tv901 tv902 th2 th4 tq3) mz_X8_beginLate ml_X8_194 (by decide) rfl rfl rfl rfl ⟨Nat.le_of_ble_eq_true rfl, Nat.le_of_ble_eq_true rfl⟩ rfl rfl (Nat.le_of_ble_eq_true rfl) ⟨Nat.le_refl _, Nat.le_refl _⟩ dX8_diesOf_10 (fun H locs hP hS => ?_)
  refine lv_iconst (v := 1) hx hb dX8_diesOf_13 (by decide) ?_
  refine lv_istore (lv' := [(5, .int 1), (0, .ref (tr_ad w 0)), (1, .ref (tr_ad w tn1)), (2, .int tv901), (3, .int tv902), (4, .int tv903)]) hx hb dX8_diesOf_14 hl (by decide) rfl (fun ls hl => ?_)
  have j42_16 : ∀ (th5 : tr_H), tr_ok (f_X8_diesOf_E42 th5) (fun o => o = (r0, h0)) → tr_Wd p l e r_X8_diesOf s m args below meth c (MQ below (tr_Qi tr_M w r0 h0) args s 0 0 (tr_R tr_M w)) tr_M w 6 42 [] [] th5 := by
    intro th5 hk H locs ls hP hS hl
    unfold f_X8_diesOf_E42 at hk
    refine lv_bipush (v := (-9)) hx hb dX8_diesOf_42 (by decide) ?_
    exact tr_iret C hP hS hr hlocks (tr_okS (P := (fun o => o = (r0, h0))) hk) dX8_diesOf_44
  refine tr_loop (fun q => tr_Wd p l e r_X8_diesOf s m args below meth c (MQ below (tr_Qi tr_M w r0 h0) args s 0 0 (tr_R tr_M w)) tr_M w 6 16 [(0, .ref (tr_ad w 0)), (1, .ref (tr_ad w tn1)), (4, .int tv903), (5, .int q.1)] [] q.2) hk ?_ _ _ _ hP hS (lv_sub hl [1, 2, 5, 0] rfl)
  intro P16 hin16 hex16 q hk
  obtain ⟨tv6, th7⟩ := q
  intro H locs ls hP hS hl
  replace hk : tr_ok (f_X8_diesOf_L16 tn1 tv903 tv6 th7) P16 := hk
  unfold f_X8_diesOf_L16 at hk
  refine lv_iload hx hb dX8_diesOf_16 (lv_at hl 3 rfl) ?_
  refine lv_bipush (v := 40) hx hb dX8_diesOf_18 (by decide) ?_
  refine lv_icmp_gt (tgt := 42) hx hb dX8_diesOf_20 (by decide) (fun tc8 => ?_) (fun tc8 => ?_)
  · replace hk := tr_ift hk tc8
    replace hk := hex16 _ (tr_okS hk)
    replace hk : tr_ok (f_X8_diesOf_E42 th7) (fun o => o = (r0, h0)) := hk
    exact j42_16 th7 hk _ _ _ hP hS (lv_sub hl [] rfl)
  · replace hk := tr_iff hk tc8
    refine lv_aload_n hx hb dX8_diesOf_23 rfl (lv_at hl 0 rfl) ?_
    refine lv_aload_n hx hb dX8_diesOf_24 rfl (lv_at hl 1 rfl) ?_
    refine lv_iload hx hb dX8_diesOf_25 (lv_at hl 2 rfl) ?_
    obtain ⟨tv10, th11, tq9, hk⟩ := tr_okb2 hk
    refine tr_cvi (As := [.ref (tr_ad w tn1), .int tv903]) (rest := []) C hP hS hl (c_X8_goRound l w tn1 htn1 tv903 th7 tv10 th11 tq9) mz_X8_goRound ml_X8_198 (by decide) rfl rfl rfl rfl ⟨Nat.le_of_ble_eq_true rfl, Nat.le_of_ble_eq_true rfl⟩ rfl rfl (Nat.le_of_ble_eq_true rfl) ⟨Nat.le_refl _, Nat.le_refl _⟩ dX8_diesOf_27 (fun H locs hP hS => ?_)
    refine lv_if_ne (tgt := 36) hx hb dX8_diesOf_30 (by decide) (fun tc12 => ?_) (fun tc12 => ?_)
    · replace hk := tr_iff hk tc12
      obtain ⟨tv13, etv13, hk⟩ := tr_okd hk
      refine lv_iinc (v := tv13) (lv' := [(5, .int tv13), (0, .ref (tr_ad w 0)), (1, .ref (tr_ad w tn1)), (4, .int tv903)]) hx hb dX8_diesOf_36 hl (k := 3) rfl (by rw [etv13]; rfl) (by decide) rfl (fun ls hl => ?_)
      refine lv_goto (tgt := 16) hx hb dX8_diesOf_39 (by decide) ?_
      exact hin16 _ (tr_okS hk) _ _ _ hP hS (lv_sub hl [1, 2, 3, 0] rfl)
    · replace hk := tr_ift hk tc12
      refine lv_iload hx hb dX8_diesOf_33 (lv_at hl 3 rfl) ?_
      replace hk := hex16 _ (tr_okS hk)
      replace hk : tr_ok (some (tv6, th11)) (fun o => o = (r0, h0)) := hk
      exact tr_iret C hP hS hr hlocks (tr_okS (P := (fun o => o = (r0, h0))) hk) dX8_diesOf_35
abbrev r_X8_dies : Room := { frames := 6, cells := 0, slots := 0, locals := 142 }
set_option maxHeartbeats 4000000 in
set_option maxRecDepth 100000 in
theorem c_X8_dies (l : Launch) (w : tr_E) (tv900 : Int32) (tv901 : Int32) (tv902 : Int32) (h : tr_H) (r0 : Int32) (h0 : tr_H) (hk : f_X8_dies tv900 tv901 tv902 h = some (r0, h0)) : Met l yX8_dies (Cond.code yX8_dies cX8_dies 4 (some .int) :: tr_T) r_X8_dies (va_Pc [.ref (tr_ad w 0), .int tv900, .int tv901, .int tv902] (tr_Wo tr_M w h)) (tr_Qi tr_M w r0 h0) 0 0 (tr_R tr_M w) := by
  refine tr_start (by decide) (Nat.le_refl _) ?_
  intro p e s m args below meth c C hr hlocks hargs hP
  have hx := C.1
  have hb := C.2.1
  have hS : va_S (tr_R tr_M w) s.heap s.heap [] := va_S.rf
  have hl := lv_entry ([.ref (tr_ad w 0), .int tv900, .int tv901, .int tv902]) (n := 4) (Nat.le_of_ble_eq_true rfl)
  rw [lg_entry_eq]
  generalize (lg_sl ([.ref (tr_ad w 0), .int tv900, .int tv901, .int tv902]) ++ List.replicate (4 - (lg_sl ([.ref (tr_ad w 0), .int tv900, .int tv901, .int tv902])).length) Slot.unset).toArray = ls at hl ⊢
  have hl : lv_has ls 4 [(0, .ref (tr_ad w 0)), (1, .int tv900), (2, .int tv901), (3, .int tv902)] := hl
  replace hk : tr_ok (f_X8_dies tv900 tv901 tv902 h) (fun o => o = (r0, h0)) := ⟨_, hk, rfl⟩
  unfold f_X8_dies at hk
  refine lv_aload_n hx hb dX8_dies_0 rfl (lv_at hl 0 rfl) ?_
  refine lv_iconst (v := 0) hx hb dX8_dies_1 (by decide) ?_
  refine pf_X8_59 C hP hS dX8_dies_2 (fun H locs hP hS => ?_)
  refine tr_th hk hP (fun th1 hk hP => ?_)
  refine lv_aload_n hx hb dX8_dies_5 rfl (lv_at hl 0 rfl) ?_
  refine lv_iload_n hx hb dX8_dies_6 rfl (lv_at hl 1 rfl) ?_
  obtain ⟨tv3, tq2, hk⟩ := tr_okb hk
  refine tr_cvi (As := [.int tv900]) (rest := []) C hP hS hl (c_X8_noDeparture l w tv900 th1 tv3 tq2) mz_X8_noDeparture ml_X8_164 (by decide) rfl rfl rfl rfl ⟨Nat.le_of_ble_eq_true rfl, Nat.le_of_ble_eq_true rfl⟩ rfl rfl (Nat.le_of_ble_eq_true rfl) ⟨Nat.le_refl _, Nat.le_refl _⟩ dX8_dies_7 (fun H locs hP hS => ?_)
  refine lv_if_eq (tgt := 15) hx hb dX8_dies_10 (by decide) (fun tc4 => ?_) (fun tc4 => ?_)
  · replace hk := tr_ift hk tc4
    refine lv_iload_n hx hb dX8_dies_15 rfl (lv_at hl 2 rfl) ?_
    refine lv_i2l hx hb dX8_dies_16 rfl ?_
    refine lv_lconst (v := 1) hx hb dX8_dies_17 (by decide) ?_
    refine lv_ldc2 (v := 30) hx hb C.2.2.2.1 (C.2.2.2.2.1 _ mc_X8_190) dX8_dies_18 ?_
    obtain ⟨tv6, tq5, hk⟩ := tr_okb hk
    refine tr_csi (As := [.long ((tv901 : Int32).toInt64), .long 1, .long 30]) (rest := []) C hP hS hl (c_X8_in l w ((tv901 : Int32).toInt64) 1 30 th1 tv6 tq5) mz_X8_in ml_X8_63 rfl rfl ⟨Nat.le_of_ble_eq_true rfl, Nat.le_of_ble_eq_true rfl⟩ rfl rfl (Nat.le_of_ble_eq_true rfl) ⟨Nat.le_refl _, Nat.le_refl _⟩ dX8_dies_21 (fun H locs hP hS => ?_)
    refine lv_if_eq (tgt := 39) hx hb dX8_dies_24 (by decide) (fun tc7 => ?_) (fun tc7 => ?_)
    · replace hk := tr_ift hk tc7
      refine lv_bipush (v := (-2)) hx hb dX8_dies_39 (by decide) ?_
      exact tr_iret C hP hS hr hlocks (tr_okS (P := (fun o => o = (r0, h0))) hk) dX8_dies_41
    · replace hk := tr_iff hk tc7
      refine lv_iload_n hx hb dX8_dies_27 rfl (lv_at hl 3 rfl) ?_
      refine lv_i2l hx hb dX8_dies_28 rfl ?_
      refine lv_lconst (v := 0) hx hb dX8_dies_29 (by decide) ?_
      refine lv_ldc2 (v := 20) hx hb C.2.2.2.1 (C.2.2.2.2.1 _ mc_X8_181) dX8_dies_30 ?_
      obtain ⟨tv9, tq8, hk⟩ := tr_okb hk
      refine tr_csi (As := [.long ((tv902 : Int32).toInt64), .long 0, .long 20]) (rest := []) C hP hS hl (c_X8_in l w ((tv902 : Int32).toInt64) 0 20 th1 tv9 tq8) mz_X8_in ml_X8_63 rfl rfl ⟨Nat.le_of_ble_eq_true rfl, Nat.le_of_ble_eq_true rfl⟩ rfl rfl (Nat.le_of_ble_eq_true rfl) ⟨Nat.le_refl _, Nat.le_refl _⟩ dX8_dies_33 (fun H locs hP hS => ?_)
      refine lv_if_ne (tgt := 42) hx hb dX8_dies_36 (by decide) (fun tc10 => ?_) (fun tc10 => ?_)
      · replace hk := tr_iff hk tc10
        refine lv_aload_n hx hb dX8_dies_42 rfl (lv_at hl 0 rfl) ?_
        refine lv_aload_n hx hb dX8_dies_43 rfl (lv_at hl 0 rfl) ?_
        refine gf_X8_16 C hP dX8_dies_44 ?_
        refine lv_iload_n hx hb dX8_dies_47 rfl (lv_at hl 3 rfl) ?_
        obtain ⟨tv12, th13, tq11, hk⟩ := tr_okb2 hk
        refine tr_cvi (As := [.ref (tr_ad w 3), .int tv902]) (rest := []) C hP hS hl (c_X8_isPeriod l w 3 tr_pg_3 tv902 th1 tv12 th13 tq11) mz_X8_isPeriod ml_X8_150 (by decide) rfl rfl rfl rfl ⟨Nat.le_of_ble_eq_true rfl, Nat.le_of_ble_eq_true rfl⟩ rfl rfl (Nat.le_of_ble_eq_true rfl) ⟨Nat.le_refl _, Nat.le_refl _⟩ dX8_dies_48 (fun H locs hP hS => ?_)
        refine lv_if_eq (tgt := 68) hx hb dX8_dies_51 (by decide) (fun tc14 => ?_) (fun tc14 => ?_)
        · replace hk := tr_ift hk tc14
          refine lv_bipush (v := (-3)) hx hb dX8_dies_68 (by decide) ?_
          exact tr_iret C hP hS hr hlocks (tr_okS (P := (fun o => o = (r0, h0))) hk) dX8_dies_70
        · replace hk := tr_iff hk tc14
          refine lv_aload_n hx hb dX8_dies_54 rfl (lv_at hl 0 rfl) ?_
          refine lv_aload_n hx hb dX8_dies_55 rfl (lv_at hl 0 rfl) ?_
          refine gf_X8_16 C hP dX8_dies_56 ?_
          refine lv_iload_n hx hb dX8_dies_59 rfl (lv_at hl 1 rfl) ?_
          refine lv_iload_n hx hb dX8_dies_60 rfl (lv_at hl 2 rfl) ?_
          refine lv_iload_n hx hb dX8_dies_61 rfl (lv_at hl 3 rfl) ?_
          obtain ⟨tv16, th17, tq15, hk⟩ := tr_okb2 hk
          refine tr_cvi (As := [.ref (tr_ad w 3), .int tv900, .int tv901, .int tv902]) (rest := []) C hP hS hl (c_X8_diesOf l w 3 tr_pg_3 tv900 tv901 tv902 th13 tv16 th17 tq15) mz_X8_diesOf ml_X8_201 (by decide) rfl rfl rfl rfl ⟨Nat.le_of_ble_eq_true rfl, Nat.le_of_ble_eq_true rfl⟩ rfl rfl (Nat.le_of_ble_eq_true rfl) ⟨Nat.le_refl _, Nat.le_refl _⟩ dX8_dies_62 (fun H locs hP hS => ?_)
          refine lv_goto (tgt := 70) hx hb dX8_dies_65 (by decide) ?_
          exact tr_iret C hP hS hr hlocks (tr_okS (P := (fun o => o = (r0, h0))) hk) dX8_dies_70
      · replace hk := tr_ift hk tc10
        refine lv_bipush (v := (-2)) hx hb dX8_dies_39 (by decide) ?_
        exact tr_iret C hP hS hr hlocks (tr_okS (P := (fun o => o = (r0, h0))) hk) dX8_dies_41
  · replace hk := tr_iff hk tc4
    refine lv_iconst (v := (-1)) hx hb dX8_dies_13 (by decide) ?_
    exact tr_iret C hP hS hr hlocks (tr_okS (P := (fun o => o = (r0, h0))) hk) dX8_dies_14
abbrev r_X8_begin : Room := { frames := 0, cells := 0, slots := 0, locals := 0 }
set_option maxHeartbeats 4000000 in
set_option maxRecDepth 100000 in
theorem c_X8_begin (l : Launch) (w : tr_E)  (h : tr_H) (h0 : tr_H) (hk : f_X8_begin h = some h0) : Met l yX8_begin (Cond.code yX8_begin cX8_begin 2 none :: tr_T) r_X8_begin (va_Pc [.ref (tr_ad w 0)] (tr_Wo tr_M w h)) (tr_Qv tr_M w h0) 0 0 (tr_R tr_M w) := by
  refine tr_start (by decide) (Nat.le_refl _) ?_
  intro p e s m args below meth c C hr hlocks hargs hP
  have hx := C.1
  have hb := C.2.1
  have hS : va_S (tr_R tr_M w) s.heap s.heap [] := va_S.rf
  have hl := lv_entry ([.ref (tr_ad w 0)]) (n := 2) (Nat.le_of_ble_eq_true rfl)
  rw [lg_entry_eq]
  generalize (lg_sl ([.ref (tr_ad w 0)]) ++ List.replicate (2 - (lg_sl ([.ref (tr_ad w 0)])).length) Slot.unset).toArray = ls at hl ⊢
  have hl : lv_has ls 2 [(0, .ref (tr_ad w 0))] := hl
  replace hk : tr_ok (f_X8_begin h) (fun o => o = h0) := ⟨_, hk, rfl⟩
  unfold f_X8_begin at hk
  refine lv_iconst (v := 0) hx hb dX8_begin_0 (by decide) ?_
  refine lv_istore_n (lv' := [(1, .int 0), (0, .ref (tr_ad w 0))]) hx hb dX8_begin_1 rfl hl (by decide) rfl (fun ls hl => ?_)
  have j26_2 : ∀ (th1 : tr_H), tr_ok (f_X8_begin_E26 th1) (fun o => o = h0) → tr_Wd p l e r_X8_begin s m args below meth c (MQ below (tr_Qv tr_M w h0) args s 0 0 (tr_R tr_M w)) tr_M w 2 26 [] [] th1 := by
    intro th1 hk H locs ls hP hS hl
    unfold f_X8_begin_E26 at hk
    exact tr_vret C hP hS hr hlocks (tr_okS (P := (fun o => o = h0)) hk) dX8_begin_26
  refine tr_loop (fun q => tr_Wd p l e r_X8_begin s m args below meth c (MQ below (tr_Qv tr_M w h0) args s 0 0 (tr_R tr_M w)) tr_M w 2 2 [(0, .ref (tr_ad w 0)), (1, .int q.1)] [] q.2) hk ?_ _ _ _ hP hS (lv_sub hl [1, 0] rfl)
  intro P2 hin2 hex2 q hk
  obtain ⟨tv2, th3⟩ := q
  intro H locs ls hP hS hl
  replace hk : tr_ok (f_X8_begin_L2 tv2 th3) P2 := hk
  unfold f_X8_begin_L2 at hk
  refine lv_iload_n hx hb dX8_begin_2 rfl (lv_at hl 1 rfl) ?_
  refine lv_bipush (v := 37) hx hb dX8_begin_3 (by decide) ?_
  refine lv_icmp_ge (tgt := 26) hx hb dX8_begin_5 (by decide) (fun tc4 => ?_) (fun tc4 => ?_)
  · replace hk := tr_ift hk tc4
    replace hk := hex2 _ (tr_okS hk)
    replace hk : tr_ok (f_X8_begin_E26 th3) (fun o => o = h0) := hk
    exact j26_2 th3 hk _ _ _ hP hS (lv_sub hl [] rfl)
  · replace hk := tr_iff hk tc4
    refine lv_aload_n hx hb dX8_begin_8 rfl (lv_at hl 0 rfl) ?_
    refine gf_X8_19 C hP dX8_begin_9 ?_
    refine lv_iload_n hx hb dX8_begin_12 rfl (lv_at hl 1 rfl) ?_
    refine lv_aload_n hx hb dX8_begin_13 rfl (lv_at hl 0 rfl) ?_
    refine gf_X8_16 C hP dX8_begin_14 ?_
    refine lv_iload_n hx hb dX8_begin_17 rfl (lv_at hl 1 rfl) ?_
    obtain ⟨tg5, hk⟩ := tr_okg hk
    refine tr_ial C hP (ar_M_3 w) tg5 dX8_begin_18 ?_
    obtain ⟨tg6, hk⟩ := tr_okg hk
    refine tr_ias C hP hS (ar_M_4 w) tg6 dX8_begin_19 (fun H locs hP hS => ?_)
    refine tr_th hk hP (fun th7 hk hP => ?_)
    obtain ⟨tv8, etv8, hk⟩ := tr_okd hk
    refine lv_iinc (v := tv8) (lv' := [(1, .int tv8), (0, .ref (tr_ad w 0))]) hx hb dX8_begin_20 hl (k := 1) rfl (by rw [etv8]; rfl) (by decide) rfl (fun ls hl => ?_)
    refine lv_goto (tgt := 2) hx hb dX8_begin_23 (by decide) ?_
    exact hin2 _ (tr_okS hk) _ _ _ hP hS (lv_sub hl [1, 0] rfl)
abbrev r_X8_sixtiethsOf : Room := { frames := 4, cells := 0, slots := 0, locals := 99 }
set_option maxHeartbeats 4000000 in
set_option maxRecDepth 100000 in
theorem c_X8_sixtiethsOf (l : Launch) (w : tr_E) (tn1 : Nat) (htn1 : tr_pg tn1) (tv901 : Int32) (h : tr_H) (r0 : Int32) (h0 : tr_H) (hk : f_X8_sixtiethsOf tn1 tv901 h = some (r0, h0)) : Met l yX8_sixtiethsOf (Cond.code yX8_sixtiethsOf cX8_sixtiethsOf 3 (some .int) :: tr_T) r_X8_sixtiethsOf (va_Pc [.ref (tr_ad w 0), .ref (tr_ad w tn1), .int tv901] (tr_Wo tr_M w h)) (tr_Qi tr_M w r0 h0) 0 0 (tr_R tr_M w) := by
  refine tr_start (by decide) (Nat.le_refl _) ?_
  intro p e s m args below meth c C hr hlocks hargs hP
  have hx := C.1
  have hb := C.2.1
  have hS : va_S (tr_R tr_M w) s.heap s.heap [] := va_S.rf
  have hl := lv_entry ([.ref (tr_ad w 0), .ref (tr_ad w tn1), .int tv901]) (n := 3) (Nat.le_of_ble_eq_true rfl)
  rw [lg_entry_eq]
  generalize (lg_sl ([.ref (tr_ad w 0), .ref (tr_ad w tn1), .int tv901]) ++ List.replicate (3 - (lg_sl ([.ref (tr_ad w 0), .ref (tr_ad w tn1), .int tv901])).length) Slot.unset).toArray = ls at hl ⊢
  have hl : lv_has ls 3 [(0, .ref (tr_ad w 0)), (1, .ref (tr_ad w tn1)), (2, .int tv901)] := hl
  replace hk : tr_ok (f_X8_sixtiethsOf tn1 tv901 h) (fun o => o = (r0, h0)) := ⟨_, hk, rfl⟩
  unfold f_X8_sixtiethsOf at hk
  refine lv_aload_n hx hb dX8_sixtiethsOf_0 rfl (lv_at hl 0 rfl) ?_
  refine lv_aload_n hx hb dX8_sixtiethsOf_1 rfl (lv_at hl 1 rfl) ?_
  refine lv_iload_n hx hb dX8_sixtiethsOf_2 rfl (lv_at hl 2 rfl) ?_
  obtain ⟨th2, tq1, hk⟩ := tr_okb hk
  refine tr_cvv (As := [.ref (tr_ad w tn1), .int tv901]) (rest := []) C hP hS hl (c_X8_findRings l w tn1 htn1 tv901 h th2 tq1) mz_X8_findRings ml_X8_143 (by decide) rfl rfl rfl rfl ⟨Nat.le_of_ble_eq_true rfl, Nat.le_of_ble_eq_true rfl⟩ rfl rfl (Nat.le_of_ble_eq_true rfl) ⟨Nat.le_refl _, Nat.le_refl _⟩ dX8_sixtiethsOf_3 (fun H locs hP hS => ?_)
  refine lv_aload_n hx hb dX8_sixtiethsOf_6 rfl (lv_at hl 0 rfl) ?_
  refine gf_X8_116 C hP dX8_sixtiethsOf_7 ?_
  refine lv_if_ne (tgt := 17) hx hb dX8_sixtiethsOf_10 (by decide) (fun tc3 => ?_) (fun tc3 => ?_)
  · replace hk := tr_iff hk tc3
    refine lv_bipush (v := 60) hx hb dX8_sixtiethsOf_17 (by decide) ?_
    refine lv_aload_n hx hb dX8_sixtiethsOf_19 rfl (lv_at hl 0 rfl) ?_
    refine gf_X8_116 C hP dX8_sixtiethsOf_20 ?_
    refine tr_ti hk (fun tv4 hk => ?_)
    obtain ⟨tg5, hk⟩ := tr_okn hk
    refine lv_idiv hx hb dX8_sixtiethsOf_23 tg5 ?_
    refine lv_aload_n hx hb dX8_sixtiethsOf_24 rfl (lv_at hl 0 rfl) ?_
    refine gf_X8_119 C hP dX8_sixtiethsOf_25 ?_
    refine lv_imul hx hb dX8_sixtiethsOf_28 ?_
    exact tr_iret C hP hS hr hlocks (tr_okS (P := (fun o => o = (r0, h0))) hk) dX8_sixtiethsOf_29
  · replace hk := tr_ift hk tc3
    refine lv_iconst (v := (-1)) hx hb dX8_sixtiethsOf_13 (by decide) ?_
    refine lv_goto (tgt := 29) hx hb dX8_sixtiethsOf_14 (by decide) ?_
    exact tr_iret C hP hS hr hlocks (tr_okS (P := (fun o => o = (r0, h0))) hk) dX8_sixtiethsOf_29
abbrev r_X8_best : Room := { frames := 5, cells := 0, slots := 0, locals := 121 }
set_option maxHeartbeats 4000000 in
set_option maxRecDepth 100000 in
theorem c_X8_best (l : Launch) (w : tr_E) (tv900 : Int32) (h : tr_H) (r0 : Int32) (h0 : tr_H) (hk : f_X8_best tv900 h = some (r0, h0)) : Met l yX8_best (Cond.code yX8_best cX8_best 7 (some .int) :: tr_T) r_X8_best (va_Pc [.ref (tr_ad w 0), .int tv900] (tr_Wo tr_M w h)) (tr_Qi tr_M w r0 h0) 0 0 (tr_R tr_M w) := by
  refine tr_start (by decide) (Nat.le_refl _) ?_
  intro p e s m args below meth c C hr hlocks hargs hP
  have hx := C.1
  have hb := C.2.1
  have hS : va_S (tr_R tr_M w) s.heap s.heap [] := va_S.rf
  have hl := lv_entry ([.ref (tr_ad w 0), .int tv900]) (n := 7) (Nat.le_of_ble_eq_true rfl)
  rw [lg_entry_eq]
  generalize (lg_sl ([.ref (tr_ad w 0), .int tv900]) ++ List.replicate (7 - (lg_sl ([.ref (tr_ad w 0), .int tv900])).length) Slot.unset).toArray = ls at hl ⊢
  have hl : lv_has ls 7 [(0, .ref (tr_ad w 0)), (1, .int tv900)] := hl
  replace hk : tr_ok (f_X8_best tv900 h) (fun o => o = (r0, h0)) := ⟨_, hk, rfl⟩
  unfold f_X8_best at hk
  refine lv_aload_n hx hb dX8_best_0 rfl (lv_at hl 0 rfl) ?_
  refine lv_iconst (v := 0) hx hb dX8_best_1 (by decide) ?_
  refine pf_X8_59 C hP hS dX8_best_2 (fun H locs hP hS => ?_)
  refine tr_th hk hP (fun th1 hk hP => ?_)
  refine lv_iload_n hx hb dX8_best_5 rfl (lv_at hl 1 rfl) ?_
  refine lv_i2l hx hb dX8_best_6 rfl ?_
  refine lv_lconst (v := 0) hx hb dX8_best_7 (by decide) ?_
  refine lv_lconst (v := 1) hx hb dX8_best_8 (by decide) ?_
  obtain ⟨tv3, tq2, hk⟩ := tr_okb hk
  refine tr_csi (As := [.long ((tv900 : Int32).toInt64), .long 0, .long 1]) (rest := []) C hP hS hl (c_X8_in l w ((tv900 : Int32).toInt64) 0 1 th1 tv3 tq2) mz_X8_in ml_X8_63 rfl rfl ⟨Nat.le_of_ble_eq_true rfl, Nat.le_of_ble_eq_true rfl⟩ rfl rfl (Nat.le_of_ble_eq_true rfl) ⟨Nat.le_refl _, Nat.le_refl _⟩ dX8_best_9 (fun H locs hP hS => ?_)
  refine lv_if_ne (tgt := 18) hx hb dX8_best_12 (by decide) (fun tc4 => ?_) (fun tc4 => ?_)
  · replace hk := tr_iff hk tc4
    refine lv_bipush (v := (-9)) hx hb dX8_best_18 (by decide) ?_
    refine lv_istore_n (lv' := [(2, .int (-9)), (0, .ref (tr_ad w 0)), (1, .int tv900)]) hx hb dX8_best_20 rfl hl (by decide) rfl (fun ls hl => ?_)
    refine lv_iconst (v := 0) hx hb dX8_best_21 (by decide) ?_
    refine lv_istore_n (lv' := [(3, .int 0), (2, .int (-9)), (0, .ref (tr_ad w 0)), (1, .int tv900)]) hx hb dX8_best_22 rfl hl (by decide) rfl (fun ls hl => ?_)
    refine lv_iconst (v := 0) hx hb dX8_best_23 (by decide) ?_
    refine lv_istore (lv' := [(4, .int 0), (3, .int 0), (2, .int (-9)), (0, .ref (tr_ad w 0)), (1, .int tv900)]) hx hb dX8_best_24 hl (by decide) rfl (fun ls hl => ?_)
    have j153_26 : ∀ (tv5 : Int32) (th6 : tr_H), tr_ok (f_X8_best_E153 tv5 th6) (fun o => o = (r0, h0)) → tr_Wd p l e r_X8_best s m args below meth c (MQ below (tr_Qi tr_M w r0 h0) args s 0 0 (tr_R tr_M w)) tr_M w 7 153 [(2, .int tv5)] [] th6 := by
      intro tv5 th6 hk H locs ls hP hS hl
      unfold f_X8_best_E153 at hk
      refine lv_iload_n hx hb dX8_best_153 rfl (lv_at hl 0 rfl) ?_
      exact tr_iret C hP hS hr hlocks (tr_okS (P := (fun o => o = (r0, h0))) hk) dX8_best_154
    refine tr_loop (fun q => tr_Wd p l e r_X8_best s m args below meth c (MQ below (tr_Qi tr_M w r0 h0) args s 0 0 (tr_R tr_M w)) tr_M w 7 26 [(0, .ref (tr_ad w 0)), (1, .int tv900), (2, .int q.1), (3, .int q.2.1), (4, .int q.2.2.1)] [] q.2.2.2) hk ?_ _ _ _ hP hS (lv_sub hl [3, 4, 2, 1, 0] rfl)
    intro P26 hin26 hex26 q hk
    obtain ⟨tv7, tv8, tv9, th10⟩ := q
    intro H locs ls hP hS hl
    replace hk : tr_ok (f_X8_best_L26 tv900 tv7 tv8 tv9 th10) P26 := hk
    unfold f_X8_best_L26 at hk
    refine lv_iload hx hb dX8_best_26 (lv_at hl 4 rfl) ?_
    refine lv_bipush (v := 36) hx hb dX8_best_28 (by decide) ?_
    refine lv_icmp_ge (tgt := 153) hx hb dX8_best_30 (by decide) (fun tc11 => ?_) (fun tc11 => ?_)
    · replace hk := tr_ift hk tc11
      replace hk := hex26 _ (tr_okS hk)
      replace hk : tr_ok (f_X8_best_E153 tv7 th10) (fun o => o = (r0, h0)) := hk
      exact j153_26 tv7 th10 hk _ _ _ hP hS (lv_sub hl [2] rfl)
    · replace hk := tr_iff hk tc11
      refine lv_aload_n hx hb dX8_best_33 rfl (lv_at hl 0 rfl) ?_
      refine gf_X8_16 C hP dX8_best_34 ?_
      refine lv_iconst (v := 1) hx hb dX8_best_37 (by decide) ?_
      refine lv_iload hx hb dX8_best_38 (lv_at hl 4 rfl) ?_
      refine lv_iadd hx hb dX8_best_40 ?_
      refine tr_ti hk (fun tv12 hk => ?_)
      obtain ⟨tg13, hk⟩ := tr_okg hk
      refine tr_ial C hP (ar_M_3 w) tg13 dX8_best_41 ?_
      refine lv_iconst (v := 1) hx hb dX8_best_42 (by decide) ?_
      refine lv_iload_n hx hb dX8_best_43 rfl (lv_at hl 1 rfl) ?_
      refine lv_isub hx hb dX8_best_44 ?_
      refine lv_icmp_le (tgt := 147) hx hb dX8_best_45 (by decide) (fun tc14 => ?_) (fun tc14 => ?_)
      · replace hk := tr_ift hk tc14
        obtain ⟨tv15, etv15, hk⟩ := tr_okd hk
        refine lv_iinc (v := tv15) (lv' := [(4, .int tv15), (0, .ref (tr_ad w 0)), (1, .int tv900), (2, .int tv7), (3, .int tv8)]) hx hb dX8_best_147 hl (k := 4) rfl (by rw [etv15]; rfl) (by decide) rfl (fun ls hl => ?_)
        refine lv_goto (tgt := 26) hx hb dX8_best_150 (by decide) ?_
        exact hin26 _ (tr_okS hk) _ _ _ hP hS (lv_sub hl [1, 2, 3, 4, 0] rfl)
      · replace hk := tr_iff hk tc14
        refine lv_aload_n hx hb dX8_best_48 rfl (lv_at hl 0 rfl) ?_
        obtain ⟨th17, tq16, hk⟩ := tr_okb hk
        refine tr_cvv (As := []) (rest := []) C hP hS hl (c_X8_begin l w th10 th17 tq16) mz_X8_begin ml_X8_204 (by decide) rfl rfl rfl rfl ⟨Nat.le_of_ble_eq_true rfl, Nat.le_of_ble_eq_true rfl⟩ rfl rfl (Nat.le_of_ble_eq_true rfl) ⟨Nat.le_refl _, Nat.le_refl _⟩ dX8_best_49 (fun H locs hP hS => ?_)
        refine lv_aload_n hx hb dX8_best_52 rfl (lv_at hl 0 rfl) ?_
        refine gf_X8_19 C hP dX8_best_53 ?_
        refine lv_iconst (v := 1) hx hb dX8_best_56 (by decide) ?_
        refine lv_iload hx hb dX8_best_57 (lv_at hl 4 rfl) ?_
        refine lv_iadd hx hb dX8_best_59 ?_
        refine lv_iload_n hx hb dX8_best_60 rfl (lv_at hl 1 rfl) ?_
        have j79 : ∀ (tv18 : Int32), tr_ok (f_X8_best_J79 tv9 th17 tv7 tv8 tv18) P26 → tr_Wd p l e r_X8_best s m args below meth c (MQ below (tr_Qi tr_M w r0 h0) args s 0 0 (tr_R tr_M w)) tr_M w 7 79 [(0, .ref (tr_ad w 0)), (1, .int tv900), (2, .int tv7), (3, .int tv8), (4, .int tv9)] [.int tv18, .int (1 + tv9), .ref (tr_ad w 4)] th17 := by
          intro tv18 hk H locs ls hP hS hl
          unfold f_X8_best_J79 at hk
          obtain ⟨tv19, etv19, hk⟩ := tr_okd hk
          rw [← etv19]
          obtain ⟨tg20, hk⟩ := tr_okg hk
          refine tr_ias C hP hS (ar_M_4 w) tg20 dX8_best_79 (fun H locs hP hS => ?_)
          refine tr_th hk hP (fun th21 hk hP => ?_)
          refine lv_aload_n hx hb dX8_best_80 rfl (lv_at hl 0 rfl) ?_
          refine lv_aload_n hx hb dX8_best_81 rfl (lv_at hl 0 rfl) ?_
          refine gf_X8_19 C hP dX8_best_82 ?_
          refine lv_bipush (v := 63) hx hb dX8_best_85 (by decide) ?_
          obtain ⟨tv23, th24, tq22, hk⟩ := tr_okb2 hk
          refine tr_cvi (As := [.ref (tr_ad w 4), .int 63]) (rest := []) C hP hS hl (c_X8_sixtiethsOf l w 4 tr_pg_4 63 th21 tv23 th24 tq22) mz_X8_sixtiethsOf ml_X8_207 (by decide) rfl rfl rfl rfl ⟨Nat.le_of_ble_eq_true rfl, Nat.le_of_ble_eq_true rfl⟩ rfl rfl (Nat.le_of_ble_eq_true rfl) ⟨Nat.le_refl _, Nat.le_refl _⟩ dX8_best_87 (fun H locs hP hS => ?_)
          refine lv_istore (lv' := [(5, .int tv23), (0, .ref (tr_ad w 0)), (1, .int tv900), (2, .int tv7), (3, .int tv8), (4, .int tv9)]) hx hb dX8_best_90 hl (by decide) rfl (fun ls hl => ?_)
          refine lv_iload_n hx hb dX8_best_92 rfl (lv_at hl 3 rfl) ?_
          refine lv_bipush (v := (-9)) hx hb dX8_best_93 (by decide) ?_
          have j109 : ∀ (tv25 : Int32), tr_ok (f_X8_best_J109 tv9 tv8 th24 tv23 tv7 tv25) P26 → tr_Wd p l e r_X8_best s m args below meth c (MQ below (tr_Qi tr_M w r0 h0) args s 0 0 (tr_R tr_M w)) tr_M w 7 109 [(0, .ref (tr_ad w 0)), (1, .int tv900), (2, .int tv7), (3, .int tv8), (4, .int tv9), (5, .int tv23)] [.int tv25] th24 := by
            intro tv25 hk H locs ls hP hS hl
            unfold f_X8_best_J109 at hk
            refine lv_istore (lv' := [(6, .int tv25), (0, .ref (tr_ad w 0)), (1, .int tv900), (2, .int tv7), (3, .int tv8), (4, .int tv9), (5, .int tv23)]) hx hb dX8_best_109 hl (by decide) rfl (fun ls hl => ?_)
            refine lv_iload hx hb dX8_best_111 (lv_at hl 0 rfl) ?_
            have j134 : ∀ (tv26 : Int32), tr_ok (f_X8_best_J134 tv25 tv9 tv8 th24 tv23 tv26) P26 → tr_Wd p l e r_X8_best s m args below meth c (MQ below (tr_Qi tr_M w r0 h0) args s 0 0 (tr_R tr_M w)) tr_M w 7 134 [(0, .ref (tr_ad w 0)), (1, .int tv900), (3, .int tv8), (4, .int tv9), (5, .int tv23), (6, .int tv25)] [.int tv26] th24 := by
              intro tv26 hk H locs ls hP hS hl
              unfold f_X8_best_J134 at hk
              refine lv_istore_n (lv' := [(2, .int tv26), (0, .ref (tr_ad w 0)), (1, .int tv900), (3, .int tv8), (4, .int tv9), (5, .int tv23), (6, .int tv25)]) hx hb dX8_best_134 rfl hl (by decide) rfl (fun ls hl => ?_)
              refine lv_iload hx hb dX8_best_135 (lv_at hl 6 rfl) ?_
              refine lv_if_eq (tgt := 145) hx hb dX8_best_137 (by decide) (fun tc27 => ?_) (fun tc27 => ?_)
              · replace hk := tr_ift hk tc27
                refine lv_iload_n hx hb dX8_best_145 rfl (lv_at hl 3 rfl) ?_
                refine lv_istore_n (lv' := [(3, .int tv8), (2, .int tv26), (0, .ref (tr_ad w 0)), (1, .int tv900), (4, .int tv9), (5, .int tv23), (6, .int tv25)]) hx hb dX8_best_146 rfl hl (by decide) rfl (fun ls hl => ?_)
                obtain ⟨tv28, etv28, hk⟩ := tr_okd hk
                refine lv_iinc (v := tv28) (lv' := [(4, .int tv28), (3, .int tv8), (2, .int tv26), (0, .ref (tr_ad w 0)), (1, .int tv900), (5, .int tv23), (6, .int tv25)]) hx hb dX8_best_147 hl (k := 4) rfl (by rw [etv28]; rfl) (by decide) rfl (fun ls hl => ?_)
                refine lv_goto (tgt := 26) hx hb dX8_best_150 (by decide) ?_
                exact hin26 _ (tr_okS hk) _ _ _ hP hS (lv_sub hl [3, 4, 2, 1, 0] rfl)
              · replace hk := tr_iff hk tc27
                refine lv_iload hx hb dX8_best_140 (lv_at hl 5 rfl) ?_
                refine lv_goto (tgt := 146) hx hb dX8_best_142 (by decide) ?_
                refine lv_istore_n (lv' := [(3, .int tv23), (2, .int tv26), (0, .ref (tr_ad w 0)), (1, .int tv900), (4, .int tv9), (5, .int tv23), (6, .int tv25)]) hx hb dX8_best_146 rfl hl (by decide) rfl (fun ls hl => ?_)
                obtain ⟨tv29, etv29, hk⟩ := tr_okd hk
                refine lv_iinc (v := tv29) (lv' := [(4, .int tv29), (3, .int tv23), (2, .int tv26), (0, .ref (tr_ad w 0)), (1, .int tv900), (5, .int tv23), (6, .int tv25)]) hx hb dX8_best_147 hl (k := 4) rfl (by rw [etv29]; rfl) (by decide) rfl (fun ls hl => ?_)
                refine lv_goto (tgt := 26) hx hb dX8_best_150 (by decide) ?_
                exact hin26 _ (tr_okS hk) _ _ _ hP hS (lv_sub hl [3, 4, 2, 1, 0] rfl)
            refine lv_if_eq (tgt := 133) hx hb dX8_best_113 (by decide) (fun tc30 => ?_) (fun tc30 => ?_)
            · replace hk := tr_ift hk tc30
              refine lv_iload_n hx hb dX8_best_133 rfl (lv_at hl 3 rfl) ?_
              exact j134 tv7 hk _ _ _ hP hS (lv_sub hl [1, 2, 4, 5, 6, 0] rfl)
            · replace hk := tr_iff hk tc30
              refine lv_bipush (v := 10) hx hb dX8_best_116 (by decide) ?_
              refine lv_iload hx hb dX8_best_118 (lv_at hl 5 rfl) ?_
              refine lv_bipush (v := 6) hx hb dX8_best_120 (by decide) ?_
              refine lv_idiv hx hb dX8_best_122 (by decide) ?_
              refine lv_imul hx hb dX8_best_123 ?_
              refine lv_iload hx hb dX8_best_124 (lv_at hl 5 rfl) ?_
              refine lv_bipush (v := 6) hx hb dX8_best_126 (by decide) ?_
              refine lv_irem hx hb dX8_best_128 (by decide) ?_
              refine lv_iadd hx hb dX8_best_129 ?_
              refine lv_goto (tgt := 134) hx hb dX8_best_130 (by decide) ?_
              exact j134 ((10 * (tv9 / 6)) + (tv9 - tv9 / 6 * 6)) hk _ _ _ hP hS (lv_sub hl [1, 2, 4, 5, 6, 0] rfl)
          have j104 : tr_ok (f_X8_best_J104 tv9 tv8 th24 tv23 tv7) P26 → tr_Wd p l e r_X8_best s m args below meth c (MQ below (tr_Qi tr_M w r0 h0) args s 0 0 (tr_R tr_M w)) tr_M w 7 104 [(0, .ref (tr_ad w 0)), (1, .int tv900), (2, .int tv7), (3, .int tv8), (4, .int tv9), (5, .int tv23)] [] th24 := by
            intro  hk H locs ls hP hS hl
            unfold f_X8_best_J104 at hk
            refine lv_iconst (v := 1) hx hb dX8_best_104 (by decide) ?_
            refine lv_goto (tgt := 109) hx hb dX8_best_105 (by decide) ?_
            exact j109 1 hk _ _ _ hP hS (lv_sub hl [0, 1, 2, 3, 4, 5] rfl)
          refine lv_icmp_eq (tgt := 104) hx hb dX8_best_95 (by decide) (fun tc31 => ?_) (fun tc31 => ?_)
          · replace hk := tr_ift hk tc31
            exact j104 hk _ _ _ hP hS (lv_sub hl [1, 2, 3, 4, 5, 0] rfl)
          · replace hk := tr_iff hk tc31
            refine lv_iload hx hb dX8_best_98 (lv_at hl 0 rfl) ?_
            refine lv_iload_n hx hb dX8_best_100 rfl (lv_at hl 4 rfl) ?_
            refine lv_icmp_ge (tgt := 108) hx hb dX8_best_101 (by decide) (fun tc32 => ?_) (fun tc32 => ?_)
            · replace hk := tr_ift hk tc32
              refine lv_iconst (v := 0) hx hb dX8_best_108 (by decide) ?_
              exact j109 0 hk _ _ _ hP hS (lv_sub hl [1, 2, 3, 4, 5, 0] rfl)
            · replace hk := tr_iff hk tc32
              exact j104 hk _ _ _ hP hS (lv_sub hl [1, 2, 3, 4, 5, 0] rfl)
        refine lv_if_ne (tgt := 78) hx hb dX8_best_61 (by decide) (fun tc33 => ?_) (fun tc33 => ?_)
        · replace hk := tr_iff hk tc33
          refine lv_iconst (v := 0) hx hb dX8_best_78 (by decide) ?_
          exact j79 0 hk _ _ _ hP hS (lv_sub hl [0, 1, 2, 3, 4] rfl)
        · replace hk := tr_ift hk tc33
          refine lv_aload_n hx hb dX8_best_64 rfl (lv_at hl 0 rfl) ?_
          refine gf_X8_19 C hP dX8_best_65 ?_
          refine lv_iconst (v := 1) hx hb dX8_best_68 (by decide) ?_
          refine lv_iload hx hb dX8_best_69 (lv_at hl 4 rfl) ?_
          refine lv_iadd hx hb dX8_best_71 ?_
          refine tr_ti hk (fun tv34 hk => ?_)
          obtain ⟨tg35, hk⟩ := tr_okg hk
          refine tr_ial C hP (ar_M_4 w) tg35 dX8_best_72 ?_
          refine lv_iconst (v := 1) hx hb dX8_best_73 (by decide) ?_
          refine lv_isub hx hb dX8_best_74 ?_
          refine lv_goto (tgt := 79) hx hb dX8_best_75 (by decide) ?_
          exact j79 ((th17.1 4 tv34.toNatClampNeg) - 1) hk _ _ _ hP hS (lv_sub hl [0, 1, 2, 3, 4] rfl)
  · replace hk := tr_ift hk tc4
    refine lv_bipush (v := (-2)) hx hb dX8_best_15 (by decide) ?_
    exact tr_iret C hP hS hr hlocks (tr_okS (P := (fun o => o = (r0, h0))) hk) dX8_best_17
abbrev r_X8_longPower : Room := { frames := 0, cells := 0, slots := 0, locals := 0 }
set_option maxHeartbeats 4000000 in
set_option maxRecDepth 100000 in
theorem c_X8_longPower (l : Launch) (w : tr_E) (tv900 : Int64) (tv901 : Int32) (h : tr_H) (r0 : Int64) (hk : f_X8_longPower tv900 tv901 = some r0) : Met l yX8_longPower (Cond.code yX8_longPower cX8_longPower 6 (some .long) :: tr_T) r_X8_longPower (va_Pc [.long tv900, .int tv901] (tr_Wo tr_M w h)) (tr_Ql tr_M w r0 h) 0 0 (tr_R tr_M w) := by
  refine tr_start (by decide) (Nat.le_refl _) ?_
  intro p e s m args below meth c C hr hlocks hargs hP
  have hx := C.1
  have hb := C.2.1
  have hS : va_S (tr_R tr_M w) s.heap s.heap [] := va_S.rf
  have hl := lv_entry ([.long tv900, .int tv901]) (n := 6) (Nat.le_of_ble_eq_true rfl)
  rw [lg_entry_eq]
  generalize (lg_sl ([.long tv900, .int tv901]) ++ List.replicate (6 - (lg_sl ([.long tv900, .int tv901])).length) Slot.unset).toArray = ls at hl ⊢
  have hl : lv_has ls 6 [(0, .long tv900), (2, .int tv901)] := hl
  replace hk : tr_ok (f_X8_longPower tv900 tv901) (fun o => o = r0) := ⟨_, hk, rfl⟩
  unfold f_X8_longPower at hk
  refine lv_lconst (v := 1) hx hb dX8_longPower_0 (by decide) ?_
  refine lv_lstore_n (lv' := [(3, .long 1), (0, .long tv900), (2, .int tv901)]) hx hb dX8_longPower_1 rfl hl (by decide) rfl (fun ls hl => ?_)
  refine lv_iconst (v := 0) hx hb dX8_longPower_2 (by decide) ?_
  refine lv_istore (lv' := [(5, .int 0), (3, .long 1), (0, .long tv900), (2, .int tv901)]) hx hb dX8_longPower_3 hl (by decide) rfl (fun ls hl => ?_)
  have j21_5 : ∀ (tv1 : Int64), tr_ok (f_X8_longPower_E21 tv1) (fun o => o = r0) → tr_Wd p l e r_X8_longPower s m args below meth c (MQ below (tr_Ql tr_M w r0 h) args s 0 0 (tr_R tr_M w)) tr_M w 6 21 [(3, .long tv1)] [] h := by
    intro tv1 hk H locs ls hP hS hl
    unfold f_X8_longPower_E21 at hk
    refine lv_lload_n hx hb dX8_longPower_21 rfl (lv_at hl 0 rfl) ?_
    exact tr_lret C hP hS hr hlocks (congrArg (fun x => (x, h)) (tr_okS (P := (fun o => o = r0)) hk)) dX8_longPower_22
  refine tr_loop (fun q => tr_Wd p l e r_X8_longPower s m args below meth c (MQ below (tr_Ql tr_M w r0 h) args s 0 0 (tr_R tr_M w)) tr_M w 6 5 [(0, .long tv900), (2, .int tv901), (3, .long q.1), (5, .int q.2)] [] h) hk ?_ _ _ _ hP hS (lv_sub hl [2, 3, 1, 0] rfl)
  intro P5 hin5 hex5 q hk
  obtain ⟨tv2, tv3⟩ := q
  intro H locs ls hP hS hl
  replace hk : tr_ok (f_X8_longPower_L5 tv901 tv900 tv2 tv3) P5 := hk
  unfold f_X8_longPower_L5 at hk
  refine lv_iload hx hb dX8_longPower_5 (lv_at hl 3 rfl) ?_
  refine lv_iload_n hx hb dX8_longPower_7 rfl (lv_at hl 1 rfl) ?_
  refine lv_icmp_ge (tgt := 21) hx hb dX8_longPower_8 (by decide) (fun tc4 => ?_) (fun tc4 => ?_)
  · replace hk := tr_ift hk tc4
    replace hk := hex5 _ (tr_okS hk)
    replace hk : tr_ok (f_X8_longPower_E21 tv2) (fun o => o = r0) := hk
    exact j21_5 tv2 hk _ _ _ hP hS (lv_sub hl [2] rfl)
  · replace hk := tr_iff hk tc4
    refine lv_lload_n hx hb dX8_longPower_11 rfl (lv_at hl 2 rfl) ?_
    refine lv_lload_n hx hb dX8_longPower_12 rfl (lv_at hl 0 rfl) ?_
    refine lv_lmul hx hb dX8_longPower_13 ?_
    refine tr_tl hk (fun tv5 hk => ?_)
    refine lv_lstore_n (lv' := [(3, .long tv5), (0, .long tv900), (2, .int tv901), (5, .int tv3)]) hx hb dX8_longPower_14 rfl hl (by decide) rfl (fun ls hl => ?_)
    obtain ⟨tv6, etv6, hk⟩ := tr_okd hk
    refine lv_iinc (v := tv6) (lv' := [(5, .int tv6), (3, .long tv5), (0, .long tv900), (2, .int tv901)]) hx hb dX8_longPower_15 hl (k := 3) rfl (by rw [etv6]; rfl) (by decide) rfl (fun ls hl => ?_)
    refine lv_goto (tgt := 5) hx hb dX8_longPower_18 (by decide) ?_
    exact hin5 _ (tr_okS hk) _ _ _ hP hS (lv_sub hl [2, 3, 1, 0] rfl)
abbrev r_X8_sets : Room := { frames := 2, cells := 0, slots := 0, locals := 44 }
set_option maxHeartbeats 4000000 in
set_option maxRecDepth 100000 in
theorem c_X8_sets (l : Launch) (w : tr_E) (tv900 : Int32) (tv901 : Int32) (tv902 : Int32) (tv903 : Int32) (h : tr_H) (r0 : Int32) (h0 : tr_H) (hk : f_X8_sets tv900 tv901 tv902 tv903 h = some (r0, h0)) : Met l yX8_sets (Cond.code yX8_sets cX8_sets 6 (some .boolean) :: tr_T) r_X8_sets (va_Pc [.ref (tr_ad w 0), .int tv900, .int tv901, .int tv902, .int tv903] (tr_Wo tr_M w h)) (tr_Qi tr_M w r0 h0) 0 0 (tr_R tr_M w) := by
  refine tr_start (by decide) (Nat.le_refl _) ?_
  intro p e s m args below meth c C hr hlocks hargs hP
  have hx := C.1
  have hb := C.2.1
  have hS : va_S (tr_R tr_M w) s.heap s.heap [] := va_S.rf
  have hl := lv_entry ([.ref (tr_ad w 0), .int tv900, .int tv901, .int tv902, .int tv903]) (n := 6) (Nat.le_of_ble_eq_true rfl)
  rw [lg_entry_eq]
  generalize (lg_sl ([.ref (tr_ad w 0), .int tv900, .int tv901, .int tv902, .int tv903]) ++ List.replicate (6 - (lg_sl ([.ref (tr_ad w 0), .int tv900, .int tv901, .int tv902, .int tv903])).length) Slot.unset).toArray = ls at hl ⊢
  have hl : lv_has ls 6 [(0, .ref (tr_ad w 0)), (1, .int tv900), (2, .int tv901), (3, .int tv902), (4, .int tv903)] := hl
  replace hk : tr_ok (f_X8_sets tv900 tv901 tv902 tv903 h) (fun o => o = (r0, h0)) := ⟨_, hk, rfl⟩
  unfold f_X8_sets at hk
  refine lv_iload_n hx hb dX8_sets_0 rfl (lv_at hl 1 rfl) ?_
  refine lv_aload_n hx hb dX8_sets_1 rfl (lv_at hl 0 rfl) ?_
  refine gf_X8_19 C hP dX8_sets_2 ?_
  refine lv_iconst (v := 0) hx hb dX8_sets_5 (by decide) ?_
  refine tr_ial C hP (ar_M_4 w) (show ¬ ((0 : Int32) < 0 ∨ 37 ≤ (0 : Int32).toNatClampNeg) by decide) dX8_sets_6 ?_
  have j38 : ∀ (tv1 : Int32), tr_ok (f_X8_sets_J38 h tv900 tv901 tv903 tv1) (fun o => o = (r0, h0)) → tr_Wd p l e r_X8_sets s m args below meth c (MQ below (tr_Qi tr_M w r0 h0) args s 0 0 (tr_R tr_M w)) tr_M w 6 38 [(0, .ref (tr_ad w 0)), (1, .int tv900), (2, .int tv901), (4, .int tv903)] [.int tv1] h := by
    intro tv1 hk H locs ls hP hS hl
    unfold f_X8_sets_J38 at hk
    refine lv_istore (lv' := [(5, .int tv1), (0, .ref (tr_ad w 0)), (1, .int tv900), (2, .int tv901), (4, .int tv903)]) hx hb dX8_sets_38 hl (by decide) rfl (fun ls hl => ?_)
    refine lv_iload hx hb dX8_sets_40 (lv_at hl 0 rfl) ?_
    refine lv_if_eq (tgt := 60) hx hb dX8_sets_42 (by decide) (fun tc2 => ?_) (fun tc2 => ?_)
    · replace hk := tr_ift hk tc2
      refine lv_iload hx hb dX8_sets_60 (lv_at hl 0 rfl) ?_
      obtain ⟨tg3, hk⟩ := tr_okz hk
      exact tr_zret C hP hS hr hlocks tg3 (tr_okS (P := (fun o => o = (r0, h0))) hk) dX8_sets_62
    · replace hk := tr_iff hk tc2
      refine lv_aload_n hx hb dX8_sets_45 rfl (lv_at hl 1 rfl) ?_
      refine gf_X8_19 C hP dX8_sets_46 ?_
      refine lv_iconst (v := 1) hx hb dX8_sets_49 (by decide) ?_
      refine lv_bipush (v := 6) hx hb dX8_sets_50 (by decide) ?_
      refine lv_iload_n hx hb dX8_sets_52 rfl (lv_at hl 2 rfl) ?_
      refine lv_imul hx hb dX8_sets_53 ?_
      refine lv_iadd hx hb dX8_sets_54 ?_
      refine lv_iload_n hx hb dX8_sets_55 rfl (lv_at hl 3 rfl) ?_
      refine lv_iadd hx hb dX8_sets_56 ?_
      refine lv_iload hx hb dX8_sets_57 (lv_at hl 4 rfl) ?_
      obtain ⟨tv4, etv4, hk⟩ := tr_okd hk
      rw [← etv4]
      obtain ⟨tg5, hk⟩ := tr_okg hk
      refine tr_ias C hP hS (ar_M_4 w) tg5 dX8_sets_59 (fun H locs hP hS => ?_)
      refine tr_th hk hP (fun th6 hk hP => ?_)
      refine lv_iload hx hb dX8_sets_60 (lv_at hl 0 rfl) ?_
      obtain ⟨tg7, hk⟩ := tr_okz hk
      exact tr_zret C hP hS hr hlocks tg7 (tr_okS (P := (fun o => o = (r0, h0))) hk) dX8_sets_62
  have j37 : tr_ok (f_X8_sets_J37 h tv900 tv901 tv903) (fun o => o = (r0, h0)) → tr_Wd p l e r_X8_sets s m args below meth c (MQ below (tr_Qi tr_M w r0 h0) args s 0 0 (tr_R tr_M w)) tr_M w 6 37 [(0, .ref (tr_ad w 0)), (1, .int tv900), (2, .int tv901), (4, .int tv903)] [] h := by
    intro  hk H locs ls hP hS hl
    unfold f_X8_sets_J37 at hk
    refine lv_iconst (v := 0) hx hb dX8_sets_37 (by decide) ?_
    exact j38 0 hk _ _ _ hP hS (lv_sub hl [0, 1, 2, 3] rfl)
  refine lv_icmp_ge (tgt := 37) hx hb dX8_sets_7 (by decide) (fun tc8 => ?_) (fun tc8 => ?_)
  · replace hk := tr_ift hk tc8
    exact j37 hk _ _ _ hP hS (lv_sub hl [0, 1, 2, 4] rfl)
  · replace hk := tr_iff hk tc8
    refine lv_iload_n hx hb dX8_sets_10 rfl (lv_at hl 2 rfl) ?_
    refine lv_aload_n hx hb dX8_sets_11 rfl (lv_at hl 0 rfl) ?_
    refine gf_X8_19 C hP dX8_sets_12 ?_
    refine lv_iconst (v := 0) hx hb dX8_sets_15 (by decide) ?_
    refine tr_ial C hP (ar_M_4 w) (show ¬ ((0 : Int32) < 0 ∨ 37 ≤ (0 : Int32).toNatClampNeg) by decide) dX8_sets_16 ?_
    refine lv_icmp_ge (tgt := 37) hx hb dX8_sets_17 (by decide) (fun tc9 => ?_) (fun tc9 => ?_)
    · replace hk := tr_ift hk tc9
      exact j37 hk _ _ _ hP hS (lv_sub hl [0, 1, 2, 4] rfl)
    · replace hk := tr_iff hk tc9
      refine lv_aload_n hx hb dX8_sets_20 rfl (lv_at hl 0 rfl) ?_
      refine gf_X8_19 C hP dX8_sets_21 ?_
      refine lv_iload_n hx hb dX8_sets_24 rfl (lv_at hl 1 rfl) ?_
      refine lv_iload_n hx hb dX8_sets_25 rfl (lv_at hl 2 rfl) ?_
      obtain ⟨tv11, tq10, hk⟩ := tr_okb hk
      refine tr_csi (As := [.ref (tr_ad w 4), .int tv900, .int tv901]) (rest := []) C hP hS hl (c_X8_isThere l w 4 tr_pg_4 tv900 tv901 h tv11 tq10) mz_X8_isThere ml_X8_79 rfl rfl ⟨Nat.le_of_ble_eq_true rfl, Nat.le_of_ble_eq_true rfl⟩ rfl rfl (Nat.le_of_ble_eq_true rfl) ⟨Nat.le_refl _, Nat.le_refl _⟩ dX8_sets_26 (fun H locs hP hS => ?_)
      refine lv_iload_n hx hb dX8_sets_29 rfl (lv_at hl 3 rfl) ?_
      refine lv_icmp_ne (tgt := 37) hx hb dX8_sets_30 (by decide) (fun tc12 => ?_) (fun tc12 => ?_)
      · replace hk := tr_iff hk tc12
        exact j37 hk _ _ _ hP hS (lv_sub hl [0, 1, 2, 4] rfl)
      · replace hk := tr_ift hk tc12
        refine lv_iconst (v := 1) hx hb dX8_sets_33 (by decide) ?_
        refine lv_goto (tgt := 38) hx hb dX8_sets_34 (by decide) ?_
        exact j38 1 hk _ _ _ hP hS (lv_sub hl [0, 1, 2, 4] rfl)
abbrev r_X8_isCritical : Room := { frames := 5, cells := 0, slots := 0, locals := 120 }
set_option maxHeartbeats 4000000 in
set_option maxRecDepth 100000 in
theorem c_X8_isCritical (l : Launch) (w : tr_E) (tv900 : Int32) (tv901 : Int32) (h : tr_H) (r0 : Int32) (h0 : tr_H) (hk : f_X8_isCritical tv900 tv901 h = some (r0, h0)) : Met l yX8_isCritical (Cond.code yX8_isCritical cX8_isCritical 3 (some .boolean) :: tr_T) r_X8_isCritical (va_Pc [.ref (tr_ad w 0), .int tv900, .int tv901] (tr_Wo tr_M w h)) (tr_Qi tr_M w r0 h0) 0 0 (tr_R tr_M w) := by
  refine tr_start (by decide) (Nat.le_refl _) ?_
  intro p e s m args below meth c C hr hlocks hargs hP
  have hx := C.1
  have hb := C.2.1
  have hS : va_S (tr_R tr_M w) s.heap s.heap [] := va_S.rf
  have hl := lv_entry ([.ref (tr_ad w 0), .int tv900, .int tv901]) (n := 3) (Nat.le_of_ble_eq_true rfl)
  rw [lg_entry_eq]
  generalize (lg_sl ([.ref (tr_ad w 0), .int tv900, .int tv901]) ++ List.replicate (3 - (lg_sl ([.ref (tr_ad w 0), .int tv900, .int tv901])).length) Slot.unset).toArray = ls at hl ⊢
  have hl : lv_has ls 3 [(0, .ref (tr_ad w 0)), (1, .int tv900), (2, .int tv901)] := hl
  replace hk : tr_ok (f_X8_isCritical tv900 tv901 h) (fun o => o = (r0, h0)) := ⟨_, hk, rfl⟩
  unfold f_X8_isCritical at hk
  refine lv_aload_n hx hb dX8_isCritical_0 rfl (lv_at hl 0 rfl) ?_
  refine lv_aload_n hx hb dX8_isCritical_1 rfl (lv_at hl 0 rfl) ?_
  refine gf_X8_19 C hP dX8_isCritical_2 ?_
  obtain ⟨th2, tq1, hk⟩ := tr_okb hk
  refine tr_cvv (As := [.ref (tr_ad w 4)]) (rest := []) C hP hS hl (c_X8_find l w 4 tr_pg_4 h th2 tq1) mz_X8_find ml_X8_146 (by decide) rfl rfl rfl rfl ⟨Nat.le_of_ble_eq_true rfl, Nat.le_of_ble_eq_true rfl⟩ rfl rfl (Nat.le_of_ble_eq_true rfl) ⟨Nat.le_refl _, Nat.le_refl _⟩ dX8_isCritical_5 (fun H locs hP hS => ?_)
  refine lv_iload_n hx hb dX8_isCritical_8 rfl (lv_at hl 1 rfl) ?_
  refine lv_aload_n hx hb dX8_isCritical_9 rfl (lv_at hl 0 rfl) ?_
  refine gf_X8_19 C hP dX8_isCritical_10 ?_
  refine lv_iconst (v := 0) hx hb dX8_isCritical_13 (by decide) ?_
  refine tr_ial C hP (ar_M_4 w) (show ¬ ((0 : Int32) < 0 ∨ 37 ≤ (0 : Int32).toNatClampNeg) by decide) dX8_isCritical_14 ?_
  refine lv_icmp_ge (tgt := 50) hx hb dX8_isCritical_15 (by decide) (fun tc3 => ?_) (fun tc3 => ?_)
  · replace hk := tr_ift hk tc3
    refine lv_iconst (v := 0) hx hb dX8_isCritical_50 (by decide) ?_
    exact tr_zret C hP hS hr hlocks rfl (tr_okS (P := (fun o => o = (r0, h0))) hk) dX8_isCritical_51
  · replace hk := tr_iff hk tc3
    refine lv_iload_n hx hb dX8_isCritical_18 rfl (lv_at hl 2 rfl) ?_
    refine lv_aload_n hx hb dX8_isCritical_19 rfl (lv_at hl 0 rfl) ?_
    refine gf_X8_19 C hP dX8_isCritical_20 ?_
    refine lv_iconst (v := 0) hx hb dX8_isCritical_23 (by decide) ?_
    refine tr_ial C hP (ar_M_4 w) (show ¬ ((0 : Int32) < 0 ∨ 37 ≤ (0 : Int32).toNatClampNeg) by decide) dX8_isCritical_24 ?_
    refine lv_icmp_ge (tgt := 50) hx hb dX8_isCritical_25 (by decide) (fun tc4 => ?_) (fun tc4 => ?_)
    · replace hk := tr_ift hk tc4
      refine lv_iconst (v := 0) hx hb dX8_isCritical_50 (by decide) ?_
      exact tr_zret C hP hS hr hlocks rfl (tr_okS (P := (fun o => o = (r0, h0))) hk) dX8_isCritical_51
    · replace hk := tr_iff hk tc4
      refine lv_aload_n hx hb dX8_isCritical_28 rfl (lv_at hl 0 rfl) ?_
      refine gf_X8_122 C hP dX8_isCritical_29 ?_
      refine lv_bipush (v := 6) hx hb dX8_isCritical_32 (by decide) ?_
      refine lv_iload_n hx hb dX8_isCritical_34 rfl (lv_at hl 1 rfl) ?_
      refine lv_imul hx hb dX8_isCritical_35 ?_
      refine lv_iload_n hx hb dX8_isCritical_36 rfl (lv_at hl 2 rfl) ?_
      refine lv_iadd hx hb dX8_isCritical_37 ?_
      refine lv_lshr hx hb dX8_isCritical_38 rfl ?_
      refine lv_lconst (v := 1) hx hb dX8_isCritical_39 (by decide) ?_
      refine lv_land hx hb dX8_isCritical_40 ?_
      refine lv_lconst (v := 1) hx hb dX8_isCritical_41 (by decide) ?_
      refine W.lcmp hx hb dX8_isCritical_42 ?_
      refine lv_if_ne (tgt := 50) hx hb dX8_isCritical_43 (by decide) (fun tc5 => ?_) (fun tc5 => ?_)
      · replace hk := tr_iff hk tc5
        refine lv_iconst (v := 0) hx hb dX8_isCritical_50 (by decide) ?_
        exact tr_zret C hP hS hr hlocks rfl (tr_okS (P := (fun o => o = (r0, h0))) hk) dX8_isCritical_51
      · replace hk := tr_ift hk tc5
        refine lv_iconst (v := 1) hx hb dX8_isCritical_46 (by decide) ?_
        refine lv_goto (tgt := 51) hx hb dX8_isCritical_47 (by decide) ?_
        exact tr_zret C hP hS hr hlocks rfl (tr_okS (P := (fun o => o = (r0, h0))) hk) dX8_isCritical_51
abbrev r_X8_isTime : Room := { frames := 3, cells := 0, slots := 0, locals := 70 }
set_option maxHeartbeats 4000000 in
set_option maxRecDepth 100000 in
theorem c_X8_isTime (l : Launch) (w : tr_E) (tv900 : Int32) (tv901 : Int32) (h : tr_H) (r0 : Int32) (h0 : tr_H) (hk : f_X8_isTime tv900 tv901 h = some (r0, h0)) : Met l yX8_isTime (Cond.code yX8_isTime cX8_isTime 3 (some .boolean) :: tr_T) r_X8_isTime (va_Pc [.ref (tr_ad w 0), .int tv900, .int tv901] (tr_Wo tr_M w h)) (tr_Qi tr_M w r0 h0) 0 0 (tr_R tr_M w) := by
  refine tr_start (by decide) (Nat.le_refl _) ?_
  intro p e s m args below meth c C hr hlocks hargs hP
  have hx := C.1
  have hb := C.2.1
  have hS : va_S (tr_R tr_M w) s.heap s.heap [] := va_S.rf
  have hl := lv_entry ([.ref (tr_ad w 0), .int tv900, .int tv901]) (n := 3) (Nat.le_of_ble_eq_true rfl)
  rw [lg_entry_eq]
  generalize (lg_sl ([.ref (tr_ad w 0), .int tv900, .int tv901]) ++ List.replicate (3 - (lg_sl ([.ref (tr_ad w 0), .int tv900, .int tv901])).length) Slot.unset).toArray = ls at hl ⊢
  have hl : lv_has ls 3 [(0, .ref (tr_ad w 0)), (1, .int tv900), (2, .int tv901)] := hl
  replace hk : tr_ok (f_X8_isTime tv900 tv901 h) (fun o => o = (r0, h0)) := ⟨_, hk, rfl⟩
  unfold f_X8_isTime at hk
  refine lv_aload_n hx hb dX8_isTime_0 rfl (lv_at hl 0 rfl) ?_
  refine lv_aload_n hx hb dX8_isTime_1 rfl (lv_at hl 0 rfl) ?_
  refine gf_X8_19 C hP dX8_isTime_2 ?_
  refine lv_bipush (v := 10) hx hb dX8_isTime_5 (by decide) ?_
  obtain ⟨th2, tq1, hk⟩ := tr_okb hk
  refine tr_cvv (As := [.ref (tr_ad w 4), .int 10]) (rest := []) C hP hS hl (c_X8_layTimes l w 4 tr_pg_4 10 h th2 tq1) mz_X8_layTimes ml_X8_183 (by decide) rfl rfl rfl rfl ⟨Nat.le_of_ble_eq_true rfl, Nat.le_of_ble_eq_true rfl⟩ rfl rfl (Nat.le_of_ble_eq_true rfl) ⟨Nat.le_refl _, Nat.le_refl _⟩ dX8_isTime_7 (fun H locs hP hS => ?_)
  refine lv_iload_n hx hb dX8_isTime_10 rfl (lv_at hl 1 rfl) ?_
  refine lv_aload_n hx hb dX8_isTime_11 rfl (lv_at hl 0 rfl) ?_
  refine gf_X8_19 C hP dX8_isTime_12 ?_
  refine lv_iconst (v := 0) hx hb dX8_isTime_15 (by decide) ?_
  refine tr_ial C hP (ar_M_4 w) (show ¬ ((0 : Int32) < 0 ∨ 37 ≤ (0 : Int32).toNatClampNeg) by decide) dX8_isTime_16 ?_
  refine lv_icmp_ge (tgt := 34) hx hb dX8_isTime_17 (by decide) (fun tc3 => ?_) (fun tc3 => ?_)
  · replace hk := tr_ift hk tc3
    refine lv_iconst (v := 0) hx hb dX8_isTime_34 (by decide) ?_
    exact tr_zret C hP hS hr hlocks rfl (tr_okS (P := (fun o => o = (r0, h0))) hk) dX8_isTime_35
  · replace hk := tr_iff hk tc3
    refine lv_aload_n hx hb dX8_isTime_20 rfl (lv_at hl 0 rfl) ?_
    refine gf_X8_47 C hP dX8_isTime_21 ?_
    refine lv_iload_n hx hb dX8_isTime_24 rfl (lv_at hl 1 rfl) ?_
    obtain ⟨tg4, hk⟩ := tr_okg hk
    refine tr_ial C hP (ar_M_13 w) tg4 dX8_isTime_25 ?_
    refine lv_iload_n hx hb dX8_isTime_26 rfl (lv_at hl 2 rfl) ?_
    refine lv_icmp_ne (tgt := 34) hx hb dX8_isTime_27 (by decide) (fun tc5 => ?_) (fun tc5 => ?_)
    · replace hk := tr_iff hk tc5
      refine lv_iconst (v := 0) hx hb dX8_isTime_34 (by decide) ?_
      exact tr_zret C hP hS hr hlocks rfl (tr_okS (P := (fun o => o = (r0, h0))) hk) dX8_isTime_35
    · replace hk := tr_ift hk tc5
      refine lv_iconst (v := 1) hx hb dX8_isTime_30 (by decide) ?_
      refine lv_goto (tgt := 35) hx hb dX8_isTime_31 (by decide) ?_
      exact tr_zret C hP hS hr hlocks rfl (tr_okS (P := (fun o => o = (r0, h0))) hk) dX8_isTime_35
abbrev r_X8_does : Room := { frames := 6, cells := 0, slots := 0, locals := 142 }
set_option maxHeartbeats 4000000 in
set_option maxRecDepth 100000 in
theorem c_X8_does (l : Launch) (w : tr_E) (tv900 : Int32) (h : tr_H) (r0 : Int32) (h0 : tr_H) (hk : f_X8_does tv900 h = some (r0, h0)) : Met l yX8_does (Cond.code yX8_does cX8_does 6 (some .boolean) :: tr_T) r_X8_does (va_Pc [.ref (tr_ad w 0), .int tv900] (tr_Wo tr_M w h)) (tr_Qi tr_M w r0 h0) 0 0 (tr_R tr_M w) := by
  refine tr_start (by decide) (Nat.le_refl _) ?_
  intro p e s m args below meth c C hr hlocks hargs hP
  have hx := C.1
  have hb := C.2.1
  have hS : va_S (tr_R tr_M w) s.heap s.heap [] := va_S.rf
  have hl := lv_entry ([.ref (tr_ad w 0), .int tv900]) (n := 6) (Nat.le_of_ble_eq_true rfl)
  rw [lg_entry_eq]
  generalize (lg_sl ([.ref (tr_ad w 0), .int tv900]) ++ List.replicate (6 - (lg_sl ([.ref (tr_ad w 0), .int tv900])).length) Slot.unset).toArray = ls at hl ⊢
  have hl : lv_has ls 6 [(0, .ref (tr_ad w 0)), (1, .int tv900)] := hl
  replace hk : tr_ok (f_X8_does tv900 h) (fun o => o = (r0, h0)) := ⟨_, hk, rfl⟩
  unfold f_X8_does at hk
  refine lv_iload_n hx hb dX8_does_0 rfl (lv_at hl 1 rfl) ?_
  refine lv_bipush (v := 100) hx hb dX8_does_1 (by decide) ?_
  refine lv_idiv hx hb dX8_does_3 (by decide) ?_
  refine lv_bipush (v := 10) hx hb dX8_does_4 (by decide) ?_
  refine lv_irem hx hb dX8_does_6 (by decide) ?_
  refine tr_ti hk (fun tv1 hk => ?_)
  refine lv_istore_n (lv' := [(2, .int tv1), (0, .ref (tr_ad w 0)), (1, .int tv900)]) hx hb dX8_does_7 rfl hl (by decide) rfl (fun ls hl => ?_)
  refine lv_iload_n hx hb dX8_does_8 rfl (lv_at hl 2 rfl) ?_
  refine lv_bipush (v := 10) hx hb dX8_does_9 (by decide) ?_
  refine lv_idiv hx hb dX8_does_11 (by decide) ?_
  refine lv_bipush (v := 10) hx hb dX8_does_12 (by decide) ?_
  refine lv_irem hx hb dX8_does_14 (by decide) ?_
  refine tr_ti hk (fun tv2 hk => ?_)
  refine lv_istore_n (lv' := [(3, .int tv2), (2, .int tv1), (0, .ref (tr_ad w 0)), (1, .int tv900)]) hx hb dX8_does_15 rfl hl (by decide) rfl (fun ls hl => ?_)
  refine lv_iload_n hx hb dX8_does_16 rfl (lv_at hl 3 rfl) ?_
  refine lv_bipush (v := 10) hx hb dX8_does_17 (by decide) ?_
  refine lv_irem hx hb dX8_does_19 (by decide) ?_
  refine tr_ti hk (fun tv3 hk => ?_)
  refine lv_istore (lv' := [(4, .int tv3), (3, .int tv2), (2, .int tv1), (0, .ref (tr_ad w 0)), (1, .int tv900)]) hx hb dX8_does_20 hl (by decide) rfl (fun ls hl => ?_)
  refine lv_iload_n hx hb dX8_does_22 rfl (lv_at hl 4 rfl) ?_
  refine lv_bipush (v := 100) hx hb dX8_does_23 (by decide) ?_
  refine lv_irem hx hb dX8_does_25 (by decide) ?_
  refine tr_ti hk (fun tv4 hk => ?_)
  refine lv_istore (lv' := [(5, .int tv4), (4, .int tv3), (3, .int tv2), (2, .int tv1), (0, .ref (tr_ad w 0)), (1, .int tv900)]) hx hb dX8_does_26 hl (by decide) rfl (fun ls hl => ?_)
  refine lv_iload_n hx hb dX8_does_28 rfl (lv_at hl 5 rfl) ?_
  refine lv_sipush (v := 1000) hx hb dX8_does_29 (by decide) ?_
  refine lv_idiv hx hb dX8_does_32 (by decide) ?_
  refine tr_ti hk (fun tv5 hk => ?_)
  rcases Decidable.em (tv5 = 1) with tc6 | tc6
  · replace hk := tr_ift hk tc6
    refine lv_tableIn (tgt := 76) hx hb dX8_does_33 (by rw [tc6]; decide) (by rw [tc6]; decide) (by rw [tc6]; rfl) (by decide) ?_
    refine lv_aload_n hx hb dX8_does_76 rfl (lv_at hl 4 rfl) ?_
    refine lv_iload_n hx hb dX8_does_77 rfl (lv_at hl 3 rfl) ?_
    refine lv_iload_n hx hb dX8_does_78 rfl (lv_at hl 2 rfl) ?_
    refine lv_iconst (v := 0) hx hb dX8_does_79 (by decide) ?_
    refine lv_iload hx hb dX8_does_80 (lv_at hl 1 rfl) ?_
    refine lv_iconst (v := 1) hx hb dX8_does_82 (by decide) ?_
    refine lv_iadd hx hb dX8_does_83 ?_
    obtain ⟨tv8, th9, tq7, hk⟩ := tr_okb2 hk
    refine tr_cvi (As := [.int tv1, .int tv2, .int 0, .int (tv3 + 1)]) (rest := []) C hP hS hl (c_X8_sets l w tv1 tv2 0 (tv3 + 1) h tv8 th9 tq7) mz_X8_sets ml_X8_210 (by decide) rfl rfl rfl rfl ⟨Nat.le_of_ble_eq_true rfl, Nat.le_of_ble_eq_true rfl⟩ rfl rfl (Nat.le_of_ble_eq_true rfl) ⟨Nat.le_refl _, Nat.le_refl _⟩ dX8_does_84 (fun H locs hP hS => ?_)
    obtain ⟨tg10, hk⟩ := tr_okz hk
    exact tr_zret C hP hS hr hlocks tg10 (tr_okS (P := (fun o => o = (r0, h0))) hk) dX8_does_87
  replace hk := tr_iff hk tc6
  rcases Decidable.em (tv5 = 2) with tc11 | tc11
  · replace hk := tr_ift hk tc11
    refine lv_tableIn (tgt := 88) hx hb dX8_does_33 (by rw [tc11]; decide) (by rw [tc11]; decide) (by rw [tc11]; rfl) (by decide) ?_
    refine lv_iload hx hb dX8_does_88 (lv_at hl 1 rfl) ?_
    refine lv_if_ne (tgt := 108) hx hb dX8_does_90 (by decide) (fun tc12 => ?_) (fun tc12 => ?_)
    · replace hk := tr_iff hk tc12
      refine lv_iconst (v := 0) hx hb dX8_does_108 (by decide) ?_
      exact tr_zret C hP hS hr hlocks rfl (tr_okS (P := (fun o => o = (r0, h0))) hk) dX8_does_109
    · replace hk := tr_ift hk tc12
      refine lv_aload_n hx hb dX8_does_93 rfl (lv_at hl 4 rfl) ?_
      refine lv_iload_n hx hb dX8_does_94 rfl (lv_at hl 3 rfl) ?_
      refine lv_iload_n hx hb dX8_does_95 rfl (lv_at hl 2 rfl) ?_
      refine lv_iconst (v := 1) hx hb dX8_does_96 (by decide) ?_
      refine lv_iconst (v := 0) hx hb dX8_does_97 (by decide) ?_
      obtain ⟨tv14, th15, tq13, hk⟩ := tr_okb2 hk
      refine tr_cvi (As := [.int tv1, .int tv2, .int 1, .int 0]) (rest := []) C hP hS hl (c_X8_sets l w tv1 tv2 1 0 h tv14 th15 tq13) mz_X8_sets ml_X8_210 (by decide) rfl rfl rfl rfl ⟨Nat.le_of_ble_eq_true rfl, Nat.le_of_ble_eq_true rfl⟩ rfl rfl (Nat.le_of_ble_eq_true rfl) ⟨Nat.le_refl _, Nat.le_refl _⟩ dX8_does_98 (fun H locs hP hS => ?_)
      refine lv_if_eq (tgt := 108) hx hb dX8_does_101 (by decide) (fun tc16 => ?_) (fun tc16 => ?_)
      · replace hk := tr_ift hk tc16
        refine lv_iconst (v := 0) hx hb dX8_does_108 (by decide) ?_
        exact tr_zret C hP hS hr hlocks rfl (tr_okS (P := (fun o => o = (r0, h0))) hk) dX8_does_109
      · replace hk := tr_iff hk tc16
        refine lv_iconst (v := 1) hx hb dX8_does_104 (by decide) ?_
        refine lv_goto (tgt := 109) hx hb dX8_does_105 (by decide) ?_
        exact tr_zret C hP hS hr hlocks rfl (tr_okS (P := (fun o => o = (r0, h0))) hk) dX8_does_109
  replace hk := tr_iff hk tc11
  rcases Decidable.em (tv5 = 3) with tc17 | tc17
  · replace hk := tr_ift hk tc17
    refine lv_tableIn (tgt := 110) hx hb dX8_does_33 (by rw [tc17]; decide) (by rw [tc17]; decide) (by rw [tc17]; rfl) (by decide) ?_
    refine lv_aload_n hx hb dX8_does_110 rfl (lv_at hl 4 rfl) ?_
    refine lv_iload_n hx hb dX8_does_111 rfl (lv_at hl 3 rfl) ?_
    refine lv_iload_n hx hb dX8_does_112 rfl (lv_at hl 2 rfl) ?_
    refine lv_iconst (v := 1) hx hb dX8_does_113 (by decide) ?_
    refine lv_iload hx hb dX8_does_114 (lv_at hl 1 rfl) ?_
    refine lv_iconst (v := 1) hx hb dX8_does_116 (by decide) ?_
    refine lv_iadd hx hb dX8_does_117 ?_
    obtain ⟨tv19, th20, tq18, hk⟩ := tr_okb2 hk
    refine tr_cvi (As := [.int tv1, .int tv2, .int 1, .int (tv3 + 1)]) (rest := []) C hP hS hl (c_X8_sets l w tv1 tv2 1 (tv3 + 1) h tv19 th20 tq18) mz_X8_sets ml_X8_210 (by decide) rfl rfl rfl rfl ⟨Nat.le_of_ble_eq_true rfl, Nat.le_of_ble_eq_true rfl⟩ rfl rfl (Nat.le_of_ble_eq_true rfl) ⟨Nat.le_refl _, Nat.le_refl _⟩ dX8_does_118 (fun H locs hP hS => ?_)
    obtain ⟨tg21, hk⟩ := tr_okz hk
    exact tr_zret C hP hS hr hlocks tg21 (tr_okS (P := (fun o => o = (r0, h0))) hk) dX8_does_121
  replace hk := tr_iff hk tc17
  rcases Decidable.em (tv5 = 4) with tc22 | tc22
  · replace hk := tr_ift hk tc22
    refine lv_tableIn (tgt := 122) hx hb dX8_does_33 (by rw [tc22]; decide) (by rw [tc22]; decide) (by rw [tc22]; rfl) (by decide) ?_
    refine lv_iload_n hx hb dX8_does_122 rfl (lv_at hl 3 rfl) ?_
    refine lv_if_ne (tgt := 150) hx hb dX8_does_123 (by decide) (fun tc23 => ?_) (fun tc23 => ?_)
    · replace hk := tr_iff hk tc23
      refine lv_iconst (v := 0) hx hb dX8_does_150 (by decide) ?_
      exact tr_zret C hP hS hr hlocks rfl (tr_okS (P := (fun o => o = (r0, h0))) hk) dX8_does_151
    · replace hk := tr_ift hk tc23
      refine lv_iload hx hb dX8_does_126 (lv_at hl 0 rfl) ?_
      refine lv_bipush (v := 20) hx hb dX8_does_128 (by decide) ?_
      refine lv_icmp_gt (tgt := 150) hx hb dX8_does_130 (by decide) (fun tc24 => ?_) (fun tc24 => ?_)
      · replace hk := tr_ift hk tc24
        refine lv_iconst (v := 0) hx hb dX8_does_150 (by decide) ?_
        exact tr_zret C hP hS hr hlocks rfl (tr_okS (P := (fun o => o = (r0, h0))) hk) dX8_does_151
      · replace hk := tr_iff hk tc24
        refine lv_aload_n hx hb dX8_does_133 rfl (lv_at hl 4 rfl) ?_
        refine lv_aload_n hx hb dX8_does_134 rfl (lv_at hl 4 rfl) ?_
        refine gf_X8_19 C hP dX8_does_135 ?_
        refine lv_iload hx hb dX8_does_138 (lv_at hl 0 rfl) ?_
        obtain ⟨tv26, th27, tq25, hk⟩ := tr_okb2 hk
        refine tr_cvi (As := [.ref (tr_ad w 4), .int tv4]) (rest := []) C hP hS hl (c_X8_isPeriod l w 4 tr_pg_4 tv4 h tv26 th27 tq25) mz_X8_isPeriod ml_X8_150 (by decide) rfl rfl rfl rfl ⟨Nat.le_of_ble_eq_true rfl, Nat.le_of_ble_eq_true rfl⟩ rfl rfl (Nat.le_of_ble_eq_true rfl) ⟨Nat.le_refl _, Nat.le_refl _⟩ dX8_does_140 (fun H locs hP hS => ?_)
        refine lv_if_eq (tgt := 150) hx hb dX8_does_143 (by decide) (fun tc28 => ?_) (fun tc28 => ?_)
        · replace hk := tr_ift hk tc28
          refine lv_iconst (v := 0) hx hb dX8_does_150 (by decide) ?_
          exact tr_zret C hP hS hr hlocks rfl (tr_okS (P := (fun o => o = (r0, h0))) hk) dX8_does_151
        · replace hk := tr_iff hk tc28
          refine lv_iconst (v := 1) hx hb dX8_does_146 (by decide) ?_
          refine lv_goto (tgt := 151) hx hb dX8_does_147 (by decide) ?_
          exact tr_zret C hP hS hr hlocks rfl (tr_okS (P := (fun o => o = (r0, h0))) hk) dX8_does_151
  replace hk := tr_iff hk tc22
  rcases Decidable.em (tv5 = 5) with tc29 | tc29
  · replace hk := tr_ift hk tc29
    refine lv_tableIn (tgt := 152) hx hb dX8_does_33 (by rw [tc29]; decide) (by rw [tc29]; decide) (by rw [tc29]; rfl) (by decide) ?_
    refine lv_iload hx hb dX8_does_152 (lv_at hl 1 rfl) ?_
    refine lv_if_ne (tgt := 170) hx hb dX8_does_154 (by decide) (fun tc30 => ?_) (fun tc30 => ?_)
    · replace hk := tr_iff hk tc30
      refine lv_iconst (v := 0) hx hb dX8_does_170 (by decide) ?_
      exact tr_zret C hP hS hr hlocks rfl (tr_okS (P := (fun o => o = (r0, h0))) hk) dX8_does_171
    · replace hk := tr_ift hk tc30
      refine lv_aload_n hx hb dX8_does_157 rfl (lv_at hl 4 rfl) ?_
      refine lv_iload_n hx hb dX8_does_158 rfl (lv_at hl 3 rfl) ?_
      refine lv_iload_n hx hb dX8_does_159 rfl (lv_at hl 2 rfl) ?_
      obtain ⟨tv32, th33, tq31, hk⟩ := tr_okb2 hk
      refine tr_cvi (As := [.int tv1, .int tv2]) (rest := []) C hP hS hl (c_X8_isCritical l w tv1 tv2 h tv32 th33 tq31) mz_X8_isCritical ml_X8_214 (by decide) rfl rfl rfl rfl ⟨Nat.le_of_ble_eq_true rfl, Nat.le_of_ble_eq_true rfl⟩ rfl rfl (Nat.le_of_ble_eq_true rfl) ⟨Nat.le_refl _, Nat.le_refl _⟩ dX8_does_160 (fun H locs hP hS => ?_)
      refine lv_if_eq (tgt := 170) hx hb dX8_does_163 (by decide) (fun tc34 => ?_) (fun tc34 => ?_)
      · replace hk := tr_ift hk tc34
        refine lv_iconst (v := 0) hx hb dX8_does_170 (by decide) ?_
        exact tr_zret C hP hS hr hlocks rfl (tr_okS (P := (fun o => o = (r0, h0))) hk) dX8_does_171
      · replace hk := tr_iff hk tc34
        refine lv_iconst (v := 1) hx hb dX8_does_166 (by decide) ?_
        refine lv_goto (tgt := 171) hx hb dX8_does_167 (by decide) ?_
        exact tr_zret C hP hS hr hlocks rfl (tr_okS (P := (fun o => o = (r0, h0))) hk) dX8_does_171
  replace hk := tr_iff hk tc29
  rcases Decidable.em (tv5 = 6) with tc35 | tc35
  · replace hk := tr_ift hk tc35
    refine lv_tableIn (tgt := 172) hx hb dX8_does_33 (by rw [tc35]; decide) (by rw [tc35]; decide) (by rw [tc35]; rfl) (by decide) ?_
    refine lv_aload_n hx hb dX8_does_172 rfl (lv_at hl 4 rfl) ?_
    refine lv_iload_n hx hb dX8_does_173 rfl (lv_at hl 3 rfl) ?_
    refine lv_iload hx hb dX8_does_174 (lv_at hl 0 rfl) ?_
    obtain ⟨tv37, th38, tq36, hk⟩ := tr_okb2 hk
    refine tr_cvi (As := [.int tv1, .int tv4]) (rest := []) C hP hS hl (c_X8_isTime l w tv1 tv4 h tv37 th38 tq36) mz_X8_isTime ml_X8_217 (by decide) rfl rfl rfl rfl ⟨Nat.le_of_ble_eq_true rfl, Nat.le_of_ble_eq_true rfl⟩ rfl rfl (Nat.le_of_ble_eq_true rfl) ⟨Nat.le_refl _, Nat.le_refl _⟩ dX8_does_176 (fun H locs hP hS => ?_)
    obtain ⟨tg39, hk⟩ := tr_okz hk
    exact tr_zret C hP hS hr hlocks tg39 (tr_okS (P := (fun o => o = (r0, h0))) hk) dX8_does_179
  replace hk := tr_iff hk tc35
  rcases Decidable.em (tv5 = 7) with tc40 | tc40
  · replace hk := tr_ift hk tc40
    refine lv_tableIn (tgt := 180) hx hb dX8_does_33 (by rw [tc40]; decide) (by rw [tc40]; decide) (by rw [tc40]; rfl) (by decide) ?_
    refine lv_iload_n hx hb dX8_does_180 rfl (lv_at hl 3 rfl) ?_
    refine lv_aload_n hx hb dX8_does_181 rfl (lv_at hl 4 rfl) ?_
    refine gf_X8_19 C hP dX8_does_182 ?_
    refine lv_iconst (v := 0) hx hb dX8_does_185 (by decide) ?_
    refine tr_ial C hP (ar_M_4 w) (show ¬ ((0 : Int32) < 0 ∨ 37 ≤ (0 : Int32).toNatClampNeg) by decide) dX8_does_186 ?_
    refine lv_icmp_ge (tgt := 225) hx hb dX8_does_187 (by decide) (fun tc41 => ?_) (fun tc41 => ?_)
    · replace hk := tr_ift hk tc41
      refine lv_iconst (v := 0) hx hb dX8_does_225 (by decide) ?_
      exact tr_zret C hP hS hr hlocks rfl (tr_okS (P := (fun o => o = (r0, h0))) hk) dX8_does_226
    · replace hk := tr_iff hk tc41
      refine lv_iload hx hb dX8_does_190 (lv_at hl 0 rfl) ?_
      refine lv_i2l hx hb dX8_does_192 rfl ?_
      refine lv_lconst (v := 1) hx hb dX8_does_193 (by decide) ?_
      refine lv_ldc2 (v := 30) hx hb C.2.2.2.1 (C.2.2.2.2.1 _ mc_X8_190) dX8_does_194 ?_
      obtain ⟨tv43, tq42, hk⟩ := tr_okb hk
      refine tr_csi (As := [.long ((tv4 : Int32).toInt64), .long 1, .long 30]) (rest := []) C hP hS hl (c_X8_in l w ((tv4 : Int32).toInt64) 1 30 h tv43 tq42) mz_X8_in ml_X8_63 rfl rfl ⟨Nat.le_of_ble_eq_true rfl, Nat.le_of_ble_eq_true rfl⟩ rfl rfl (Nat.le_of_ble_eq_true rfl) ⟨Nat.le_refl _, Nat.le_refl _⟩ dX8_does_197 (fun H locs hP hS => ?_)
      refine lv_if_eq (tgt := 225) hx hb dX8_does_200 (by decide) (fun tc44 => ?_) (fun tc44 => ?_)
      · replace hk := tr_ift hk tc44
        refine lv_iconst (v := 0) hx hb dX8_does_225 (by decide) ?_
        exact tr_zret C hP hS hr hlocks rfl (tr_okS (P := (fun o => o = (r0, h0))) hk) dX8_does_226
      · replace hk := tr_iff hk tc44
        refine lv_aload_n hx hb dX8_does_203 rfl (lv_at hl 4 rfl) ?_
        refine lv_aload_n hx hb dX8_does_204 rfl (lv_at hl 4 rfl) ?_
        refine gf_X8_19 C hP dX8_does_205 ?_
        refine lv_iload_n hx hb dX8_does_208 rfl (lv_at hl 3 rfl) ?_
        refine lv_iload hx hb dX8_does_209 (lv_at hl 0 rfl) ?_
        refine lv_bipush (v := 10) hx hb dX8_does_211 (by decide) ?_
        obtain ⟨tv46, th47, tq45, hk⟩ := tr_okb2 hk
        refine tr_cvi (As := [.ref (tr_ad w 4), .int tv1, .int tv4, .int 10]) (rest := []) C hP hS hl (c_X8_diesOf l w 4 tr_pg_4 tv1 tv4 10 h tv46 th47 tq45) mz_X8_diesOf ml_X8_201 (by decide) rfl rfl rfl rfl ⟨Nat.le_of_ble_eq_true rfl, Nat.le_of_ble_eq_true rfl⟩ rfl rfl (Nat.le_of_ble_eq_true rfl) ⟨Nat.le_refl _, Nat.le_refl _⟩ dX8_does_213 (fun H locs hP hS => ?_)
        refine lv_bipush (v := (-9)) hx hb dX8_does_216 (by decide) ?_
        refine lv_icmp_eq (tgt := 225) hx hb dX8_does_218 (by decide) (fun tc48 => ?_) (fun tc48 => ?_)
        · replace hk := tr_ift hk tc48
          refine lv_iconst (v := 0) hx hb dX8_does_225 (by decide) ?_
          exact tr_zret C hP hS hr hlocks rfl (tr_okS (P := (fun o => o = (r0, h0))) hk) dX8_does_226
        · replace hk := tr_iff hk tc48
          refine lv_iconst (v := 1) hx hb dX8_does_221 (by decide) ?_
          refine lv_goto (tgt := 226) hx hb dX8_does_222 (by decide) ?_
          exact tr_zret C hP hS hr hlocks rfl (tr_okS (P := (fun o => o = (r0, h0))) hk) dX8_does_226
  replace hk := tr_iff hk tc40
  refine lv_tableOut (tgt := 227) hx hb dX8_does_33 (tr_tso (fun k h1 h2 => by
    rcases (show k = 1 ∨ k = 2 ∨ k = 3 ∨ k = 4 ∨ k = 5 ∨ k = 6 ∨ k = 7 by omega) with rfl | rfl | rfl | rfl | rfl | rfl | rfl
    · exact tc6
    · exact tc11
    · exact tc17
    · exact tc22
    · exact tc29
    · exact tc35
    · exact tc40)) (by decide) ?_
  refine lv_iconst (v := 0) hx hb dX8_does_227 (by decide) ?_
  exact tr_zret C hP hS hr hlocks rfl (tr_okS (P := (fun o => o = (r0, h0))) hk) dX8_does_228
abbrev r_X8_judge : Room := { frames := 7, cells := 0, slots := 0, locals := 167 }
set_option maxHeartbeats 4000000 in
set_option maxRecDepth 100000 in
theorem c_X8_judge (l : Launch) (w : tr_E) (tv900 : Int32) (tv901 : Int64) (h : tr_H) (r0 : Int32) (h0 : tr_H) (hk : f_X8_judge tv900 tv901 h = some (r0, h0)) : Met l yX8_judge (Cond.code yX8_judge cX8_judge 5 (some .int) :: tr_T) r_X8_judge (va_Pc [.ref (tr_ad w 0), .int tv900, .long tv901] (tr_Wo tr_M w h)) (tr_Qi tr_M w r0 h0) 0 0 (tr_R tr_M w) := by
  refine tr_start (by decide) (Nat.le_refl _) ?_
  intro p e s m args below meth c C hr hlocks hargs hP
  have hx := C.1
  have hb := C.2.1
  have hS : va_S (tr_R tr_M w) s.heap s.heap [] := va_S.rf
  have hl := lv_entry ([.ref (tr_ad w 0), .int tv900, .long tv901]) (n := 5) (Nat.le_of_ble_eq_true rfl)
  rw [lg_entry_eq]
  generalize (lg_sl ([.ref (tr_ad w 0), .int tv900, .long tv901]) ++ List.replicate (5 - (lg_sl ([.ref (tr_ad w 0), .int tv900, .long tv901])).length) Slot.unset).toArray = ls at hl ⊢
  have hl : lv_has ls 5 [(0, .ref (tr_ad w 0)), (1, .int tv900), (2, .long tv901)] := hl
  replace hk : tr_ok (f_X8_judge tv900 tv901 h) (fun o => o = (r0, h0)) := ⟨_, hk, rfl⟩
  unfold f_X8_judge at hk
  refine lv_aload_n hx hb dX8_judge_0 rfl (lv_at hl 0 rfl) ?_
  refine lv_iconst (v := 0) hx hb dX8_judge_1 (by decide) ?_
  refine pf_X8_59 C hP hS dX8_judge_2 (fun H locs hP hS => ?_)
  refine tr_th hk hP (fun th1 hk hP => ?_)
  refine lv_iload_n hx hb dX8_judge_5 rfl (lv_at hl 1 rfl) ?_
  refine lv_i2l hx hb dX8_judge_6 rfl ?_
  refine lv_lconst (v := 1) hx hb dX8_judge_7 (by decide) ?_
  refine lv_ldc2 (v := 4) hx hb C.2.2.2.1 (C.2.2.2.2.1 _ mc_X8_220) dX8_judge_8 ?_
  obtain ⟨tv3, tq2, hk⟩ := tr_okb hk
  refine tr_csi (As := [.long ((tv900 : Int32).toInt64), .long 1, .long 4]) (rest := []) C hP hS hl (c_X8_in l w ((tv900 : Int32).toInt64) 1 4 th1 tv3 tq2) mz_X8_in ml_X8_63 rfl rfl ⟨Nat.le_of_ble_eq_true rfl, Nat.le_of_ble_eq_true rfl⟩ rfl rfl (Nat.le_of_ble_eq_true rfl) ⟨Nat.le_refl _, Nat.le_refl _⟩ dX8_judge_11 (fun H locs hP hS => ?_)
  refine lv_if_eq (tgt := 34) hx hb dX8_judge_14 (by decide) (fun tc4 => ?_) (fun tc4 => ?_)
  · replace hk := tr_ift hk tc4
    refine lv_bipush (v := (-2)) hx hb dX8_judge_34 (by decide) ?_
    exact tr_iret C hP hS hr hlocks (tr_okS (P := (fun o => o = (r0, h0))) hk) dX8_judge_36
  · replace hk := tr_iff hk tc4
    refine lv_lload_n hx hb dX8_judge_17 rfl (lv_at hl 2 rfl) ?_
    refine lv_lconst (v := 0) hx hb dX8_judge_18 (by decide) ?_
    refine lv_ldc2 (v := 10000) hx hb C.2.2.2.1 (C.2.2.2.2.1 _ mc_X8_222) dX8_judge_19 ?_
    refine lv_iload_n hx hb dX8_judge_22 rfl (lv_at hl 1 rfl) ?_
    obtain ⟨tv6, tq5, hk⟩ := tr_okb hk
    refine tr_csl (As := [.long 10000, .int tv900]) (rest := [.long 0, .long tv901]) C hP hS hl (c_X8_longPower l w 10000 tv900 th1 tv6 tq5) mz_X8_longPower ml_X8_224 rfl rfl ⟨Nat.le_of_ble_eq_true rfl, Nat.le_of_ble_eq_true rfl⟩ rfl rfl (Nat.le_of_ble_eq_true rfl) ⟨Nat.le_refl _, Nat.le_refl _⟩ dX8_judge_23 (fun H locs hP hS => ?_)
    refine lv_lconst (v := 1) hx hb dX8_judge_26 (by decide) ?_
    refine lv_lsub hx hb dX8_judge_27 ?_
    obtain ⟨tv8, tq7, hk⟩ := tr_okb hk
    refine tr_csi (As := [.long tv901, .long 0, .long (tv6 - 1)]) (rest := []) C hP hS hl (c_X8_in l w tv901 0 (tv6 - 1) th1 tv8 tq7) mz_X8_in ml_X8_63 rfl rfl ⟨Nat.le_of_ble_eq_true rfl, Nat.le_of_ble_eq_true rfl⟩ rfl rfl (Nat.le_of_ble_eq_true rfl) ⟨Nat.le_refl _, Nat.le_refl _⟩ dX8_judge_28 (fun H locs hP hS => ?_)
    refine lv_if_ne (tgt := 37) hx hb dX8_judge_31 (by decide) (fun tc9 => ?_) (fun tc9 => ?_)
    · replace hk := tr_iff hk tc9
      refine lv_aload_n hx hb dX8_judge_37 rfl (lv_at hl 0 rfl) ?_
      obtain ⟨th11, tq10, hk⟩ := tr_okb hk
      refine tr_cvv (As := []) (rest := []) C hP hS hl (c_X8_begin l w th1 th11 tq10) mz_X8_begin ml_X8_204 (by decide) rfl rfl rfl rfl ⟨Nat.le_of_ble_eq_true rfl, Nat.le_of_ble_eq_true rfl⟩ rfl rfl (Nat.le_of_ble_eq_true rfl) ⟨Nat.le_refl _, Nat.le_refl _⟩ dX8_judge_38 (fun H locs hP hS => ?_)
      refine lv_iconst (v := 0) hx hb dX8_judge_41 (by decide) ?_
      refine lv_istore (lv' := [(4, .int 0), (0, .ref (tr_ad w 0)), (1, .int tv900), (2, .long tv901)]) hx hb dX8_judge_42 hl (by decide) rfl (fun ls hl => ?_)
      have j85_44 : ∀ (th12 : tr_H), tr_ok (f_X8_judge_E85 th12) (fun o => o = (r0, h0)) → tr_Wd p l e r_X8_judge s m args below meth c (MQ below (tr_Qi tr_M w r0 h0) args s 0 0 (tr_R tr_M w)) tr_M w 5 85 [] [] th12 := by
        intro th12 hk H locs ls hP hS hl
        unfold f_X8_judge_E85 at hk
        refine lv_bipush (v := (-9)) hx hb dX8_judge_85 (by decide) ?_
        exact tr_iret C hP hS hr hlocks (tr_okS (P := (fun o => o = (r0, h0))) hk) dX8_judge_87
      refine tr_loop (fun q => tr_Wd p l e r_X8_judge s m args below meth c (MQ below (tr_Qi tr_M w r0 h0) args s 0 0 (tr_R tr_M w)) tr_M w 5 44 [(0, .ref (tr_ad w 0)), (1, .int tv900), (2, .long tv901), (4, .int q.1)] [] q.2) hk ?_ _ _ _ hP hS (lv_sub hl [1, 2, 3, 0] rfl)
      intro P44 hin44 hex44 q hk
      obtain ⟨tv13, th14⟩ := q
      intro H locs ls hP hS hl
      replace hk : tr_ok (f_X8_judge_L44 tv900 tv901 tv13 th14) P44 := hk
      unfold f_X8_judge_L44 at hk
      refine lv_iload hx hb dX8_judge_44 (lv_at hl 3 rfl) ?_
      refine lv_iload_n hx hb dX8_judge_46 rfl (lv_at hl 1 rfl) ?_
      refine lv_icmp_ge (tgt := 85) hx hb dX8_judge_47 (by decide) (fun tc15 => ?_) (fun tc15 => ?_)
      · replace hk := tr_ift hk tc15
        replace hk := hex44 _ (tr_okS hk)
        replace hk : tr_ok (f_X8_judge_E85 th14) (fun o => o = (r0, h0)) := hk
        exact j85_44 th14 hk _ _ _ hP hS (lv_sub hl [] rfl)
      · replace hk := tr_iff hk tc15
        refine lv_aload_n hx hb dX8_judge_50 rfl (lv_at hl 0 rfl) ?_
        refine lv_lload_n hx hb dX8_judge_51 rfl (lv_at hl 2 rfl) ?_
        refine lv_ldc2 (v := 10000) hx hb C.2.2.2.1 (C.2.2.2.2.1 _ mc_X8_222) dX8_judge_52 ?_
        refine lv_iload_n hx hb dX8_judge_55 rfl (lv_at hl 1 rfl) ?_
        refine lv_iconst (v := 1) hx hb dX8_judge_56 (by decide) ?_
        refine lv_isub hx hb dX8_judge_57 ?_
        refine lv_iload hx hb dX8_judge_58 (lv_at hl 3 rfl) ?_
        refine lv_isub hx hb dX8_judge_60 ?_
        obtain ⟨tv17, tq16, hk⟩ := tr_okb hk
        refine tr_csl (As := [.long 10000, .int ((tv900 - 1) - tv13)]) (rest := [.long tv901, .ref (tr_ad w 0)]) C hP hS hl (c_X8_longPower l w 10000 ((tv900 - 1) - tv13) th14 tv17 tq16) mz_X8_longPower ml_X8_224 rfl rfl ⟨Nat.le_of_ble_eq_true rfl, Nat.le_of_ble_eq_true rfl⟩ rfl rfl (Nat.le_of_ble_eq_true rfl) ⟨Nat.le_refl _, Nat.le_refl _⟩ dX8_judge_61 (fun H locs hP hS => ?_)
        obtain ⟨tg18, hk⟩ := tr_oknl hk
        refine lv_ldiv hx hb dX8_judge_64 tg18 ?_
        refine lv_ldc2 (v := 10000) hx hb C.2.2.2.1 (C.2.2.2.2.1 _ mc_X8_222) dX8_judge_65 ?_
        refine lv_lrem hx hb dX8_judge_68 (by decide) ?_
        refine lv_l2i hx hb dX8_judge_69 rfl ?_
        obtain ⟨tv20, th21, tq19, hk⟩ := tr_okb2 hk
        refine tr_cvi (As := [.int (((tv901 / tv17) - (tv901 / tv17) / 10000 * 10000 : Int64).toInt32)]) (rest := []) C hP hS hl (c_X8_does l w (((tv901 / tv17) - (tv901 / tv17) / 10000 * 10000 : Int64).toInt32) th14 tv20 th21 tq19) mz_X8_does ml_X8_228 (by decide) rfl rfl rfl rfl ⟨Nat.le_of_ble_eq_true rfl, Nat.le_of_ble_eq_true rfl⟩ rfl rfl (Nat.le_of_ble_eq_true rfl) ⟨Nat.le_refl _, Nat.le_refl _⟩ dX8_judge_70 (fun H locs hP hS => ?_)
        refine lv_if_ne (tgt := 79) hx hb dX8_judge_73 (by decide) (fun tc22 => ?_) (fun tc22 => ?_)
        · replace hk := tr_iff hk tc22
          obtain ⟨tv23, etv23, hk⟩ := tr_okd hk
          refine lv_iinc (v := tv23) (lv' := [(4, .int tv23), (0, .ref (tr_ad w 0)), (1, .int tv900), (2, .long tv901)]) hx hb dX8_judge_79 hl (k := 3) rfl (by rw [etv23]; rfl) (by decide) rfl (fun ls hl => ?_)
          refine lv_goto (tgt := 44) hx hb dX8_judge_82 (by decide) ?_
          exact hin44 _ (tr_okS hk) _ _ _ hP hS (lv_sub hl [1, 2, 3, 0] rfl)
        · replace hk := tr_ift hk tc22
          refine lv_iload hx hb dX8_judge_76 (lv_at hl 3 rfl) ?_
          replace hk := hex44 _ (tr_okS hk)
          replace hk : tr_ok (some (tv13, th21)) (fun o => o = (r0, h0)) := hk
          exact tr_iret C hP hS hr hlocks (tr_okS (P := (fun o => o = (r0, h0))) hk) dX8_judge_78
    · replace hk := tr_ift hk tc9
      refine lv_bipush (v := (-2)) hx hb dX8_judge_34 (by decide) ?_
      exact tr_iret C hP hS hr hlocks (tr_okS (P := (fun o => o = (r0, h0))) hk) dX8_judge_36
abbrev r_X8_orders : Room := { frames := 0, cells := 0, slots := 0, locals := 0 }
set_option maxHeartbeats 4000000 in
set_option maxRecDepth 100000 in
theorem c_X8_orders (l : Launch) (w : tr_E) (tv900 : Int32) (tv901 : Int32) (h : tr_H) (r0 : Int32) (hk : f_X8_orders tv900 tv901 = some r0) : Met l yX8_orders (Cond.code yX8_orders cX8_orders 4 (some .int) :: tr_T) r_X8_orders (va_Pc [.int tv900, .int tv901] (tr_Wo tr_M w h)) (tr_Qi tr_M w r0 h) 0 0 (tr_R tr_M w) := by
  refine tr_start (by decide) (Nat.le_refl _) ?_
  intro p e s m args below meth c C hr hlocks hargs hP
  have hx := C.1
  have hb := C.2.1
  have hS : va_S (tr_R tr_M w) s.heap s.heap [] := va_S.rf
  have hl := lv_entry ([.int tv900, .int tv901]) (n := 4) (Nat.le_of_ble_eq_true rfl)
  rw [lg_entry_eq]
  generalize (lg_sl ([.int tv900, .int tv901]) ++ List.replicate (4 - (lg_sl ([.int tv900, .int tv901])).length) Slot.unset).toArray = ls at hl ⊢
  have hl : lv_has ls 4 [(0, .int tv900), (1, .int tv901)] := hl
  replace hk : tr_ok (f_X8_orders tv900 tv901) (fun o => o = r0) := ⟨_, hk, rfl⟩
  unfold f_X8_orders at hk
  refine lv_iconst (v := 1) hx hb dX8_orders_0 (by decide) ?_
  refine lv_istore_n (lv' := [(2, .int 1), (0, .int tv900), (1, .int tv901)]) hx hb dX8_orders_1 rfl hl (by decide) rfl (fun ls hl => ?_)
  refine lv_iconst (v := 2) hx hb dX8_orders_2 (by decide) ?_
  refine lv_istore_n (lv' := [(3, .int 2), (2, .int 1), (0, .int tv900), (1, .int tv901)]) hx hb dX8_orders_3 rfl hl (by decide) rfl (fun ls hl => ?_)
  have j19_4 : ∀ (tv1 : Int32), tr_ok (f_X8_orders_E19 tv900 tv901 tv1) (fun o => o = r0) → tr_Wd p l e r_X8_orders s m args below meth c (MQ below (tr_Qi tr_M w r0 h) args s 0 0 (tr_R tr_M w)) tr_M w 4 19 [(0, .int tv900), (1, .int tv901), (2, .int tv1)] [] h := by
    intro tv1 hk H locs ls hP hS hl
    unfold f_X8_orders_E19 at hk
    refine lv_iconst (v := 2) hx hb dX8_orders_19 (by decide) ?_
    refine lv_istore_n (lv' := [(3, .int 2), (0, .int tv900), (1, .int tv901), (2, .int tv1)]) hx hb dX8_orders_20 rfl hl (by decide) rfl (fun ls hl => ?_)
    have j40_21 : ∀ (tv2 : Int32), tr_ok (f_X8_orders_E40 tv2) (fun o => o = r0) → tr_Wd p l e r_X8_orders s m args below meth c (MQ below (tr_Qi tr_M w r0 h) args s 0 0 (tr_R tr_M w)) tr_M w 4 40 [(2, .int tv2)] [] h := by
      intro tv2 hk H locs ls hP hS hl
      unfold f_X8_orders_E40 at hk
      refine lv_iload_n hx hb dX8_orders_40 rfl (lv_at hl 0 rfl) ?_
      exact tr_iret C hP hS hr hlocks (congrArg (fun x => (x, h)) (tr_okS (P := (fun o => o = r0)) hk)) dX8_orders_41
    refine tr_loop (fun q => tr_Wd p l e r_X8_orders s m args below meth c (MQ below (tr_Qi tr_M w r0 h) args s 0 0 (tr_R tr_M w)) tr_M w 4 21 [(0, .int tv900), (1, .int tv901), (2, .int q.1), (3, .int q.2)] [] h) hk ?_ _ _ _ hP hS (lv_sub hl [1, 2, 3, 0] rfl)
    intro P21 hin21 hex21 q hk
    obtain ⟨tv3, tv4⟩ := q
    intro H locs ls hP hS hl
    replace hk : tr_ok (f_X8_orders_L21 tv900 tv901 tv3 tv4) P21 := hk
    unfold f_X8_orders_L21 at hk
    refine lv_iload_n hx hb dX8_orders_21 rfl (lv_at hl 3 rfl) ?_
    refine lv_iload_n hx hb dX8_orders_22 rfl (lv_at hl 0 rfl) ?_
    refine lv_iconst (v := 1) hx hb dX8_orders_23 (by decide) ?_
    refine lv_isub hx hb dX8_orders_24 ?_
    refine lv_iload_n hx hb dX8_orders_25 rfl (lv_at hl 1 rfl) ?_
    refine lv_isub hx hb dX8_orders_26 ?_
    refine lv_icmp_gt (tgt := 40) hx hb dX8_orders_27 (by decide) (fun tc5 => ?_) (fun tc5 => ?_)
    · replace hk := tr_ift hk tc5
      replace hk := hex21 _ (tr_okS hk)
      replace hk : tr_ok (f_X8_orders_E40 tv3) (fun o => o = r0) := hk
      exact j40_21 tv3 hk _ _ _ hP hS (lv_sub hl [2] rfl)
    · replace hk := tr_iff hk tc5
      refine lv_iload_n hx hb dX8_orders_30 rfl (lv_at hl 2 rfl) ?_
      refine lv_iload_n hx hb dX8_orders_31 rfl (lv_at hl 3 rfl) ?_
      refine lv_imul hx hb dX8_orders_32 ?_
      refine tr_ti hk (fun tv6 hk => ?_)
      refine lv_istore_n (lv' := [(2, .int tv6), (0, .int tv900), (1, .int tv901), (3, .int tv4)]) hx hb dX8_orders_33 rfl hl (by decide) rfl (fun ls hl => ?_)
      obtain ⟨tv7, etv7, hk⟩ := tr_okd hk
      refine lv_iinc (v := tv7) (lv' := [(3, .int tv7), (2, .int tv6), (0, .int tv900), (1, .int tv901)]) hx hb dX8_orders_34 hl (k := 3) rfl (by rw [etv7]; rfl) (by decide) rfl (fun ls hl => ?_)
      refine lv_goto (tgt := 21) hx hb dX8_orders_37 (by decide) ?_
      exact hin21 _ (tr_okS hk) _ _ _ hP hS (lv_sub hl [2, 3, 1, 0] rfl)
  refine tr_loop (fun q => tr_Wd p l e r_X8_orders s m args below meth c (MQ below (tr_Qi tr_M w r0 h) args s 0 0 (tr_R tr_M w)) tr_M w 4 4 [(0, .int tv900), (1, .int tv901), (2, .int q.1), (3, .int q.2)] [] h) hk ?_ _ _ _ hP hS (lv_sub hl [2, 3, 1, 0] rfl)
  intro P4 hin4 hex4 q hk
  obtain ⟨tv8, tv9⟩ := q
  intro H locs ls hP hS hl
  replace hk : tr_ok (f_X8_orders_L4 tv901 tv8 tv9) P4 := hk
  unfold f_X8_orders_L4 at hk
  refine lv_iload_n hx hb dX8_orders_4 rfl (lv_at hl 3 rfl) ?_
  refine lv_iload_n hx hb dX8_orders_5 rfl (lv_at hl 1 rfl) ?_
  refine lv_icmp_gt (tgt := 19) hx hb dX8_orders_6 (by decide) (fun tc10 => ?_) (fun tc10 => ?_)
  · replace hk := tr_ift hk tc10
    replace hk := hex4 _ (tr_okS hk)
    replace hk : tr_ok (f_X8_orders_E19 tv900 tv901 tv8) (fun o => o = r0) := hk
    exact j19_4 tv8 hk _ _ _ hP hS (lv_sub hl [0, 1, 2] rfl)
  · replace hk := tr_iff hk tc10
    refine lv_iload_n hx hb dX8_orders_9 rfl (lv_at hl 2 rfl) ?_
    refine lv_iload_n hx hb dX8_orders_10 rfl (lv_at hl 3 rfl) ?_
    refine lv_imul hx hb dX8_orders_11 ?_
    refine tr_ti hk (fun tv11 hk => ?_)
    refine lv_istore_n (lv' := [(2, .int tv11), (0, .int tv900), (1, .int tv901), (3, .int tv9)]) hx hb dX8_orders_12 rfl hl (by decide) rfl (fun ls hl => ?_)
    obtain ⟨tv12, etv12, hk⟩ := tr_okd hk
    refine lv_iinc (v := tv12) (lv' := [(3, .int tv12), (2, .int tv11), (0, .int tv900), (1, .int tv901)]) hx hb dX8_orders_13 hl (k := 3) rfl (by rw [etv12]; rfl) (by decide) rfl (fun ls hl => ?_)
    refine lv_goto (tgt := 4) hx hb dX8_orders_16 (by decide) ?_
    exact hin4 _ (tr_okS hk) _ _ _ hP hS (lv_sub hl [2, 3, 1, 0] rfl)
abbrev r_X8_share : Room := { frames := 5, cells := 0, slots := 0, locals := 121 }
set_option maxHeartbeats 4000000 in
set_option maxRecDepth 100000 in
theorem c_X8_share (l : Launch) (w : tr_E) (tv900 : Int32) (tv901 : Int32) (h : tr_H) (r0 : Int32) (h0 : tr_H) (hk : f_X8_share tv900 tv901 h = some (r0, h0)) : Met l yX8_share (Cond.code yX8_share cX8_share 8 (some .int) :: tr_T) r_X8_share (va_Pc [.ref (tr_ad w 0), .int tv900, .int tv901] (tr_Wo tr_M w h)) (tr_Qi tr_M w r0 h0) 0 0 (tr_R tr_M w) := by
  refine tr_start (by decide) (Nat.le_refl _) ?_
  intro p e s m args below meth c C hr hlocks hargs hP
  have hx := C.1
  have hb := C.2.1
  have hS : va_S (tr_R tr_M w) s.heap s.heap [] := va_S.rf
  have hl := lv_entry ([.ref (tr_ad w 0), .int tv900, .int tv901]) (n := 8) (Nat.le_of_ble_eq_true rfl)
  rw [lg_entry_eq]
  generalize (lg_sl ([.ref (tr_ad w 0), .int tv900, .int tv901]) ++ List.replicate (8 - (lg_sl ([.ref (tr_ad w 0), .int tv900, .int tv901])).length) Slot.unset).toArray = ls at hl ⊢
  have hl : lv_has ls 8 [(0, .ref (tr_ad w 0)), (1, .int tv900), (2, .int tv901)] := hl
  replace hk : tr_ok (f_X8_share tv900 tv901 h) (fun o => o = (r0, h0)) := ⟨_, hk, rfl⟩
  unfold f_X8_share at hk
  refine lv_aload_n hx hb dX8_share_0 rfl (lv_at hl 0 rfl) ?_
  refine lv_iconst (v := 0) hx hb dX8_share_1 (by decide) ?_
  refine pf_X8_59 C hP hS dX8_share_2 (fun H locs hP hS => ?_)
  refine tr_th hk hP (fun th1 hk hP => ?_)
  refine lv_aload_n hx hb dX8_share_5 rfl (lv_at hl 0 rfl) ?_
  refine gf_X8_16 C hP dX8_share_6 ?_
  refine lv_iconst (v := 0) hx hb dX8_share_9 (by decide) ?_
  refine tr_ial C hP (ar_M_3 w) (show ¬ ((0 : Int32) < 0 ∨ 37 ≤ (0 : Int32).toNatClampNeg) by decide) dX8_share_10 ?_
  refine tr_ti hk (fun tv2 hk => ?_)
  refine lv_istore_n (lv' := [(3, .int tv2), (0, .ref (tr_ad w 0)), (1, .int tv900), (2, .int tv901)]) hx hb dX8_share_11 rfl hl (by decide) rfl (fun ls hl => ?_)
  refine lv_aload_n hx hb dX8_share_12 rfl (lv_at hl 1 rfl) ?_
  refine lv_iload_n hx hb dX8_share_13 rfl (lv_at hl 2 rfl) ?_
  obtain ⟨tv4, tq3, hk⟩ := tr_okb hk
  refine tr_cvi (As := [.int tv900]) (rest := []) C hP hS hl (c_X8_noDeparture l w tv900 th1 tv4 tq3) mz_X8_noDeparture ml_X8_164 (by decide) rfl rfl rfl rfl ⟨Nat.le_of_ble_eq_true rfl, Nat.le_of_ble_eq_true rfl⟩ rfl rfl (Nat.le_of_ble_eq_true rfl) ⟨Nat.le_refl _, Nat.le_refl _⟩ dX8_share_14 (fun H locs hP hS => ?_)
  refine lv_if_eq (tgt := 22) hx hb dX8_share_17 (by decide) (fun tc5 => ?_) (fun tc5 => ?_)
  · replace hk := tr_ift hk tc5
    refine lv_iconst (v := 0) hx hb dX8_share_22 (by decide) ?_
    refine lv_istore (lv' := [(4, .int 0), (3, .int tv2), (0, .ref (tr_ad w 0)), (1, .int tv900), (2, .int tv901)]) hx hb dX8_share_23 hl (by decide) rfl (fun ls hl => ?_)
    have j69_25 : ∀ (th6 : tr_H), tr_ok (f_X8_share_E69 tv2 tv900 tv901 th6) (fun o => o = (r0, h0)) → tr_Wd p l e r_X8_share s m args below meth c (MQ below (tr_Qi tr_M w r0 h0) args s 0 0 (tr_R tr_M w)) tr_M w 8 69 [(0, .ref (tr_ad w 0)), (1, .int tv900), (2, .int tv901), (3, .int tv2)] [] th6 := by
      intro th6 hk H locs ls hP hS hl
      unfold f_X8_share_E69 at hk
      refine lv_iconst (v := 0) hx hb dX8_share_69 (by decide) ?_
      refine lv_istore (lv' := [(4, .int 0), (0, .ref (tr_ad w 0)), (1, .int tv900), (2, .int tv901), (3, .int tv2)]) hx hb dX8_share_70 hl (by decide) rfl (fun ls hl => ?_)
      refine lv_iconst (v := 0) hx hb dX8_share_72 (by decide) ?_
      refine lv_istore (lv' := [(5, .int 0), (4, .int 0), (0, .ref (tr_ad w 0)), (1, .int tv900), (2, .int tv901), (3, .int tv2)]) hx hb dX8_share_73 hl (by decide) rfl (fun ls hl => ?_)
      refine lv_iconst (v := 0) hx hb dX8_share_75 (by decide) ?_
      refine lv_istore (lv' := [(6, .int 0), (5, .int 0), (4, .int 0), (0, .ref (tr_ad w 0)), (1, .int tv900), (2, .int tv901), (3, .int tv2)]) hx hb dX8_share_76 hl (by decide) rfl (fun ls hl => ?_)
      have j147_78 : ∀ (tv7 : Int32) (tv8 : Int32), tr_ok (f_X8_share_E147 tv901 th6 tv7 tv8) (fun o => o = (r0, h0)) → tr_Wd p l e r_X8_share s m args below meth c (MQ below (tr_Qi tr_M w r0 h0) args s 0 0 (tr_R tr_M w)) tr_M w 8 147 [(2, .int tv901), (4, .int tv7), (5, .int tv8)] [] th6 := by
        intro tv7 tv8 hk H locs ls hP hS hl
        unfold f_X8_share_E147 at hk
        refine lv_iload hx hb dX8_share_147 (lv_at hl 1 rfl) ?_
        refine lv_bipush (v := 60) hx hb dX8_share_149 (by decide) ?_
        refine lv_iload hx hb dX8_share_151 (lv_at hl 2 rfl) ?_
        refine lv_imul hx hb dX8_share_153 ?_
        refine lv_iload_n hx hb dX8_share_154 rfl (lv_at hl 0 rfl) ?_
        obtain ⟨tv10, tq9, hk⟩ := tr_okb hk
        refine tr_csi (As := [.int tv7, .int (60 * tv8), .int tv901]) (rest := []) C hP hS hl (c_X8_fraction l w tv7 (60 * tv8) tv901 th6 tv10 tq9) mz_X8_fraction ml_X8_177 rfl rfl ⟨Nat.le_of_ble_eq_true rfl, Nat.le_of_ble_eq_true rfl⟩ rfl rfl (Nat.le_of_ble_eq_true rfl) ⟨Nat.le_refl _, Nat.le_refl _⟩ dX8_share_155 (fun H locs hP hS => ?_)
        exact tr_iret C hP hS hr hlocks (tr_okS (P := (fun o => o = (r0, h0))) hk) dX8_share_158
      refine tr_loop (fun q => tr_Wd p l e r_X8_share s m args below meth c (MQ below (tr_Qi tr_M w r0 h0) args s 0 0 (tr_R tr_M w)) tr_M w 8 78 [(0, .ref (tr_ad w 0)), (1, .int tv900), (2, .int tv901), (3, .int tv2), (4, .int q.1), (5, .int q.2.1), (6, .int q.2.2)] [] th6) hk ?_ _ _ _ hP hS (lv_sub hl [3, 4, 5, 6, 2, 1, 0] rfl)
      intro P78 hin78 hex78 q hk
      obtain ⟨tv11, tv12, tv13⟩ := q
      intro H locs ls hP hS hl
      replace hk : tr_ok (f_X8_share_L78 tv2 tv900 th6 tv11 tv12 tv13) P78 := hk
      unfold f_X8_share_L78 at hk
      refine lv_iload hx hb dX8_share_78 (lv_at hl 6 rfl) ?_
      refine lv_iconst (v := 1) hx hb dX8_share_80 (by decide) ?_
      refine lv_iload_n hx hb dX8_share_81 rfl (lv_at hl 3 rfl) ?_
      refine lv_ishl hx hb dX8_share_82 ?_
      refine lv_icmp_ge (tgt := 147) hx hb dX8_share_83 (by decide) (fun tc14 => ?_) (fun tc14 => ?_)
      · replace hk := tr_ift hk tc14
        replace hk := hex78 _ (tr_okS hk)
        replace hk : tr_ok (f_X8_share_E147 tv901 th6 tv11 tv12) (fun o => o = (r0, h0)) := hk
        exact j147_78 tv11 tv12 hk _ _ _ hP hS (lv_sub hl [2, 4, 5] rfl)
      · replace hk := tr_iff hk tc14
        refine lv_iload hx hb dX8_share_86 (lv_at hl 6 rfl) ?_
        refine lv_iload_n hx hb dX8_share_88 rfl (lv_at hl 1 rfl) ?_
        obtain ⟨tv16, tq15, hk⟩ := tr_okb hk
        refine tr_csi (As := [.int tv13, .int tv900]) (rest := []) C hP hS hl (c_X8_has l w tv13 tv900 th6 tv16 tq15) mz_X8_has ml_X8_132 rfl rfl ⟨Nat.le_of_ble_eq_true rfl, Nat.le_of_ble_eq_true rfl⟩ rfl rfl (Nat.le_of_ble_eq_true rfl) ⟨Nat.le_refl _, Nat.le_refl _⟩ dX8_share_89 (fun H locs hP hS => ?_)
        refine lv_if_ne (tgt := 141) hx hb dX8_share_92 (by decide) (fun tc17 => ?_) (fun tc17 => ?_)
        · replace hk := tr_iff hk tc17
          obtain ⟨tv18, etv18, hk⟩ := tr_okd hk
          refine lv_iinc (v := tv18) (lv' := [(6, .int tv18), (0, .ref (tr_ad w 0)), (1, .int tv900), (2, .int tv901), (3, .int tv2), (4, .int tv11), (5, .int tv12)]) hx hb dX8_share_141 hl (k := 6) rfl (by rw [etv18]; rfl) (by decide) rfl (fun ls hl => ?_)
          refine lv_goto (tgt := 78) hx hb dX8_share_144 (by decide) ?_
          exact hin78 _ (tr_okS hk) _ _ _ hP hS (lv_sub hl [1, 2, 3, 4, 5, 6, 0] rfl)
        · replace hk := tr_ift hk tc17
          refine lv_iload_n hx hb dX8_share_95 rfl (lv_at hl 3 rfl) ?_
          refine lv_iload hx hb dX8_share_96 (lv_at hl 6 rfl) ?_
          refine lv_i2l hx hb dX8_share_98 rfl ?_
          obtain ⟨tv20, tq19, hk⟩ := tr_okb hk
          refine tr_csi (As := [.long ((tv13 : Int32).toInt64)]) (rest := [.int tv2]) C hP hS hl (c_X8_many l w ((tv13 : Int32).toInt64) th6 tv20 tq19) mz_X8_many ml_X8_154 rfl rfl ⟨Nat.le_of_ble_eq_true rfl, Nat.le_of_ble_eq_true rfl⟩ rfl rfl (Nat.le_of_ble_eq_true rfl) ⟨Nat.le_refl _, Nat.le_refl _⟩ dX8_share_99 (fun H locs hP hS => ?_)
          obtain ⟨tv22, tq21, hk⟩ := tr_okb hk
          refine tr_csi (As := [.int tv2, .int tv20]) (rest := []) C hP hS hl (c_X8_orders l w tv2 tv20 th6 tv22 tq21) mz_X8_orders ml_X8_231 rfl rfl ⟨Nat.le_of_ble_eq_true rfl, Nat.le_of_ble_eq_true rfl⟩ rfl rfl (Nat.le_of_ble_eq_true rfl) ⟨Nat.le_refl _, Nat.le_refl _⟩ dX8_share_102 (fun H locs hP hS => ?_)
          refine lv_istore (lv' := [(7, .int tv22), (0, .ref (tr_ad w 0)), (1, .int tv900), (2, .int tv901), (3, .int tv2), (4, .int tv11), (5, .int tv12), (6, .int tv13)]) hx hb dX8_share_105 hl (by decide) rfl (fun ls hl => ?_)
          refine lv_iload hx hb dX8_share_107 (lv_at hl 6 rfl) ?_
          refine lv_iload hx hb dX8_share_109 (lv_at hl 0 rfl) ?_
          refine lv_iadd hx hb dX8_share_111 ?_
          refine tr_ti hk (fun tv23 hk => ?_)
          refine lv_istore (lv' := [(5, .int tv23), (7, .int tv22), (0, .ref (tr_ad w 0)), (1, .int tv900), (2, .int tv901), (3, .int tv2), (4, .int tv11), (6, .int tv13)]) hx hb dX8_share_112 hl (by decide) rfl (fun ls hl => ?_)
          refine lv_iload hx hb dX8_share_114 (lv_at hl 6 rfl) ?_
          refine lv_iload hx hb dX8_share_116 (lv_at hl 1 rfl) ?_
          refine lv_aload_n hx hb dX8_share_118 rfl (lv_at hl 2 rfl) ?_
          refine gf_X8_56 C hP dX8_share_119 ?_
          refine lv_iload hx hb dX8_share_122 (lv_at hl 7 rfl) ?_
          refine lv_iconst (v := 1) hx hb dX8_share_124 (by decide) ?_
          refine lv_iload_n hx hb dX8_share_125 rfl (lv_at hl 3 rfl) ?_
          refine lv_ishl hx hb dX8_share_126 ?_
          refine lv_ior hx hb dX8_share_127 ?_
          refine tr_ti hk (fun tv24 hk => ?_)
          obtain ⟨tg25, hk⟩ := tr_okg hk
          refine tr_ial C hP (ar_M_16 w) tg25 dX8_share_128 ?_
          refine lv_aload_n hx hb dX8_share_129 rfl (lv_at hl 2 rfl) ?_
          refine gf_X8_56 C hP dX8_share_130 ?_
          refine lv_iload hx hb dX8_share_133 (lv_at hl 7 rfl) ?_
          obtain ⟨tg26, hk⟩ := tr_okg hk
          refine tr_ial C hP (ar_M_16 w) tg26 dX8_share_135 ?_
          refine lv_isub hx hb dX8_share_136 ?_
          refine lv_imul hx hb dX8_share_137 ?_
          refine lv_iadd hx hb dX8_share_138 ?_
          refine tr_ti hk (fun tv27 hk => ?_)
          refine lv_istore (lv' := [(4, .int tv27), (5, .int tv23), (7, .int tv22), (0, .ref (tr_ad w 0)), (1, .int tv900), (2, .int tv901), (3, .int tv2), (6, .int tv13)]) hx hb dX8_share_139 hl (by decide) rfl (fun ls hl => ?_)
          obtain ⟨tv28, etv28, hk⟩ := tr_okd hk
          refine lv_iinc (v := tv28) (lv' := [(6, .int tv28), (4, .int tv27), (5, .int tv23), (7, .int tv22), (0, .ref (tr_ad w 0)), (1, .int tv900), (2, .int tv901), (3, .int tv2)]) hx hb dX8_share_141 hl (k := 7) rfl (by rw [etv28]; rfl) (by decide) rfl (fun ls hl => ?_)
          refine lv_goto (tgt := 78) hx hb dX8_share_144 (by decide) ?_
          exact hin78 _ (tr_okS hk) _ _ _ hP hS (lv_sub hl [4, 5, 6, 7, 1, 2, 0] rfl)
    refine tr_loop (fun q => tr_Wd p l e r_X8_share s m args below meth c (MQ below (tr_Qi tr_M w r0 h0) args s 0 0 (tr_R tr_M w)) tr_M w 8 25 [(0, .ref (tr_ad w 0)), (1, .int tv900), (2, .int tv901), (3, .int tv2), (4, .int q.1)] [] q.2) hk ?_ _ _ _ hP hS (lv_sub hl [2, 3, 4, 1, 0] rfl)
    intro P25 hin25 hex25 q hk
    obtain ⟨tv29, th30⟩ := q
    intro H locs ls hP hS hl
    replace hk : tr_ok (f_X8_share_L25 tv2 tv29 th30) P25 := hk
    unfold f_X8_share_L25 at hk
    refine lv_iload hx hb dX8_share_25 (lv_at hl 4 rfl) ?_
    refine lv_iconst (v := 1) hx hb dX8_share_27 (by decide) ?_
    refine lv_iload_n hx hb dX8_share_28 rfl (lv_at hl 3 rfl) ?_
    refine lv_ishl hx hb dX8_share_29 ?_
    refine lv_icmp_ge (tgt := 69) hx hb dX8_share_30 (by decide) (fun tc31 => ?_) (fun tc31 => ?_)
    · replace hk := tr_ift hk tc31
      replace hk := hex25 _ (tr_okS hk)
      replace hk : tr_ok (f_X8_share_E69 tv2 tv900 tv901 th30) (fun o => o = (r0, h0)) := hk
      exact j69_25 th30 hk _ _ _ hP hS (lv_sub hl [0, 1, 2, 3] rfl)
    · replace hk := tr_iff hk tc31
      refine lv_aload_n hx hb dX8_share_33 rfl (lv_at hl 0 rfl) ?_
      refine lv_aload_n hx hb dX8_share_34 rfl (lv_at hl 0 rfl) ?_
      refine gf_X8_16 C hP dX8_share_35 ?_
      refine lv_iload hx hb dX8_share_38 (lv_at hl 4 rfl) ?_
      obtain ⟨tv33, th34, tq32, hk⟩ := tr_okb2 hk
      refine tr_cvi (As := [.ref (tr_ad w 3), .int tv29]) (rest := []) C hP hS hl (c_X8_sixtiethsOf l w 3 tr_pg_3 tv29 th30 tv33 th34 tq32) mz_X8_sixtiethsOf ml_X8_207 (by decide) rfl rfl rfl rfl ⟨Nat.le_of_ble_eq_true rfl, Nat.le_of_ble_eq_true rfl⟩ rfl rfl (Nat.le_of_ble_eq_true rfl) ⟨Nat.le_refl _, Nat.le_refl _⟩ dX8_share_40 (fun H locs hP hS => ?_)
      refine lv_istore (lv' := [(5, .int tv33), (0, .ref (tr_ad w 0)), (1, .int tv900), (2, .int tv901), (3, .int tv2), (4, .int tv29)]) hx hb dX8_share_43 hl (by decide) rfl (fun ls hl => ?_)
      refine lv_aload_n hx hb dX8_share_45 rfl (lv_at hl 1 rfl) ?_
      refine gf_X8_56 C hP dX8_share_46 ?_
      refine lv_iload hx hb dX8_share_49 (lv_at hl 5 rfl) ?_
      refine lv_iload hx hb dX8_share_51 (lv_at hl 0 rfl) ?_
      refine lv_if_ge (tgt := 60) hx hb dX8_share_53 (by decide) (fun tc35 => ?_) (fun tc35 => ?_)
      · replace hk := tr_ift hk tc35
        refine lv_iload hx hb dX8_share_60 (lv_at hl 0 rfl) ?_
        obtain ⟨tg36, hk⟩ := tr_okg hk
        refine tr_ias C hP hS (ar_M_16 w) tg36 dX8_share_62 (fun H locs hP hS => ?_)
        refine tr_th hk hP (fun th37 hk hP => ?_)
        obtain ⟨tv38, etv38, hk⟩ := tr_okd hk
        refine lv_iinc (v := tv38) (lv' := [(4, .int tv38), (5, .int tv33), (0, .ref (tr_ad w 0)), (1, .int tv900), (2, .int tv901), (3, .int tv2)]) hx hb dX8_share_63 hl (k := 5) rfl (by rw [etv38]; rfl) (by decide) rfl (fun ls hl => ?_)
        refine lv_goto (tgt := 25) hx hb dX8_share_66 (by decide) ?_
        exact hin25 _ (tr_okS hk) _ _ _ hP hS (lv_sub hl [2, 3, 4, 5, 0] rfl)
      · replace hk := tr_iff hk tc35
        refine lv_iconst (v := 0) hx hb dX8_share_56 (by decide) ?_
        refine lv_goto (tgt := 62) hx hb dX8_share_57 (by decide) ?_
        obtain ⟨tg39, hk⟩ := tr_okg hk
        refine tr_ias C hP hS (ar_M_16 w) tg39 dX8_share_62 (fun H locs hP hS => ?_)
        refine tr_th hk hP (fun th40 hk hP => ?_)
        obtain ⟨tv41, etv41, hk⟩ := tr_okd hk
        refine lv_iinc (v := tv41) (lv' := [(4, .int tv41), (5, .int tv33), (0, .ref (tr_ad w 0)), (1, .int tv900), (2, .int tv901), (3, .int tv2)]) hx hb dX8_share_63 hl (k := 5) rfl (by rw [etv41]; rfl) (by decide) rfl (fun ls hl => ?_)
        refine lv_goto (tgt := 25) hx hb dX8_share_66 (by decide) ?_
        exact hin25 _ (tr_okS hk) _ _ _ hP hS (lv_sub hl [2, 3, 4, 5, 0] rfl)
  · replace hk := tr_iff hk tc5
    refine lv_iconst (v := (-1)) hx hb dX8_share_20 (by decide) ?_
    exact tr_iret C hP hS hr hlocks (tr_okS (P := (fun o => o = (r0, h0))) hk) dX8_share_21
abbrev r_X8_see : Room := { frames := 2, cells := 0, slots := 0, locals := 46 }
set_option maxHeartbeats 4000000 in
set_option maxRecDepth 100000 in
theorem c_X8_see (l : Launch) (w : tr_E) (tv900 : Int32) (tv901 : Int32) (tv902 : Int32) (h : tr_H) (r0 : Int32) (h0 : tr_H) (hk : f_X8_see tv900 tv901 tv902 h = some (r0, h0)) : Met l yX8_see (Cond.code yX8_see cX8_see 4 (some .int) :: tr_T) r_X8_see (va_Pc [.ref (tr_ad w 0), .int tv900, .int tv901, .int tv902] (tr_Wo tr_M w h)) (tr_Qi tr_M w r0 h0) 0 0 (tr_R tr_M w) := by
  refine tr_start (by decide) (Nat.le_refl _) ?_
  intro p e s m args below meth c C hr hlocks hargs hP
  have hx := C.1
  have hb := C.2.1
  have hS : va_S (tr_R tr_M w) s.heap s.heap [] := va_S.rf
  have hl := lv_entry ([.ref (tr_ad w 0), .int tv900, .int tv901, .int tv902]) (n := 4) (Nat.le_of_ble_eq_true rfl)
  rw [lg_entry_eq]
  generalize (lg_sl ([.ref (tr_ad w 0), .int tv900, .int tv901, .int tv902]) ++ List.replicate (4 - (lg_sl ([.ref (tr_ad w 0), .int tv900, .int tv901, .int tv902])).length) Slot.unset).toArray = ls at hl ⊢
  have hl : lv_has ls 4 [(0, .ref (tr_ad w 0)), (1, .int tv900), (2, .int tv901), (3, .int tv902)] := hl
  replace hk : tr_ok (f_X8_see tv900 tv901 tv902 h) (fun o => o = (r0, h0)) := ⟨_, hk, rfl⟩
  unfold f_X8_see at hk
  refine lv_aload_n hx hb dX8_see_0 rfl (lv_at hl 0 rfl) ?_
  refine lv_iconst (v := 0) hx hb dX8_see_1 (by decide) ?_
  refine pf_X8_59 C hP hS dX8_see_2 (fun H locs hP hS => ?_)
  refine tr_th hk hP (fun th1 hk hP => ?_)
  refine lv_aload_n hx hb dX8_see_5 rfl (lv_at hl 0 rfl) ?_
  refine lv_iload_n hx hb dX8_see_6 rfl (lv_at hl 1 rfl) ?_
  obtain ⟨tv3, tq2, hk⟩ := tr_okb hk
  refine tr_cvi (As := [.int tv900]) (rest := []) C hP hS hl (c_X8_noDeparture l w tv900 th1 tv3 tq2) mz_X8_noDeparture ml_X8_164 (by decide) rfl rfl rfl rfl ⟨Nat.le_of_ble_eq_true rfl, Nat.le_of_ble_eq_true rfl⟩ rfl rfl (Nat.le_of_ble_eq_true rfl) ⟨Nat.le_refl _, Nat.le_refl _⟩ dX8_see_7 (fun H locs hP hS => ?_)
  refine lv_if_eq (tgt := 15) hx hb dX8_see_10 (by decide) (fun tc4 => ?_) (fun tc4 => ?_)
  · replace hk := tr_ift hk tc4
    refine lv_iload_n hx hb dX8_see_15 rfl (lv_at hl 2 rfl) ?_
    refine lv_i2l hx hb dX8_see_16 rfl ?_
    refine lv_lconst (v := 1) hx hb dX8_see_17 (by decide) ?_
    refine lv_ldc2 (v := 9) hx hb C.2.2.2.1 (C.2.2.2.2.1 _ mc_X8_168) dX8_see_18 ?_
    obtain ⟨tv6, tq5, hk⟩ := tr_okb hk
    refine tr_csi (As := [.long ((tv901 : Int32).toInt64), .long 1, .long 9]) (rest := []) C hP hS hl (c_X8_in l w ((tv901 : Int32).toInt64) 1 9 th1 tv6 tq5) mz_X8_in ml_X8_63 rfl rfl ⟨Nat.le_of_ble_eq_true rfl, Nat.le_of_ble_eq_true rfl⟩ rfl rfl (Nat.le_of_ble_eq_true rfl) ⟨Nat.le_refl _, Nat.le_refl _⟩ dX8_see_21 (fun H locs hP hS => ?_)
    refine lv_if_eq (tgt := 37) hx hb dX8_see_24 (by decide) (fun tc7 => ?_) (fun tc7 => ?_)
    · replace hk := tr_ift hk tc7
      refine lv_bipush (v := (-2)) hx hb dX8_see_37 (by decide) ?_
      exact tr_iret C hP hS hr hlocks (tr_okS (P := (fun o => o = (r0, h0))) hk) dX8_see_39
    · replace hk := tr_iff hk tc7
      refine lv_iload_n hx hb dX8_see_27 rfl (lv_at hl 3 rfl) ?_
      refine lv_i2l hx hb dX8_see_28 rfl ?_
      refine lv_lconst (v := 0) hx hb dX8_see_29 (by decide) ?_
      refine lv_lconst (v := 1) hx hb dX8_see_30 (by decide) ?_
      obtain ⟨tv9, tq8, hk⟩ := tr_okb hk
      refine tr_csi (As := [.long ((tv902 : Int32).toInt64), .long 0, .long 1]) (rest := []) C hP hS hl (c_X8_in l w ((tv902 : Int32).toInt64) 0 1 th1 tv9 tq8) mz_X8_in ml_X8_63 rfl rfl ⟨Nat.le_of_ble_eq_true rfl, Nat.le_of_ble_eq_true rfl⟩ rfl rfl (Nat.le_of_ble_eq_true rfl) ⟨Nat.le_refl _, Nat.le_refl _⟩ dX8_see_31 (fun H locs hP hS => ?_)
      refine lv_if_ne (tgt := 40) hx hb dX8_see_34 (by decide) (fun tc10 => ?_) (fun tc10 => ?_)
      · replace hk := tr_iff hk tc10
        refine lv_aload_n hx hb dX8_see_40 rfl (lv_at hl 0 rfl) ?_
        refine gf_X8_161 C hP dX8_see_41 ?_
        refine lv_bipush (v := 6) hx hb dX8_see_44 (by decide) ?_
        refine lv_icmp_ne (tgt := 52) hx hb dX8_see_46 (by decide) (fun tc11 => ?_) (fun tc11 => ?_)
        · replace hk := tr_iff hk tc11
          refine lv_aload_n hx hb dX8_see_52 rfl (lv_at hl 0 rfl) ?_
          refine gf_X8_32 C hP dX8_see_53 ?_
          refine lv_aload_n hx hb dX8_see_56 rfl (lv_at hl 0 rfl) ?_
          refine gf_X8_161 C hP dX8_see_57 ?_
          refine lv_iload_n hx hb dX8_see_60 rfl (lv_at hl 1 rfl) ?_
          obtain ⟨tv12, etv12, hk⟩ := tr_okd hk
          rw [← etv12]
          obtain ⟨tg13, hk⟩ := tr_okg hk
          refine tr_ias C hP hS (ar_M_8 w) tg13 dX8_see_61 (fun H locs hP hS => ?_)
          refine tr_th hk hP (fun th14 hk hP => ?_)
          refine lv_aload_n hx hb dX8_see_62 rfl (lv_at hl 0 rfl) ?_
          refine gf_X8_35 C hP dX8_see_63 ?_
          refine lv_aload_n hx hb dX8_see_66 rfl (lv_at hl 0 rfl) ?_
          refine gf_X8_161 C hP dX8_see_67 ?_
          refine lv_iload_n hx hb dX8_see_70 rfl (lv_at hl 2 rfl) ?_
          obtain ⟨tv15, etv15, hk⟩ := tr_okd hk
          rw [← etv15]
          obtain ⟨tg16, hk⟩ := tr_okg hk
          refine tr_ias C hP hS (ar_M_9 w) tg16 dX8_see_71 (fun H locs hP hS => ?_)
          refine tr_th hk hP (fun th17 hk hP => ?_)
          refine lv_aload_n hx hb dX8_see_72 rfl (lv_at hl 0 rfl) ?_
          refine gf_X8_38 C hP dX8_see_73 ?_
          refine lv_aload_n hx hb dX8_see_76 rfl (lv_at hl 0 rfl) ?_
          refine gf_X8_161 C hP dX8_see_77 ?_
          refine lv_iload_n hx hb dX8_see_80 rfl (lv_at hl 3 rfl) ?_
          obtain ⟨tv18, etv18, hk⟩ := tr_okd hk
          rw [← etv18]
          obtain ⟨tg19, hk⟩ := tr_okg hk
          refine tr_ias C hP hS (ar_M_10 w) tg19 dX8_see_81 (fun H locs hP hS => ?_)
          refine tr_th hk hP (fun th20 hk hP => ?_)
          refine lv_aload_n hx hb dX8_see_82 rfl (lv_at hl 0 rfl) ?_
          refine lv_dup hx hb dX8_see_83 rfl ?_
          refine gf_X8_161 C hP dX8_see_84 ?_
          refine lv_iconst (v := 1) hx hb dX8_see_87 (by decide) ?_
          refine lv_iadd hx hb dX8_see_88 ?_
          refine pf_X8_161 C hP hS dX8_see_89 (fun H locs hP hS => ?_)
          refine tr_th hk hP (fun th21 hk hP => ?_)
          refine lv_aload_n hx hb dX8_see_92 rfl (lv_at hl 0 rfl) ?_
          refine gf_X8_161 C hP dX8_see_93 ?_
          exact tr_iret C hP hS hr hlocks (tr_okS (P := (fun o => o = (r0, h0))) hk) dX8_see_96
        · replace hk := tr_ift hk tc11
          refine lv_bipush (v := (-4)) hx hb dX8_see_49 (by decide) ?_
          exact tr_iret C hP hS hr hlocks (tr_okS (P := (fun o => o = (r0, h0))) hk) dX8_see_51
      · replace hk := tr_ift hk tc10
        refine lv_bipush (v := (-2)) hx hb dX8_see_37 (by decide) ?_
        exact tr_iret C hP hS hr hlocks (tr_okS (P := (fun o => o = (r0, h0))) hk) dX8_see_39
  · replace hk := tr_iff hk tc4
    refine lv_iconst (v := (-1)) hx hb dX8_see_13 (by decide) ?_
    exact tr_iret C hP hS hr hlocks (tr_okS (P := (fun o => o = (r0, h0))) hk) dX8_see_14
abbrev r_X8_unsee : Room := { frames := 0, cells := 0, slots := 0, locals := 0 }
set_option maxHeartbeats 4000000 in
set_option maxRecDepth 100000 in
theorem c_X8_unsee (l : Launch) (w : tr_E)  (h : tr_H) (r0 : Int32) (h0 : tr_H) (hk : f_X8_unsee h = some (r0, h0)) : Met l yX8_unsee (Cond.code yX8_unsee cX8_unsee 2 (some .int) :: tr_T) r_X8_unsee (va_Pc [.ref (tr_ad w 0)] (tr_Wo tr_M w h)) (tr_Qi tr_M w r0 h0) 0 0 (tr_R tr_M w) := by
  refine tr_start (by decide) (Nat.le_refl _) ?_
  intro p e s m args below meth c C hr hlocks hargs hP
  have hx := C.1
  have hb := C.2.1
  have hS : va_S (tr_R tr_M w) s.heap s.heap [] := va_S.rf
  have hl := lv_entry ([.ref (tr_ad w 0)]) (n := 2) (Nat.le_of_ble_eq_true rfl)
  rw [lg_entry_eq]
  generalize (lg_sl ([.ref (tr_ad w 0)]) ++ List.replicate (2 - (lg_sl ([.ref (tr_ad w 0)])).length) Slot.unset).toArray = ls at hl ⊢
  have hl : lv_has ls 2 [(0, .ref (tr_ad w 0))] := hl
  replace hk : tr_ok (f_X8_unsee h) (fun o => o = (r0, h0)) := ⟨_, hk, rfl⟩
  unfold f_X8_unsee at hk
  refine lv_aload_n hx hb dX8_unsee_0 rfl (lv_at hl 0 rfl) ?_
  refine lv_iconst (v := 0) hx hb dX8_unsee_1 (by decide) ?_
  refine pf_X8_59 C hP hS dX8_unsee_2 (fun H locs hP hS => ?_)
  refine tr_th hk hP (fun th1 hk hP => ?_)
  refine lv_aload_n hx hb dX8_unsee_5 rfl (lv_at hl 0 rfl) ?_
  refine gf_X8_161 C hP dX8_unsee_6 ?_
  refine tr_ti hk (fun tv2 hk => ?_)
  refine lv_istore_n (lv' := [(1, .int tv2), (0, .ref (tr_ad w 0))]) hx hb dX8_unsee_9 rfl hl (by decide) rfl (fun ls hl => ?_)
  refine lv_aload_n hx hb dX8_unsee_10 rfl (lv_at hl 1 rfl) ?_
  refine lv_iconst (v := 0) hx hb dX8_unsee_11 (by decide) ?_
  refine pf_X8_161 C hP hS dX8_unsee_12 (fun H locs hP hS => ?_)
  refine tr_th hk hP (fun th3 hk hP => ?_)
  refine lv_iload_n hx hb dX8_unsee_15 rfl (lv_at hl 0 rfl) ?_
  exact tr_iret C hP hS hr hlocks (tr_okS (P := (fun o => o = (r0, h0))) hk) dX8_unsee_16
abbrev r_X8_explains : Room := { frames := 3, cells := 0, slots := 0, locals := 72 }
set_option maxHeartbeats 4000000 in
set_option maxRecDepth 100000 in
theorem c_X8_explains (l : Launch) (w : tr_E) (tv900 : Int32) (tv901 : Int32) (h : tr_H) (r0 : Int32) (h0 : tr_H) (hk : f_X8_explains tv900 tv901 h = some (r0, h0)) : Met l yX8_explains (Cond.code yX8_explains cX8_explains 6 (some .boolean) :: tr_T) r_X8_explains (va_Pc [.ref (tr_ad w 0), .int tv900, .int tv901] (tr_Wo tr_M w h)) (tr_Qi tr_M w r0 h0) 0 0 (tr_R tr_M w) := by
  refine tr_start (by decide) (Nat.le_refl _) ?_
  intro p e s m args below meth c C hr hlocks hargs hP
  have hx := C.1
  have hb := C.2.1
  have hS : va_S (tr_R tr_M w) s.heap s.heap [] := va_S.rf
  have hl := lv_entry ([.ref (tr_ad w 0), .int tv900, .int tv901]) (n := 6) (Nat.le_of_ble_eq_true rfl)
  rw [lg_entry_eq]
  generalize (lg_sl ([.ref (tr_ad w 0), .int tv900, .int tv901]) ++ List.replicate (6 - (lg_sl ([.ref (tr_ad w 0), .int tv900, .int tv901])).length) Slot.unset).toArray = ls at hl ⊢
  have hl : lv_has ls 6 [(0, .ref (tr_ad w 0)), (1, .int tv900), (2, .int tv901)] := hl
  replace hk : tr_ok (f_X8_explains tv900 tv901 h) (fun o => o = (r0, h0)) := ⟨_, hk, rfl⟩
  unfold f_X8_explains at hk
  refine lv_aload_n hx hb dX8_explains_0 rfl (lv_at hl 0 rfl) ?_
  refine lv_iload_n hx hb dX8_explains_1 rfl (lv_at hl 1 rfl) ?_
  refine lv_iload_n hx hb dX8_explains_2 rfl (lv_at hl 2 rfl) ?_
  obtain ⟨th2, tq1, hk⟩ := tr_okb hk
  refine tr_cvv (As := [.int tv900, .int tv901]) (rest := []) C hP hS hl (c_X8_beginLate l w tv900 tv901 h th2 tq1) mz_X8_beginLate ml_X8_194 (by decide) rfl rfl rfl rfl ⟨Nat.le_of_ble_eq_true rfl, Nat.le_of_ble_eq_true rfl⟩ rfl rfl (Nat.le_of_ble_eq_true rfl) ⟨Nat.le_refl _, Nat.le_refl _⟩ dX8_explains_3 (fun H locs hP hS => ?_)
  refine lv_iconst (v := 1) hx hb dX8_explains_6 (by decide) ?_
  refine lv_istore_n (lv' := [(3, .int 1), (0, .ref (tr_ad w 0)), (1, .int tv900), (2, .int tv901)]) hx hb dX8_explains_7 rfl hl (by decide) rfl (fun ls hl => ?_)
  refine lv_iconst (v := 1) hx hb dX8_explains_8 (by decide) ?_
  refine lv_istore (lv' := [(4, .int 1), (3, .int 1), (0, .ref (tr_ad w 0)), (1, .int tv900), (2, .int tv901)]) hx hb dX8_explains_9 hl (by decide) rfl (fun ls hl => ?_)
  have j114_11 : ∀ (tv3 : Int32) (th4 : tr_H), tr_ok (f_X8_explains_E114 tv3 th4) (fun o => o = (r0, h0)) → tr_Wd p l e r_X8_explains s m args below meth c (MQ below (tr_Qi tr_M w r0 h0) args s 0 0 (tr_R tr_M w)) tr_M w 6 114 [(3, .int tv3)] [] th4 := by
    intro tv3 th4 hk H locs ls hP hS hl
    unfold f_X8_explains_E114 at hk
    refine lv_iload_n hx hb dX8_explains_114 rfl (lv_at hl 0 rfl) ?_
    obtain ⟨tg5, hk⟩ := tr_okz hk
    exact tr_zret C hP hS hr hlocks tg5 (tr_okS (P := (fun o => o = (r0, h0))) hk) dX8_explains_115
  refine tr_loop (fun q => tr_Wd p l e r_X8_explains s m args below meth c (MQ below (tr_Qi tr_M w r0 h0) args s 0 0 (tr_R tr_M w)) tr_M w 6 11 [(0, .ref (tr_ad w 0)), (3, .int q.1), (4, .int q.2.1)] [] q.2.2) hk ?_ _ _ _ hP hS (lv_sub hl [2, 1, 0] rfl)
  intro P11 hin11 hex11 q hk
  obtain ⟨tv6, tv7, th8⟩ := q
  intro H locs ls hP hS hl
  replace hk : tr_ok (f_X8_explains_L11 tv6 tv7 th8) P11 := hk
  unfold f_X8_explains_L11 at hk
  refine lv_iload hx hb dX8_explains_11 (lv_at hl 2 rfl) ?_
  refine lv_bipush (v := 10) hx hb dX8_explains_13 (by decide) ?_
  refine lv_icmp_ge (tgt := 114) hx hb dX8_explains_15 (by decide) (fun tc9 => ?_) (fun tc9 => ?_)
  · replace hk := tr_ift hk tc9
    replace hk := hex11 _ (tr_okS hk)
    replace hk : tr_ok (f_X8_explains_E114 tv6 th8) (fun o => o = (r0, h0)) := hk
    exact j114_11 tv6 th8 hk _ _ _ hP hS (lv_sub hl [1] rfl)
  · replace hk := tr_iff hk tc9
    refine lv_aload_n hx hb dX8_explains_18 rfl (lv_at hl 0 rfl) ?_
    refine lv_aload_n hx hb dX8_explains_19 rfl (lv_at hl 0 rfl) ?_
    refine gf_X8_16 C hP dX8_explains_20 ?_
    refine lv_bipush (v := 10) hx hb dX8_explains_23 (by decide) ?_
    obtain ⟨tv11, th12, tq10, hk⟩ := tr_okb2 hk
    refine tr_cvi (As := [.ref (tr_ad w 3), .int 10]) (rest := []) C hP hS hl (c_X8_goRound l w 3 tr_pg_3 10 th8 tv11 th12 tq10) mz_X8_goRound ml_X8_198 (by decide) rfl rfl rfl rfl ⟨Nat.le_of_ble_eq_true rfl, Nat.le_of_ble_eq_true rfl⟩ rfl rfl (Nat.le_of_ble_eq_true rfl) ⟨Nat.le_refl _, Nat.le_refl _⟩ dX8_explains_25 (fun H locs hP hS => ?_)
    refine lv_pop hx hb dX8_explains_28 rfl ?_
    refine lv_iconst (v := 0) hx hb dX8_explains_29 (by decide) ?_
    refine lv_istore (lv' := [(5, .int 0), (0, .ref (tr_ad w 0)), (3, .int tv6), (4, .int tv7)]) hx hb dX8_explains_30 hl (by decide) rfl (fun ls hl => ?_)
    have j108_32 : ∀ (tv13 : Int32), tr_ok (f_X8_explains_E108 tv7 th12 tv13) P11 → tr_Wd p l e r_X8_explains s m args below meth c (MQ below (tr_Qi tr_M w r0 h0) args s 0 0 (tr_R tr_M w)) tr_M w 6 108 [(0, .ref (tr_ad w 0)), (3, .int tv13), (4, .int tv7)] [] th12 := by
      intro tv13 hk H locs ls hP hS hl
      unfold f_X8_explains_E108 at hk
      obtain ⟨tv14, etv14, hk⟩ := tr_okd hk
      refine lv_iinc (v := tv14) (lv' := [(4, .int tv14), (0, .ref (tr_ad w 0)), (3, .int tv13)]) hx hb dX8_explains_108 hl (k := 2) rfl (by rw [etv14]; rfl) (by decide) rfl (fun ls hl => ?_)
      refine lv_goto (tgt := 11) hx hb dX8_explains_111 (by decide) ?_
      exact hin11 _ (tr_okS hk) _ _ _ hP hS (lv_sub hl [1, 2, 0] rfl)
    refine tr_loop (fun q => tr_Wd p l e r_X8_explains s m args below meth c (MQ below (tr_Qi tr_M w r0 h0) args s 0 0 (tr_R tr_M w)) tr_M w 6 32 [(0, .ref (tr_ad w 0)), (3, .int q.1), (4, .int tv7), (5, .int q.2)] [] th12) hk ?_ _ _ _ hP hS (lv_sub hl [1, 2, 3, 0] rfl)
    intro P32 hin32 hex32 q hk
    obtain ⟨tv15, tv16⟩ := q
    intro H locs ls hP hS hl
    replace hk : tr_ok (f_X8_explains_L32 th12 tv7 tv15 tv16) P32 := hk
    unfold f_X8_explains_L32 at hk
    refine lv_iload hx hb dX8_explains_32 (lv_at hl 3 rfl) ?_
    refine lv_aload_n hx hb dX8_explains_34 rfl (lv_at hl 0 rfl) ?_
    refine gf_X8_161 C hP dX8_explains_35 ?_
    refine lv_icmp_ge (tgt := 108) hx hb dX8_explains_38 (by decide) (fun tc17 => ?_) (fun tc17 => ?_)
    · replace hk := tr_ift hk tc17
      replace hk := hex32 _ (tr_okS hk)
      replace hk : tr_ok (f_X8_explains_E108 tv7 th12 tv15) P11 := hk
      exact j108_32 tv15 hk _ _ _ hP hS (lv_sub hl [0, 1, 2] rfl)
    · replace hk := tr_iff hk tc17
      refine lv_iload_n hx hb dX8_explains_41 rfl (lv_at hl 1 rfl) ?_
      refine lv_if_eq (tgt := 100) hx hb dX8_explains_42 (by decide) (fun tc18 => ?_) (fun tc18 => ?_)
      · replace hk := tr_ift hk tc18
        refine lv_iconst (v := 0) hx hb dX8_explains_100 (by decide) ?_
        refine lv_istore_n (lv' := [(3, .int 0), (0, .ref (tr_ad w 0)), (4, .int tv7), (5, .int tv16)]) hx hb dX8_explains_101 rfl hl (by decide) rfl (fun ls hl => ?_)
        obtain ⟨tv19, etv19, hk⟩ := tr_okd hk
        refine lv_iinc (v := tv19) (lv' := [(5, .int tv19), (3, .int 0), (0, .ref (tr_ad w 0)), (4, .int tv7)]) hx hb dX8_explains_102 hl (k := 3) rfl (by rw [etv19]; rfl) (by decide) rfl (fun ls hl => ?_)
        refine lv_goto (tgt := 32) hx hb dX8_explains_105 (by decide) ?_
        exact hin32 _ (tr_okS hk) _ _ _ hP hS (lv_sub hl [2, 1, 3, 0] rfl)
      · replace hk := tr_iff hk tc18
        refine lv_aload_n hx hb dX8_explains_45 rfl (lv_at hl 0 rfl) ?_
        refine gf_X8_35 C hP dX8_explains_46 ?_
        refine lv_iload hx hb dX8_explains_49 (lv_at hl 3 rfl) ?_
        obtain ⟨tg20, hk⟩ := tr_okg hk
        refine tr_ial C hP (ar_M_9 w) tg20 dX8_explains_51 ?_
        refine lv_iload hx hb dX8_explains_52 (lv_at hl 2 rfl) ?_
        refine lv_icmp_ne (tgt := 96) hx hb dX8_explains_54 (by decide) (fun tc21 => ?_) (fun tc21 => ?_)
        · replace hk := tr_iff hk tc21
          refine lv_iconst (v := 1) hx hb dX8_explains_96 (by decide) ?_
          refine lv_goto (tgt := 101) hx hb dX8_explains_97 (by decide) ?_
          refine lv_istore_n (lv' := [(3, .int 1), (0, .ref (tr_ad w 0)), (4, .int tv7), (5, .int tv16)]) hx hb dX8_explains_101 rfl hl (by decide) rfl (fun ls hl => ?_)
          obtain ⟨tv22, etv22, hk⟩ := tr_okd hk
          refine lv_iinc (v := tv22) (lv' := [(5, .int tv22), (3, .int 1), (0, .ref (tr_ad w 0)), (4, .int tv7)]) hx hb dX8_explains_102 hl (k := 3) rfl (by rw [etv22]; rfl) (by decide) rfl (fun ls hl => ?_)
          refine lv_goto (tgt := 32) hx hb dX8_explains_105 (by decide) ?_
          exact hin32 _ (tr_okS hk) _ _ _ hP hS (lv_sub hl [2, 1, 3, 0] rfl)
        · replace hk := tr_ift hk tc21
          refine lv_aload_n hx hb dX8_explains_57 rfl (lv_at hl 0 rfl) ?_
          refine gf_X8_50 C hP dX8_explains_58 ?_
          refine lv_aload_n hx hb dX8_explains_61 rfl (lv_at hl 0 rfl) ?_
          refine gf_X8_32 C hP dX8_explains_62 ?_
          refine lv_iload hx hb dX8_explains_65 (lv_at hl 3 rfl) ?_
          obtain ⟨tg23, hk⟩ := tr_okg hk
          refine tr_ial C hP (ar_M_8 w) tg23 dX8_explains_67 ?_
          refine tr_ti hk (fun tv24 hk => ?_)
          obtain ⟨tg25, hk⟩ := tr_okg hk
          refine tr_ial C hP (ar_M_14 w) tg25 dX8_explains_68 ?_
          have j77 : ∀ (tv26 : Int32), tr_ok (f_X8_explains_J77 tv16 th12 tv26) P32 → tr_Wd p l e r_X8_explains s m args below meth c (MQ below (tr_Qi tr_M w r0 h0) args s 0 0 (tr_R tr_M w)) tr_M w 6 77 [(0, .ref (tr_ad w 0)), (4, .int tv7), (5, .int tv16)] [.int tv26] th12 := by
            intro tv26 hk H locs ls hP hS hl
            unfold f_X8_explains_J77 at hk
            refine lv_aload_n hx hb dX8_explains_77 rfl (lv_at hl 0 rfl) ?_
            refine gf_X8_38 C hP dX8_explains_78 ?_
            refine lv_iload hx hb dX8_explains_81 (lv_at hl 2 rfl) ?_
            obtain ⟨tg27, hk⟩ := tr_okg hk
            refine tr_ial C hP (ar_M_10 w) tg27 dX8_explains_83 ?_
            refine lv_iconst (v := 1) hx hb dX8_explains_84 (by decide) ?_
            have j93 : ∀ (tv28 : Int32), tr_ok (f_X8_explains_J93 tv26 tv16 tv28) P32 → tr_Wd p l e r_X8_explains s m args below meth c (MQ below (tr_Qi tr_M w r0 h0) args s 0 0 (tr_R tr_M w)) tr_M w 6 93 [(0, .ref (tr_ad w 0)), (4, .int tv7), (5, .int tv16)] [.int tv28, .int tv26] th12 := by
              intro tv28 hk H locs ls hP hS hl
              unfold f_X8_explains_J93 at hk
              refine lv_icmp_ne (tgt := 100) hx hb dX8_explains_93 (by decide) (fun tc29 => ?_) (fun tc29 => ?_)
              · replace hk := tr_iff hk tc29
                refine lv_iconst (v := 0) hx hb dX8_explains_100 (by decide) ?_
                refine lv_istore_n (lv' := [(3, .int 0), (0, .ref (tr_ad w 0)), (4, .int tv7), (5, .int tv16)]) hx hb dX8_explains_101 rfl hl (by decide) rfl (fun ls hl => ?_)
                obtain ⟨tv30, etv30, hk⟩ := tr_okd hk
                refine lv_iinc (v := tv30) (lv' := [(5, .int tv30), (3, .int 0), (0, .ref (tr_ad w 0)), (4, .int tv7)]) hx hb dX8_explains_102 hl (k := 3) rfl (by rw [etv30]; rfl) (by decide) rfl (fun ls hl => ?_)
                refine lv_goto (tgt := 32) hx hb dX8_explains_105 (by decide) ?_
                exact hin32 _ (tr_okS hk) _ _ _ hP hS (lv_sub hl [2, 1, 3, 0] rfl)
              · replace hk := tr_ift hk tc29
                refine lv_iconst (v := 1) hx hb dX8_explains_96 (by decide) ?_
                refine lv_goto (tgt := 101) hx hb dX8_explains_97 (by decide) ?_
                refine lv_istore_n (lv' := [(3, .int 1), (0, .ref (tr_ad w 0)), (4, .int tv7), (5, .int tv16)]) hx hb dX8_explains_101 rfl hl (by decide) rfl (fun ls hl => ?_)
                obtain ⟨tv31, etv31, hk⟩ := tr_okd hk
                refine lv_iinc (v := tv31) (lv' := [(5, .int tv31), (3, .int 1), (0, .ref (tr_ad w 0)), (4, .int tv7)]) hx hb dX8_explains_102 hl (k := 3) rfl (by rw [etv31]; rfl) (by decide) rfl (fun ls hl => ?_)
                refine lv_goto (tgt := 32) hx hb dX8_explains_105 (by decide) ?_
                exact hin32 _ (tr_okS hk) _ _ _ hP hS (lv_sub hl [2, 1, 3, 0] rfl)
            refine lv_icmp_ne (tgt := 92) hx hb dX8_explains_85 (by decide) (fun tc32 => ?_) (fun tc32 => ?_)
            · replace hk := tr_iff hk tc32
              refine lv_iconst (v := 0) hx hb dX8_explains_92 (by decide) ?_
              exact j93 0 hk _ _ _ hP hS (lv_sub hl [0, 1, 2] rfl)
            · replace hk := tr_ift hk tc32
              refine lv_iconst (v := 1) hx hb dX8_explains_88 (by decide) ?_
              refine lv_goto (tgt := 93) hx hb dX8_explains_89 (by decide) ?_
              exact j93 1 hk _ _ _ hP hS (lv_sub hl [0, 1, 2] rfl)
          refine lv_if_le (tgt := 76) hx hb dX8_explains_69 (by decide) (fun tc33 => ?_) (fun tc33 => ?_)
          · replace hk := tr_ift hk tc33
            refine lv_iconst (v := 0) hx hb dX8_explains_76 (by decide) ?_
            exact j77 0 hk _ _ _ hP hS (lv_sub hl [0, 2, 3] rfl)
          · replace hk := tr_iff hk tc33
            refine lv_iconst (v := 1) hx hb dX8_explains_72 (by decide) ?_
            refine lv_goto (tgt := 77) hx hb dX8_explains_73 (by decide) ?_
            exact j77 1 hk _ _ _ hP hS (lv_sub hl [0, 2, 3] rfl)
abbrev r_X8_began : Room := { frames := 4, cells := 0, slots := 0, locals := 97 }
set_option maxHeartbeats 4000000 in
set_option maxRecDepth 100000 in
theorem c_X8_began (l : Launch) (w : tr_E) (tv900 : Int32) (h : tr_H) (r0 : Int32) (h0 : tr_H) (hk : f_X8_began tv900 h = some (r0, h0)) : Met l yX8_began (Cond.code yX8_began cX8_began 5 (some .int) :: tr_T) r_X8_began (va_Pc [.ref (tr_ad w 0), .int tv900] (tr_Wo tr_M w h)) (tr_Qi tr_M w r0 h0) 0 0 (tr_R tr_M w) := by
  refine tr_start (by decide) (Nat.le_refl _) ?_
  intro p e s m args below meth c C hr hlocks hargs hP
  have hx := C.1
  have hb := C.2.1
  have hS : va_S (tr_R tr_M w) s.heap s.heap [] := va_S.rf
  have hl := lv_entry ([.ref (tr_ad w 0), .int tv900]) (n := 5) (Nat.le_of_ble_eq_true rfl)
  rw [lg_entry_eq]
  generalize (lg_sl ([.ref (tr_ad w 0), .int tv900]) ++ List.replicate (5 - (lg_sl ([.ref (tr_ad w 0), .int tv900])).length) Slot.unset).toArray = ls at hl ⊢
  have hl : lv_has ls 5 [(0, .ref (tr_ad w 0)), (1, .int tv900)] := hl
  replace hk : tr_ok (f_X8_began tv900 h) (fun o => o = (r0, h0)) := ⟨_, hk, rfl⟩
  unfold f_X8_began at hk
  refine lv_aload_n hx hb dX8_began_0 rfl (lv_at hl 0 rfl) ?_
  refine lv_iconst (v := 0) hx hb dX8_began_1 (by decide) ?_
  refine pf_X8_59 C hP hS dX8_began_2 (fun H locs hP hS => ?_)
  refine tr_th hk hP (fun th1 hk hP => ?_)
  refine lv_iload_n hx hb dX8_began_5 rfl (lv_at hl 1 rfl) ?_
  refine lv_i2l hx hb dX8_began_6 rfl ?_
  refine lv_lconst (v := 0) hx hb dX8_began_7 (by decide) ?_
  refine lv_lconst (v := 1) hx hb dX8_began_8 (by decide) ?_
  obtain ⟨tv3, tq2, hk⟩ := tr_okb hk
  refine tr_csi (As := [.long ((tv900 : Int32).toInt64), .long 0, .long 1]) (rest := []) C hP hS hl (c_X8_in l w ((tv900 : Int32).toInt64) 0 1 th1 tv3 tq2) mz_X8_in ml_X8_63 rfl rfl ⟨Nat.le_of_ble_eq_true rfl, Nat.le_of_ble_eq_true rfl⟩ rfl rfl (Nat.le_of_ble_eq_true rfl) ⟨Nat.le_refl _, Nat.le_refl _⟩ dX8_began_9 (fun H locs hP hS => ?_)
  refine lv_if_ne (tgt := 18) hx hb dX8_began_12 (by decide) (fun tc4 => ?_) (fun tc4 => ?_)
  · replace hk := tr_iff hk tc4
    refine lv_aload_n hx hb dX8_began_18 rfl (lv_at hl 0 rfl) ?_
    refine lv_iconst (v := 0) hx hb dX8_began_19 (by decide) ?_
    refine pf_X8_234 C hP hS dX8_began_20 (fun H locs hP hS => ?_)
    refine tr_th hk hP (fun th5 hk hP => ?_)
    refine lv_aload_n hx hb dX8_began_23 rfl (lv_at hl 0 rfl) ?_
    refine lv_bipush (v := (-9)) hx hb dX8_began_24 (by decide) ?_
    refine pf_X8_237 C hP hS dX8_began_26 (fun H locs hP hS => ?_)
    refine tr_th hk hP (fun th6 hk hP => ?_)
    refine lv_aload_n hx hb dX8_began_29 rfl (lv_at hl 0 rfl) ?_
    refine lv_aload_n hx hb dX8_began_30 rfl (lv_at hl 0 rfl) ?_
    refine gf_X8_16 C hP dX8_began_31 ?_
    refine lv_bipush (v := 10) hx hb dX8_began_34 (by decide) ?_
    obtain ⟨th8, tq7, hk⟩ := tr_okb hk
    refine tr_cvv (As := [.ref (tr_ad w 3), .int 10]) (rest := []) C hP hS hl (c_X8_layTimes l w 3 tr_pg_3 10 th6 th8 tq7) mz_X8_layTimes ml_X8_183 (by decide) rfl rfl rfl rfl ⟨Nat.le_of_ble_eq_true rfl, Nat.le_of_ble_eq_true rfl⟩ rfl rfl (Nat.le_of_ble_eq_true rfl) ⟨Nat.le_refl _, Nat.le_refl _⟩ dX8_began_36 (fun H locs hP hS => ?_)
    refine lv_iconst (v := 0) hx hb dX8_began_39 (by decide) ?_
    refine lv_istore_n (lv' := [(2, .int 0), (0, .ref (tr_ad w 0)), (1, .int tv900)]) hx hb dX8_began_40 rfl hl (by decide) rfl (fun ls hl => ?_)
    have j127_41 : ∀ (th9 : tr_H), tr_ok (f_X8_began_E127 tv900 th9) (fun o => o = (r0, h0)) → tr_Wd p l e r_X8_began s m args below meth c (MQ below (tr_Qi tr_M w r0 h0) args s 0 0 (tr_R tr_M w)) tr_M w 5 127 [(0, .ref (tr_ad w 0)), (1, .int tv900)] [] th9 := by
      intro th9 hk H locs ls hP hS hl
      unfold f_X8_began_E127 at hk
      refine lv_iload_n hx hb dX8_began_127 rfl (lv_at hl 1 rfl) ?_
      refine lv_if_ne (tgt := 138) hx hb dX8_began_128 (by decide) (fun tc10 => ?_) (fun tc10 => ?_)
      · replace hk := tr_iff hk tc10
        refine lv_aload_n hx hb dX8_began_138 rfl (lv_at hl 0 rfl) ?_
        refine gf_X8_237 C hP dX8_began_139 ?_
        exact tr_iret C hP hS hr hlocks (tr_okS (P := (fun o => o = (r0, h0))) hk) dX8_began_142
      · replace hk := tr_ift hk tc10
        refine lv_aload_n hx hb dX8_began_131 rfl (lv_at hl 0 rfl) ?_
        refine gf_X8_234 C hP dX8_began_132 ?_
        refine lv_goto (tgt := 142) hx hb dX8_began_135 (by decide) ?_
        exact tr_iret C hP hS hr hlocks (tr_okS (P := (fun o => o = (r0, h0))) hk) dX8_began_142
    refine tr_loop (fun q => tr_Wd p l e r_X8_began s m args below meth c (MQ below (tr_Qi tr_M w r0 h0) args s 0 0 (tr_R tr_M w)) tr_M w 5 41 [(0, .ref (tr_ad w 0)), (1, .int tv900), (2, .int q.1)] [] q.2) hk ?_ _ _ _ hP hS (lv_sub hl [1, 2, 0] rfl)
    intro P41 hin41 hex41 q hk
    obtain ⟨tv11, th12⟩ := q
    intro H locs ls hP hS hl
    replace hk : tr_ok (f_X8_began_L41 tv11 th12) P41 := hk
    unfold f_X8_began_L41 at hk
    refine lv_iload_n hx hb dX8_began_41 rfl (lv_at hl 2 rfl) ?_
    refine lv_aload_n hx hb dX8_began_42 rfl (lv_at hl 0 rfl) ?_
    refine gf_X8_16 C hP dX8_began_43 ?_
    refine lv_iconst (v := 0) hx hb dX8_began_46 (by decide) ?_
    refine tr_ial C hP (ar_M_3 w) (show ¬ ((0 : Int32) < 0 ∨ 37 ≤ (0 : Int32).toNatClampNeg) by decide) dX8_began_47 ?_
    refine lv_icmp_ge (tgt := 127) hx hb dX8_began_48 (by decide) (fun tc13 => ?_) (fun tc13 => ?_)
    · replace hk := tr_ift hk tc13
      replace hk := hex41 _ (tr_okS hk)
      replace hk : tr_ok (f_X8_began_E127 tv900 th12) (fun o => o = (r0, h0)) := hk
      exact j127_41 th12 hk _ _ _ hP hS (lv_sub hl [0, 1] rfl)
    · replace hk := tr_iff hk tc13
      refine lv_iconst (v := 1) hx hb dX8_began_51 (by decide) ?_
      refine lv_istore_n (lv' := [(3, .int 1), (0, .ref (tr_ad w 0)), (1, .int tv900), (2, .int tv11)]) hx hb dX8_began_52 rfl hl (by decide) rfl (fun ls hl => ?_)
      have j121_53 : ∀ (th14 : tr_H), tr_ok (f_X8_began_E121 tv11 th14) P41 → tr_Wd p l e r_X8_began s m args below meth c (MQ below (tr_Qi tr_M w r0 h0) args s 0 0 (tr_R tr_M w)) tr_M w 5 121 [(0, .ref (tr_ad w 0)), (1, .int tv900), (2, .int tv11)] [] th14 := by
        intro th14 hk H locs ls hP hS hl
        unfold f_X8_began_E121 at hk
        obtain ⟨tv15, etv15, hk⟩ := tr_okd hk
        refine lv_iinc (v := tv15) (lv' := [(2, .int tv15), (0, .ref (tr_ad w 0)), (1, .int tv900)]) hx hb dX8_began_121 hl (k := 2) rfl (by rw [etv15]; rfl) (by decide) rfl (fun ls hl => ?_)
        refine lv_goto (tgt := 41) hx hb dX8_began_124 (by decide) ?_
        exact hin41 _ (tr_okS hk) _ _ _ hP hS (lv_sub hl [1, 2, 0] rfl)
      refine tr_loop (fun q => tr_Wd p l e r_X8_began s m args below meth c (MQ below (tr_Qi tr_M w r0 h0) args s 0 0 (tr_R tr_M w)) tr_M w 5 53 [(0, .ref (tr_ad w 0)), (1, .int tv900), (2, .int tv11), (3, .int q.1)] [] q.2) hk ?_ _ _ _ hP hS (lv_sub hl [1, 2, 3, 0] rfl)
      intro P53 hin53 hex53 q hk
      obtain ⟨tv16, th17⟩ := q
      intro H locs ls hP hS hl
      replace hk : tr_ok (f_X8_began_L53 tv11 tv16 th17) P53 := hk
      unfold f_X8_began_L53 at hk
      refine lv_iload_n hx hb dX8_began_53 rfl (lv_at hl 3 rfl) ?_
      refine lv_bipush (v := 30) hx hb dX8_began_54 (by decide) ?_
      refine lv_icmp_gt (tgt := 121) hx hb dX8_began_56 (by decide) (fun tc18 => ?_) (fun tc18 => ?_)
      · replace hk := tr_ift hk tc18
        replace hk := hex53 _ (tr_okS hk)
        replace hk : tr_ok (f_X8_began_E121 tv11 th17) P41 := hk
        exact j121_53 th17 hk _ _ _ hP hS (lv_sub hl [0, 1, 2] rfl)
      · replace hk := tr_iff hk tc18
        refine lv_aload_n hx hb dX8_began_59 rfl (lv_at hl 0 rfl) ?_
        refine lv_iload_n hx hb dX8_began_60 rfl (lv_at hl 2 rfl) ?_
        refine lv_iload_n hx hb dX8_began_61 rfl (lv_at hl 3 rfl) ?_
        obtain ⟨tv20, th21, tq19, hk⟩ := tr_okb2 hk
        refine tr_cvi (As := [.int tv11, .int tv16]) (rest := []) C hP hS hl (c_X8_explains l w tv11 tv16 th17 tv20 th21 tq19) mz_X8_explains ml_X8_240 (by decide) rfl rfl rfl rfl ⟨Nat.le_of_ble_eq_true rfl, Nat.le_of_ble_eq_true rfl⟩ rfl rfl (Nat.le_of_ble_eq_true rfl) ⟨Nat.le_refl _, Nat.le_refl _⟩ dX8_began_62 (fun H locs hP hS => ?_)
        refine lv_istore (lv' := [(4, .int tv20), (0, .ref (tr_ad w 0)), (1, .int tv900), (2, .int tv11), (3, .int tv16)]) hx hb dX8_began_65 hl (by decide) rfl (fun ls hl => ?_)
        refine lv_aload_n hx hb dX8_began_67 rfl (lv_at hl 1 rfl) ?_
        refine lv_iload hx hb dX8_began_68 (lv_at hl 0 rfl) ?_
        have j93 : ∀ (tv22 : Int32), tr_ok (f_X8_began_J93 th21 tv20 tv16 tv22) P53 → tr_Wd p l e r_X8_began s m args below meth c (MQ below (tr_Qi tr_M w r0 h0) args s 0 0 (tr_R tr_M w)) tr_M w 5 93 [(0, .ref (tr_ad w 0)), (1, .int tv900), (2, .int tv11), (3, .int tv16), (4, .int tv20)] [.int tv22, .ref (tr_ad w 0)] th21 := by
          intro tv22 hk H locs ls hP hS hl
          unfold f_X8_began_J93 at hk
          refine pf_X8_237 C hP hS dX8_began_93 (fun H locs hP hS => ?_)
          refine tr_th hk hP (fun th23 hk hP => ?_)
          refine lv_aload_n hx hb dX8_began_96 rfl (lv_at hl 0 rfl) ?_
          refine lv_dup hx hb dX8_began_97 rfl ?_
          refine gf_X8_234 C hP dX8_began_98 ?_
          refine lv_iload hx hb dX8_began_101 (lv_at hl 4 rfl) ?_
          refine lv_if_eq (tgt := 110) hx hb dX8_began_103 (by decide) (fun tc24 => ?_) (fun tc24 => ?_)
          · replace hk := tr_ift hk tc24
            refine lv_iconst (v := 0) hx hb dX8_began_110 (by decide) ?_
            refine lv_iadd hx hb dX8_began_111 ?_
            refine pf_X8_234 C hP hS dX8_began_112 (fun H locs hP hS => ?_)
            refine tr_th hk hP (fun th25 hk hP => ?_)
            obtain ⟨tv26, etv26, hk⟩ := tr_okd hk
            refine lv_iinc (v := tv26) (lv' := [(3, .int tv26), (0, .ref (tr_ad w 0)), (1, .int tv900), (2, .int tv11), (4, .int tv20)]) hx hb dX8_began_115 hl (k := 3) rfl (by rw [etv26]; rfl) (by decide) rfl (fun ls hl => ?_)
            refine lv_goto (tgt := 53) hx hb dX8_began_118 (by decide) ?_
            exact hin53 _ (tr_okS hk) _ _ _ hP hS (lv_sub hl [1, 2, 3, 0] rfl)
          · replace hk := tr_iff hk tc24
            refine lv_iconst (v := 1) hx hb dX8_began_106 (by decide) ?_
            refine lv_goto (tgt := 111) hx hb dX8_began_107 (by decide) ?_
            refine lv_iadd hx hb dX8_began_111 ?_
            refine pf_X8_234 C hP hS dX8_began_112 (fun H locs hP hS => ?_)
            refine tr_th hk hP (fun th27 hk hP => ?_)
            obtain ⟨tv28, etv28, hk⟩ := tr_okd hk
            refine lv_iinc (v := tv28) (lv' := [(3, .int tv28), (0, .ref (tr_ad w 0)), (1, .int tv900), (2, .int tv11), (4, .int tv20)]) hx hb dX8_began_115 hl (k := 3) rfl (by rw [etv28]; rfl) (by decide) rfl (fun ls hl => ?_)
            refine lv_goto (tgt := 53) hx hb dX8_began_118 (by decide) ?_
            exact hin53 _ (tr_okS hk) _ _ _ hP hS (lv_sub hl [1, 2, 3, 0] rfl)
        have j89 : tr_ok (f_X8_began_J89 th21 tv20 tv16) P53 → tr_Wd p l e r_X8_began s m args below meth c (MQ below (tr_Qi tr_M w r0 h0) args s 0 0 (tr_R tr_M w)) tr_M w 5 89 [(0, .ref (tr_ad w 0)), (1, .int tv900), (2, .int tv11), (3, .int tv16), (4, .int tv20)] [.ref (tr_ad w 0)] th21 := by
          intro  hk H locs ls hP hS hl
          unfold f_X8_began_J89 at hk
          refine lv_aload_n hx hb dX8_began_89 rfl (lv_at hl 0 rfl) ?_
          refine gf_X8_237 C hP dX8_began_90 ?_
          exact j93 (th21.1 0 29) hk _ _ _ hP hS (lv_sub hl [0, 1, 2, 3, 4] rfl)
        refine lv_if_eq (tgt := 89) hx hb dX8_began_70 (by decide) (fun tc29 => ?_) (fun tc29 => ?_)
        · replace hk := tr_ift hk tc29
          exact j89 hk _ _ _ hP hS (lv_sub hl [1, 2, 3, 4, 0] rfl)
        · replace hk := tr_iff hk tc29
          refine lv_aload_n hx hb dX8_began_73 rfl (lv_at hl 1 rfl) ?_
          refine gf_X8_234 C hP dX8_began_74 ?_
          refine lv_if_ne (tgt := 89) hx hb dX8_began_77 (by decide) (fun tc30 => ?_) (fun tc30 => ?_)
          · replace hk := tr_iff hk tc30
            exact j89 hk _ _ _ hP hS (lv_sub hl [1, 2, 3, 4, 0] rfl)
          · replace hk := tr_ift hk tc30
            refine lv_bipush (v := 100) hx hb dX8_began_80 (by decide) ?_
            refine lv_iload_n hx hb dX8_began_82 rfl (lv_at hl 3 rfl) ?_
            refine lv_imul hx hb dX8_began_83 ?_
            refine lv_iload_n hx hb dX8_began_84 rfl (lv_at hl 4 rfl) ?_
            refine lv_iadd hx hb dX8_began_85 ?_
            refine lv_goto (tgt := 93) hx hb dX8_began_86 (by decide) ?_
            exact j93 ((100 * tv11) + tv16) hk _ _ _ hP hS (lv_sub hl [1, 2, 3, 4, 0] rfl)
  · replace hk := tr_ift hk tc4
    refine lv_bipush (v := (-2)) hx hb dX8_began_15 (by decide) ?_
    exact tr_iret C hP hS hr hlocks (tr_okS (P := (fun o => o = (r0, h0))) hk) dX8_began_17
abbrev r_X8_drops : Room := { frames := 2, cells := 0, slots := 0, locals := 44 }
set_option maxHeartbeats 4000000 in
set_option maxRecDepth 100000 in
theorem c_X8_drops (l : Launch) (w : tr_E) (tv900 : Int32) (tv901 : Int32) (h : tr_H) (r0 : Int32) (h0 : tr_H) (hk : f_X8_drops tv900 tv901 h = some (r0, h0)) : Met l yX8_drops (Cond.code yX8_drops cX8_drops 5 (some .int) :: tr_T) r_X8_drops (va_Pc [.ref (tr_ad w 0), .int tv900, .int tv901] (tr_Wo tr_M w h)) (tr_Qi tr_M w r0 h0) 0 0 (tr_R tr_M w) := by
  refine tr_start (by decide) (Nat.le_refl _) ?_
  intro p e s m args below meth c C hr hlocks hargs hP
  have hx := C.1
  have hb := C.2.1
  have hS : va_S (tr_R tr_M w) s.heap s.heap [] := va_S.rf
  have hl := lv_entry ([.ref (tr_ad w 0), .int tv900, .int tv901]) (n := 5) (Nat.le_of_ble_eq_true rfl)
  rw [lg_entry_eq]
  generalize (lg_sl ([.ref (tr_ad w 0), .int tv900, .int tv901]) ++ List.replicate (5 - (lg_sl ([.ref (tr_ad w 0), .int tv900, .int tv901])).length) Slot.unset).toArray = ls at hl ⊢
  have hl : lv_has ls 5 [(0, .ref (tr_ad w 0)), (1, .int tv900), (2, .int tv901)] := hl
  replace hk : tr_ok (f_X8_drops tv900 tv901 h) (fun o => o = (r0, h0)) := ⟨_, hk, rfl⟩
  unfold f_X8_drops at hk
  refine lv_aload_n hx hb dX8_drops_0 rfl (lv_at hl 0 rfl) ?_
  obtain ⟨th2, tq1, hk⟩ := tr_okb hk
  refine tr_cvv (As := []) (rest := []) C hP hS hl (c_X8_begin l w h th2 tq1) mz_X8_begin ml_X8_204 (by decide) rfl rfl rfl rfl ⟨Nat.le_of_ble_eq_true rfl, Nat.le_of_ble_eq_true rfl⟩ rfl rfl (Nat.le_of_ble_eq_true rfl) ⟨Nat.le_refl _, Nat.le_refl _⟩ dX8_drops_1 (fun H locs hP hS => ?_)
  refine lv_iconst (v := 0) hx hb dX8_drops_4 (by decide) ?_
  refine lv_istore_n (lv' := [(3, .int 0), (0, .ref (tr_ad w 0)), (1, .int tv900), (2, .int tv901)]) hx hb dX8_drops_5 rfl hl (by decide) rfl (fun ls hl => ?_)
  refine lv_iconst (v := 0) hx hb dX8_drops_6 (by decide) ?_
  refine lv_istore (lv' := [(4, .int 0), (3, .int 0), (0, .ref (tr_ad w 0)), (1, .int tv900), (2, .int tv901)]) hx hb dX8_drops_7 hl (by decide) rfl (fun ls hl => ?_)
  have j82_9 : ∀ (tv3 : Int32) (th4 : tr_H), tr_ok (f_X8_drops_E82 tv3 th4) (fun o => o = (r0, h0)) → tr_Wd p l e r_X8_drops s m args below meth c (MQ below (tr_Qi tr_M w r0 h0) args s 0 0 (tr_R tr_M w)) tr_M w 5 82 [(3, .int tv3)] [] th4 := by
    intro tv3 th4 hk H locs ls hP hS hl
    unfold f_X8_drops_E82 at hk
    refine lv_iload_n hx hb dX8_drops_82 rfl (lv_at hl 0 rfl) ?_
    exact tr_iret C hP hS hr hlocks (tr_okS (P := (fun o => o = (r0, h0))) hk) dX8_drops_83
  refine tr_loop (fun q => tr_Wd p l e r_X8_drops s m args below meth c (MQ below (tr_Qi tr_M w r0 h0) args s 0 0 (tr_R tr_M w)) tr_M w 5 9 [(0, .ref (tr_ad w 0)), (1, .int tv900), (2, .int tv901), (3, .int q.1), (4, .int q.2.1)] [] q.2.2) hk ?_ _ _ _ hP hS (lv_sub hl [2, 3, 4, 1, 0] rfl)
  intro P9 hin9 hex9 q hk
  obtain ⟨tv5, tv6, th7⟩ := q
  intro H locs ls hP hS hl
  replace hk : tr_ok (f_X8_drops_L9 tv900 tv901 tv5 tv6 th7) P9 := hk
  unfold f_X8_drops_L9 at hk
  refine lv_iload hx hb dX8_drops_9 (lv_at hl 4 rfl) ?_
  refine lv_aload_n hx hb dX8_drops_11 rfl (lv_at hl 0 rfl) ?_
  refine gf_X8_16 C hP dX8_drops_12 ?_
  refine lv_iconst (v := 0) hx hb dX8_drops_15 (by decide) ?_
  refine tr_ial C hP (ar_M_3 w) (show ¬ ((0 : Int32) < 0 ∨ 37 ≤ (0 : Int32).toNatClampNeg) by decide) dX8_drops_16 ?_
  refine lv_icmp_ge (tgt := 82) hx hb dX8_drops_17 (by decide) (fun tc8 => ?_) (fun tc8 => ?_)
  · replace hk := tr_ift hk tc8
    replace hk := hex9 _ (tr_okS hk)
    replace hk : tr_ok (f_X8_drops_E82 tv5 th7) (fun o => o = (r0, h0)) := hk
    exact j82_9 tv5 th7 hk _ _ _ hP hS (lv_sub hl [3] rfl)
  · replace hk := tr_iff hk tc8
    refine lv_aload_n hx hb dX8_drops_20 rfl (lv_at hl 0 rfl) ?_
    refine gf_X8_16 C hP dX8_drops_21 ?_
    refine lv_iload_n hx hb dX8_drops_24 rfl (lv_at hl 1 rfl) ?_
    refine lv_iload hx hb dX8_drops_25 (lv_at hl 4 rfl) ?_
    obtain ⟨tv10, tq9, hk⟩ := tr_okb hk
    refine tr_csi (As := [.ref (tr_ad w 3), .int tv900, .int tv6]) (rest := []) C hP hS hl (c_X8_isThere l w 3 tr_pg_3 tv900 tv6 th7 tv10 tq9) mz_X8_isThere ml_X8_79 rfl rfl ⟨Nat.le_of_ble_eq_true rfl, Nat.le_of_ble_eq_true rfl⟩ rfl rfl (Nat.le_of_ble_eq_true rfl) ⟨Nat.le_refl _, Nat.le_refl _⟩ dX8_drops_27 (fun H locs hP hS => ?_)
    refine lv_if_eq (tgt := 76) hx hb dX8_drops_30 (by decide) (fun tc11 => ?_) (fun tc11 => ?_)
    · replace hk := tr_ift hk tc11
      obtain ⟨tv12, etv12, hk⟩ := tr_okd hk
      refine lv_iinc (v := tv12) (lv' := [(4, .int tv12), (0, .ref (tr_ad w 0)), (1, .int tv900), (2, .int tv901), (3, .int tv5)]) hx hb dX8_drops_76 hl (k := 4) rfl (by rw [etv12]; rfl) (by decide) rfl (fun ls hl => ?_)
      refine lv_goto (tgt := 9) hx hb dX8_drops_79 (by decide) ?_
      exact hin9 _ (tr_okS hk) _ _ _ hP hS (lv_sub hl [1, 2, 3, 4, 0] rfl)
    · replace hk := tr_iff hk tc11
      refine lv_aload_n hx hb dX8_drops_33 rfl (lv_at hl 0 rfl) ?_
      refine gf_X8_19 C hP dX8_drops_34 ?_
      refine lv_iconst (v := 1) hx hb dX8_drops_37 (by decide) ?_
      refine lv_bipush (v := 6) hx hb dX8_drops_38 (by decide) ?_
      refine lv_iload_n hx hb dX8_drops_40 rfl (lv_at hl 1 rfl) ?_
      refine lv_imul hx hb dX8_drops_41 ?_
      refine lv_iadd hx hb dX8_drops_42 ?_
      refine lv_iload hx hb dX8_drops_43 (lv_at hl 4 rfl) ?_
      refine lv_iadd hx hb dX8_drops_45 ?_
      refine lv_iload_n hx hb dX8_drops_46 rfl (lv_at hl 2 rfl) ?_
      refine lv_iload_n hx hb dX8_drops_47 rfl (lv_at hl 3 rfl) ?_
      obtain ⟨tv14, tq13, hk⟩ := tr_okb hk
      refine tr_csi (As := [.int tv901, .int tv5]) (rest := [.int ((1 + (6 * tv900)) + tv6), .ref (tr_ad w 4)]) C hP hS hl (c_X8_has l w tv901 tv5 th7 tv14 tq13) mz_X8_has ml_X8_132 rfl rfl ⟨Nat.le_of_ble_eq_true rfl, Nat.le_of_ble_eq_true rfl⟩ rfl rfl (Nat.le_of_ble_eq_true rfl) ⟨Nat.le_refl _, Nat.le_refl _⟩ dX8_drops_48 (fun H locs hP hS => ?_)
      refine lv_if_eq (tgt := 58) hx hb dX8_drops_51 (by decide) (fun tc15 => ?_) (fun tc15 => ?_)
      · replace hk := tr_ift hk tc15
        refine lv_aload_n hx hb dX8_drops_58 rfl (lv_at hl 0 rfl) ?_
        refine gf_X8_16 C hP dX8_drops_59 ?_
        refine lv_iconst (v := 1) hx hb dX8_drops_62 (by decide) ?_
        refine lv_bipush (v := 6) hx hb dX8_drops_63 (by decide) ?_
        refine lv_iload_n hx hb dX8_drops_65 rfl (lv_at hl 1 rfl) ?_
        refine lv_imul hx hb dX8_drops_66 ?_
        refine lv_iadd hx hb dX8_drops_67 ?_
        refine lv_iload hx hb dX8_drops_68 (lv_at hl 4 rfl) ?_
        refine lv_iadd hx hb dX8_drops_70 ?_
        refine tr_ti hk (fun tv16 hk => ?_)
        obtain ⟨tg17, hk⟩ := tr_okg hk
        refine tr_ial C hP (ar_M_3 w) tg17 dX8_drops_71 ?_
        obtain ⟨tv18, etv18, hk⟩ := tr_okd hk
        rw [← etv18]
        obtain ⟨tg19, hk⟩ := tr_okg hk
        refine tr_ias C hP hS (ar_M_4 w) tg19 dX8_drops_72 (fun H locs hP hS => ?_)
        refine tr_th hk hP (fun th20 hk hP => ?_)
        obtain ⟨tv21, etv21, hk⟩ := tr_okd hk
        refine lv_iinc (v := tv21) (lv' := [(3, .int tv21), (0, .ref (tr_ad w 0)), (1, .int tv900), (2, .int tv901), (4, .int tv6)]) hx hb dX8_drops_73 hl (k := 3) rfl (by rw [etv21]; rfl) (by decide) rfl (fun ls hl => ?_)
        obtain ⟨tv22, etv22, hk⟩ := tr_okd hk
        refine lv_iinc (v := tv22) (lv' := [(4, .int tv22), (3, .int tv21), (0, .ref (tr_ad w 0)), (1, .int tv900), (2, .int tv901)]) hx hb dX8_drops_76 hl (k := 4) rfl (by rw [etv22]; rfl) (by decide) rfl (fun ls hl => ?_)
        refine lv_goto (tgt := 9) hx hb dX8_drops_79 (by decide) ?_
        exact hin9 _ (tr_okS hk) _ _ _ hP hS (lv_sub hl [2, 3, 4, 1, 0] rfl)
      · replace hk := tr_iff hk tc15
        refine lv_iconst (v := 0) hx hb dX8_drops_54 (by decide) ?_
        refine lv_goto (tgt := 72) hx hb dX8_drops_55 (by decide) ?_
        obtain ⟨tv23, etv23, hk⟩ := tr_okd hk
        rw [← etv23]
        obtain ⟨tg24, hk⟩ := tr_okg hk
        refine tr_ias C hP hS (ar_M_4 w) tg24 dX8_drops_72 (fun H locs hP hS => ?_)
        refine tr_th hk hP (fun th25 hk hP => ?_)
        obtain ⟨tv26, etv26, hk⟩ := tr_okd hk
        refine lv_iinc (v := tv26) (lv' := [(3, .int tv26), (0, .ref (tr_ad w 0)), (1, .int tv900), (2, .int tv901), (4, .int tv6)]) hx hb dX8_drops_73 hl (k := 3) rfl (by rw [etv26]; rfl) (by decide) rfl (fun ls hl => ?_)
        obtain ⟨tv27, etv27, hk⟩ := tr_okd hk
        refine lv_iinc (v := tv27) (lv' := [(4, .int tv27), (3, .int tv26), (0, .ref (tr_ad w 0)), (1, .int tv900), (2, .int tv901)]) hx hb dX8_drops_76 hl (k := 4) rfl (by rw [etv27]; rfl) (by decide) rfl (fun ls hl => ?_)
        refine lv_goto (tgt := 9) hx hb dX8_drops_79 (by decide) ?_
        exact hin9 _ (tr_okS hk) _ _ _ hP hS (lv_sub hl [2, 3, 4, 1, 0] rfl)
abbrev r_X8_dropped : Room := { frames := 6, cells := 0, slots := 0, locals := 142 }
set_option maxHeartbeats 4000000 in
set_option maxRecDepth 100000 in
theorem c_X8_dropped (l : Launch) (w : tr_E) (tv900 : Int32) (tv901 : Int32) (tv902 : Int32) (tv903 : Int32) (h : tr_H) (r0 : Int32) (h0 : tr_H) (hk : f_X8_dropped tv900 tv901 tv902 tv903 h = some (r0, h0)) : Met l yX8_dropped (Cond.code yX8_dropped cX8_dropped 9 (some .int) :: tr_T) r_X8_dropped (va_Pc [.ref (tr_ad w 0), .int tv900, .int tv901, .int tv902, .int tv903] (tr_Wo tr_M w h)) (tr_Qi tr_M w r0 h0) 0 0 (tr_R tr_M w) := by
  refine tr_start (by decide) (Nat.le_refl _) ?_
  intro p e s m args below meth c C hr hlocks hargs hP
  have hx := C.1
  have hb := C.2.1
  have hS : va_S (tr_R tr_M w) s.heap s.heap [] := va_S.rf
  have hl := lv_entry ([.ref (tr_ad w 0), .int tv900, .int tv901, .int tv902, .int tv903]) (n := 9) (Nat.le_of_ble_eq_true rfl)
  rw [lg_entry_eq]
  generalize (lg_sl ([.ref (tr_ad w 0), .int tv900, .int tv901, .int tv902, .int tv903]) ++ List.replicate (9 - (lg_sl ([.ref (tr_ad w 0), .int tv900, .int tv901, .int tv902, .int tv903])).length) Slot.unset).toArray = ls at hl ⊢
  have hl : lv_has ls 9 [(0, .ref (tr_ad w 0)), (1, .int tv900), (2, .int tv901), (3, .int tv902), (4, .int tv903)] := hl
  replace hk : tr_ok (f_X8_dropped tv900 tv901 tv902 tv903 h) (fun o => o = (r0, h0)) := ⟨_, hk, rfl⟩
  unfold f_X8_dropped at hk
  refine lv_aload_n hx hb dX8_dropped_0 rfl (lv_at hl 0 rfl) ?_
  refine lv_iconst (v := 0) hx hb dX8_dropped_1 (by decide) ?_
  refine pf_X8_59 C hP hS dX8_dropped_2 (fun H locs hP hS => ?_)
  refine tr_th hk hP (fun th1 hk hP => ?_)
  refine lv_aload_n hx hb dX8_dropped_5 rfl (lv_at hl 0 rfl) ?_
  refine lv_iload_n hx hb dX8_dropped_6 rfl (lv_at hl 1 rfl) ?_
  obtain ⟨tv3, tq2, hk⟩ := tr_okb hk
  refine tr_cvi (As := [.int tv900]) (rest := []) C hP hS hl (c_X8_noDeparture l w tv900 th1 tv3 tq2) mz_X8_noDeparture ml_X8_164 (by decide) rfl rfl rfl rfl ⟨Nat.le_of_ble_eq_true rfl, Nat.le_of_ble_eq_true rfl⟩ rfl rfl (Nat.le_of_ble_eq_true rfl) ⟨Nat.le_refl _, Nat.le_refl _⟩ dX8_dropped_7 (fun H locs hP hS => ?_)
  refine lv_if_eq (tgt := 15) hx hb dX8_dropped_10 (by decide) (fun tc4 => ?_) (fun tc4 => ?_)
  · replace hk := tr_ift hk tc4
    refine lv_iload_n hx hb dX8_dropped_15 rfl (lv_at hl 2 rfl) ?_
    refine lv_i2l hx hb dX8_dropped_16 rfl ?_
    refine lv_lconst (v := 0) hx hb dX8_dropped_17 (by decide) ?_
    refine lv_ldc2 (v := 20) hx hb C.2.2.2.1 (C.2.2.2.2.1 _ mc_X8_181) dX8_dropped_18 ?_
    obtain ⟨tv6, tq5, hk⟩ := tr_okb hk
    refine tr_csi (As := [.long ((tv901 : Int32).toInt64), .long 0, .long 20]) (rest := []) C hP hS hl (c_X8_in l w ((tv901 : Int32).toInt64) 0 20 th1 tv6 tq5) mz_X8_in ml_X8_63 rfl rfl ⟨Nat.le_of_ble_eq_true rfl, Nat.le_of_ble_eq_true rfl⟩ rfl rfl (Nat.le_of_ble_eq_true rfl) ⟨Nat.le_refl _, Nat.le_refl _⟩ dX8_dropped_21 (fun H locs hP hS => ?_)
    refine lv_if_eq (tgt := 39) hx hb dX8_dropped_24 (by decide) (fun tc7 => ?_) (fun tc7 => ?_)
    · replace hk := tr_ift hk tc7
      refine lv_bipush (v := (-2)) hx hb dX8_dropped_39 (by decide) ?_
      exact tr_iret C hP hS hr hlocks (tr_okS (P := (fun o => o = (r0, h0))) hk) dX8_dropped_41
    · replace hk := tr_iff hk tc7
      refine lv_iload_n hx hb dX8_dropped_27 rfl (lv_at hl 3 rfl) ?_
      refine lv_i2l hx hb dX8_dropped_28 rfl ?_
      refine lv_lconst (v := 0) hx hb dX8_dropped_29 (by decide) ?_
      refine lv_ldc2 (v := 10) hx hb C.2.2.2.1 (C.2.2.2.2.1 _ mc_X8_243) dX8_dropped_30 ?_
      obtain ⟨tv9, tq8, hk⟩ := tr_okb hk
      refine tr_csi (As := [.long ((tv902 : Int32).toInt64), .long 0, .long 10]) (rest := []) C hP hS hl (c_X8_in l w ((tv902 : Int32).toInt64) 0 10 th1 tv9 tq8) mz_X8_in ml_X8_63 rfl rfl ⟨Nat.le_of_ble_eq_true rfl, Nat.le_of_ble_eq_true rfl⟩ rfl rfl (Nat.le_of_ble_eq_true rfl) ⟨Nat.le_refl _, Nat.le_refl _⟩ dX8_dropped_33 (fun H locs hP hS => ?_)
      refine lv_if_ne (tgt := 42) hx hb dX8_dropped_36 (by decide) (fun tc10 => ?_) (fun tc10 => ?_)
      · replace hk := tr_iff hk tc10
        refine lv_aload_n hx hb dX8_dropped_42 rfl (lv_at hl 0 rfl) ?_
        refine lv_iload_n hx hb dX8_dropped_43 rfl (lv_at hl 1 rfl) ?_
        refine lv_iconst (v := 0) hx hb dX8_dropped_44 (by decide) ?_
        obtain ⟨tv12, th13, tq11, hk⟩ := tr_okb2 hk
        refine tr_cvi (As := [.int tv900, .int 0]) (rest := []) C hP hS hl (c_X8_drops l w tv900 0 th1 tv12 th13 tq11) mz_X8_drops ml_X8_245 (by decide) rfl rfl rfl rfl ⟨Nat.le_of_ble_eq_true rfl, Nat.le_of_ble_eq_true rfl⟩ rfl rfl (Nat.le_of_ble_eq_true rfl) ⟨Nat.le_refl _, Nat.le_refl _⟩ dX8_dropped_45 (fun H locs hP hS => ?_)
        refine lv_istore (lv' := [(5, .int tv12), (0, .ref (tr_ad w 0)), (1, .int tv900), (2, .int tv901), (3, .int tv902), (4, .int tv903)]) hx hb dX8_dropped_48 hl (by decide) rfl (fun ls hl => ?_)
        refine lv_iconst (v := 0) hx hb dX8_dropped_50 (by decide) ?_
        refine lv_istore (lv' := [(6, .int 0), (5, .int tv12), (0, .ref (tr_ad w 0)), (1, .int tv900), (2, .int tv901), (3, .int tv902), (4, .int tv903)]) hx hb dX8_dropped_51 hl (by decide) rfl (fun ls hl => ?_)
        refine lv_iconst (v := 0) hx hb dX8_dropped_53 (by decide) ?_
        refine lv_istore (lv' := [(7, .int 0), (6, .int 0), (5, .int tv12), (0, .ref (tr_ad w 0)), (1, .int tv900), (2, .int tv901), (3, .int tv902), (4, .int tv903)]) hx hb dX8_dropped_54 hl (by decide) rfl (fun ls hl => ?_)
        have j127_56 : ∀ (tv14 : Int32) (th15 : tr_H), tr_ok (f_X8_dropped_E127 tv12 tv903 tv14 th15) (fun o => o = (r0, h0)) → tr_Wd p l e r_X8_dropped s m args below meth c (MQ below (tr_Qi tr_M w r0 h0) args s 0 0 (tr_R tr_M w)) tr_M w 9 127 [(4, .int tv903), (5, .int tv12), (6, .int tv14)] [] th15 := by
          intro tv14 th15 hk H locs ls hP hS hl
          unfold f_X8_dropped_E127 at hk
          refine lv_iload hx hb dX8_dropped_127 (lv_at hl 2 rfl) ?_
          refine lv_bipush (v := 10) hx hb dX8_dropped_129 (by decide) ?_
          refine lv_iload hx hb dX8_dropped_131 (lv_at hl 1 rfl) ?_
          obtain ⟨tv17, tq16, hk⟩ := tr_okb hk
          refine tr_csi (As := [.int 10, .int tv12]) (rest := [.int tv14]) C hP hS hl (c_X8_power l w 10 tv12 th15 tv17 tq16) mz_X8_power ml_X8_248 rfl rfl ⟨Nat.le_of_ble_eq_true rfl, Nat.le_of_ble_eq_true rfl⟩ rfl rfl (Nat.le_of_ble_eq_true rfl) ⟨Nat.le_refl _, Nat.le_refl _⟩ dX8_dropped_133 (fun H locs hP hS => ?_)
          refine lv_iload hx hb dX8_dropped_136 (lv_at hl 0 rfl) ?_
          obtain ⟨tv19, tq18, hk⟩ := tr_okb hk
          refine tr_csi (As := [.int tv14, .int tv17, .int tv903]) (rest := []) C hP hS hl (c_X8_fraction l w tv14 tv17 tv903 th15 tv19 tq18) mz_X8_fraction ml_X8_177 rfl rfl ⟨Nat.le_of_ble_eq_true rfl, Nat.le_of_ble_eq_true rfl⟩ rfl rfl (Nat.le_of_ble_eq_true rfl) ⟨Nat.le_refl _, Nat.le_refl _⟩ dX8_dropped_138 (fun H locs hP hS => ?_)
          exact tr_iret C hP hS hr hlocks (tr_okS (P := (fun o => o = (r0, h0))) hk) dX8_dropped_141
        refine tr_loop (fun q => tr_Wd p l e r_X8_dropped s m args below meth c (MQ below (tr_Qi tr_M w r0 h0) args s 0 0 (tr_R tr_M w)) tr_M w 9 56 [(0, .ref (tr_ad w 0)), (1, .int tv900), (2, .int tv901), (3, .int tv902), (4, .int tv903), (5, .int tv12), (6, .int q.1), (7, .int q.2.1)] [] q.2.2) hk ?_ _ _ _ hP hS (lv_sub hl [3, 4, 5, 6, 7, 2, 1, 0] rfl)
        intro P56 hin56 hex56 q hk
        obtain ⟨tv20, tv21, th22⟩ := q
        intro H locs ls hP hS hl
        replace hk : tr_ok (f_X8_dropped_L56 tv12 tv900 tv901 tv902 tv20 tv21 th22) P56 := hk
        unfold f_X8_dropped_L56 at hk
        refine lv_iload hx hb dX8_dropped_56 (lv_at hl 7 rfl) ?_
        refine lv_iconst (v := 1) hx hb dX8_dropped_58 (by decide) ?_
        refine lv_iload hx hb dX8_dropped_59 (lv_at hl 5 rfl) ?_
        refine lv_ishl hx hb dX8_dropped_61 ?_
        refine lv_icmp_ge (tgt := 127) hx hb dX8_dropped_62 (by decide) (fun tc23 => ?_) (fun tc23 => ?_)
        · replace hk := tr_ift hk tc23
          replace hk := hex56 _ (tr_okS hk)
          replace hk : tr_ok (f_X8_dropped_E127 tv12 tv903 tv20 th22) (fun o => o = (r0, h0)) := hk
          exact j127_56 tv20 th22 hk _ _ _ hP hS (lv_sub hl [4, 5, 6] rfl)
        · replace hk := tr_iff hk tc23
          refine lv_aload_n hx hb dX8_dropped_65 rfl (lv_at hl 0 rfl) ?_
          refine lv_iload_n hx hb dX8_dropped_66 rfl (lv_at hl 1 rfl) ?_
          refine lv_iload hx hb dX8_dropped_67 (lv_at hl 7 rfl) ?_
          obtain ⟨tv25, th26, tq24, hk⟩ := tr_okb2 hk
          refine tr_cvi (As := [.int tv900, .int tv21]) (rest := []) C hP hS hl (c_X8_drops l w tv900 tv21 th22 tv25 th26 tq24) mz_X8_drops ml_X8_245 (by decide) rfl rfl rfl rfl ⟨Nat.le_of_ble_eq_true rfl, Nat.le_of_ble_eq_true rfl⟩ rfl rfl (Nat.le_of_ble_eq_true rfl) ⟨Nat.le_refl _, Nat.le_refl _⟩ dX8_dropped_69 (fun H locs hP hS => ?_)
          refine lv_pop hx hb dX8_dropped_72 rfl ?_
          refine lv_iload hx hb dX8_dropped_73 (lv_at hl 7 rfl) ?_
          refine lv_i2l hx hb dX8_dropped_75 rfl ?_
          obtain ⟨tv28, tq27, hk⟩ := tr_okb hk
          refine tr_csi (As := [.long ((tv21 : Int32).toInt64)]) (rest := []) C hP hS hl (c_X8_many l w ((tv21 : Int32).toInt64) th26 tv28 tq27) mz_X8_many ml_X8_154 rfl rfl ⟨Nat.le_of_ble_eq_true rfl, Nat.le_of_ble_eq_true rfl⟩ rfl rfl (Nat.le_of_ble_eq_true rfl) ⟨Nat.le_refl _, Nat.le_refl _⟩ dX8_dropped_76 (fun H locs hP hS => ?_)
          refine lv_istore (lv' := [(8, .int tv28), (0, .ref (tr_ad w 0)), (1, .int tv900), (2, .int tv901), (3, .int tv902), (4, .int tv903), (5, .int tv12), (6, .int tv20), (7, .int tv21)]) hx hb dX8_dropped_79 hl (by decide) rfl (fun ls hl => ?_)
          refine lv_iload hx hb dX8_dropped_81 (lv_at hl 7 rfl) ?_
          refine lv_aload_n hx hb dX8_dropped_83 rfl (lv_at hl 1 rfl) ?_
          refine lv_aload_n hx hb dX8_dropped_84 rfl (lv_at hl 1 rfl) ?_
          refine gf_X8_19 C hP dX8_dropped_85 ?_
          refine lv_iload_n hx hb dX8_dropped_88 rfl (lv_at hl 3 rfl) ?_
          obtain ⟨tv30, th31, tq29, hk⟩ := tr_okb2 hk
          refine tr_cvi (As := [.ref (tr_ad w 4), .int tv901]) (rest := [.int tv20]) C hP hS hl (c_X8_isPeriod l w 4 tr_pg_4 tv901 th26 tv30 th31 tq29) mz_X8_isPeriod ml_X8_150 (by decide) rfl rfl rfl rfl ⟨Nat.le_of_ble_eq_true rfl, Nat.le_of_ble_eq_true rfl⟩ rfl rfl (Nat.le_of_ble_eq_true rfl) ⟨Nat.le_refl _, Nat.le_refl _⟩ dX8_dropped_89 (fun H locs hP hS => ?_)
          refine lv_if_eq (tgt := 117) hx hb dX8_dropped_92 (by decide) (fun tc32 => ?_) (fun tc32 => ?_)
          · replace hk := tr_ift hk tc32
            refine lv_iconst (v := 0) hx hb dX8_dropped_117 (by decide) ?_
            refine lv_iadd hx hb dX8_dropped_118 ?_
            refine tr_ti hk (fun tv33 hk => ?_)
            refine lv_istore (lv' := [(6, .int tv33), (8, .int tv28), (0, .ref (tr_ad w 0)), (1, .int tv900), (2, .int tv901), (3, .int tv902), (4, .int tv903), (5, .int tv12), (7, .int tv21)]) hx hb dX8_dropped_119 hl (by decide) rfl (fun ls hl => ?_)
            obtain ⟨tv34, etv34, hk⟩ := tr_okd hk
            refine lv_iinc (v := tv34) (lv' := [(7, .int tv34), (6, .int tv33), (8, .int tv28), (0, .ref (tr_ad w 0)), (1, .int tv900), (2, .int tv901), (3, .int tv902), (4, .int tv903), (5, .int tv12)]) hx hb dX8_dropped_121 hl (k := 8) rfl (by rw [etv34]; rfl) (by decide) rfl (fun ls hl => ?_)
            refine lv_goto (tgt := 56) hx hb dX8_dropped_124 (by decide) ?_
            exact hin56 _ (tr_okS hk) _ _ _ hP hS (lv_sub hl [3, 4, 5, 6, 7, 8, 1, 0] rfl)
          · replace hk := tr_iff hk tc32
            refine lv_iload_n hx hb dX8_dropped_95 rfl (lv_at hl 4 rfl) ?_
            refine lv_iload hx hb dX8_dropped_96 (lv_at hl 0 rfl) ?_
            obtain ⟨tv36, tq35, hk⟩ := tr_okb hk
            refine tr_csi (As := [.int tv902, .int tv28]) (rest := [.int tv20]) C hP hS hl (c_X8_power l w tv902 tv28 th31 tv36 tq35) mz_X8_power ml_X8_248 rfl rfl ⟨Nat.le_of_ble_eq_true rfl, Nat.le_of_ble_eq_true rfl⟩ rfl rfl (Nat.le_of_ble_eq_true rfl) ⟨Nat.le_refl _, Nat.le_refl _⟩ dX8_dropped_98 (fun H locs hP hS => ?_)
            refine lv_bipush (v := 10) hx hb dX8_dropped_101 (by decide) ?_
            refine lv_iload_n hx hb dX8_dropped_103 rfl (lv_at hl 4 rfl) ?_
            refine lv_isub hx hb dX8_dropped_104 ?_
            refine lv_iload hx hb dX8_dropped_105 (lv_at hl 6 rfl) ?_
            refine lv_iload hx hb dX8_dropped_107 (lv_at hl 0 rfl) ?_
            refine lv_isub hx hb dX8_dropped_109 ?_
            obtain ⟨tv38, tq37, hk⟩ := tr_okb hk
            refine tr_csi (As := [.int (10 - tv902), .int (tv12 - tv28)]) (rest := [.int tv36, .int tv20]) C hP hS hl (c_X8_power l w (10 - tv902) (tv12 - tv28) th31 tv38 tq37) mz_X8_power ml_X8_248 rfl rfl ⟨Nat.le_of_ble_eq_true rfl, Nat.le_of_ble_eq_true rfl⟩ rfl rfl (Nat.le_of_ble_eq_true rfl) ⟨Nat.le_refl _, Nat.le_refl _⟩ dX8_dropped_110 (fun H locs hP hS => ?_)
            refine lv_imul hx hb dX8_dropped_113 ?_
            refine lv_goto (tgt := 118) hx hb dX8_dropped_114 (by decide) ?_
            refine lv_iadd hx hb dX8_dropped_118 ?_
            refine tr_ti hk (fun tv39 hk => ?_)
            refine lv_istore (lv' := [(6, .int tv39), (8, .int tv28), (0, .ref (tr_ad w 0)), (1, .int tv900), (2, .int tv901), (3, .int tv902), (4, .int tv903), (5, .int tv12), (7, .int tv21)]) hx hb dX8_dropped_119 hl (by decide) rfl (fun ls hl => ?_)
            obtain ⟨tv40, etv40, hk⟩ := tr_okd hk
            refine lv_iinc (v := tv40) (lv' := [(7, .int tv40), (6, .int tv39), (8, .int tv28), (0, .ref (tr_ad w 0)), (1, .int tv900), (2, .int tv901), (3, .int tv902), (4, .int tv903), (5, .int tv12)]) hx hb dX8_dropped_121 hl (k := 8) rfl (by rw [etv40]; rfl) (by decide) rfl (fun ls hl => ?_)
            refine lv_goto (tgt := 56) hx hb dX8_dropped_124 (by decide) ?_
            exact hin56 _ (tr_okS hk) _ _ _ hP hS (lv_sub hl [3, 4, 5, 6, 7, 8, 1, 0] rfl)
      · replace hk := tr_ift hk tc10
        refine lv_bipush (v := (-2)) hx hb dX8_dropped_39 (by decide) ?_
        exact tr_iret C hP hS hr hlocks (tr_okS (P := (fun o => o = (r0, h0))) hk) dX8_dropped_41
  · replace hk := tr_iff hk tc4
    refine lv_iconst (v := (-1)) hx hb dX8_dropped_13 (by decide) ?_
    exact tr_iret C hP hS hr hlocks (tr_okS (P := (fun o => o = (r0, h0))) hk) dX8_dropped_14
abbrev r_X8_seed : Room := { frames := 0, cells := 0, slots := 0, locals := 0 }
set_option maxHeartbeats 4000000 in
set_option maxRecDepth 100000 in
theorem c_X8_seed (l : Launch) (w : tr_E) (tv900 : Int64) (h : tr_H) (r0 : Int64) (h0 : tr_H) (hk : f_X8_seed tv900 h = some (r0, h0)) : Met l yX8_seed (Cond.code yX8_seed cX8_seed 5 (some .long) :: tr_T) r_X8_seed (va_Pc [.ref (tr_ad w 0), .long tv900] (tr_Wo tr_M w h)) (tr_Ql tr_M w r0 h0) 0 0 (tr_R tr_M w) := by
  refine tr_start (by decide) (Nat.le_refl _) ?_
  intro p e s m args below meth c C hr hlocks hargs hP
  have hx := C.1
  have hb := C.2.1
  have hS : va_S (tr_R tr_M w) s.heap s.heap [] := va_S.rf
  have hl := lv_entry ([.ref (tr_ad w 0), .long tv900]) (n := 5) (Nat.le_of_ble_eq_true rfl)
  rw [lg_entry_eq]
  generalize (lg_sl ([.ref (tr_ad w 0), .long tv900]) ++ List.replicate (5 - (lg_sl ([.ref (tr_ad w 0), .long tv900])).length) Slot.unset).toArray = ls at hl ⊢
  have hl : lv_has ls 5 [(0, .ref (tr_ad w 0)), (1, .long tv900)] := hl
  replace hk : tr_ok (f_X8_seed tv900 h) (fun o => o = (r0, h0)) := ⟨_, hk, rfl⟩
  unfold f_X8_seed at hk
  refine lv_aload_n hx hb dX8_seed_0 rfl (lv_at hl 0 rfl) ?_
  refine lv_iconst (v := 0) hx hb dX8_seed_1 (by decide) ?_
  refine pf_X8_59 C hP hS dX8_seed_2 (fun H locs hP hS => ?_)
  refine tr_th hk hP (fun th1 hk hP => ?_)
  refine lv_aload_n hx hb dX8_seed_5 rfl (lv_at hl 0 rfl) ?_
  refine gf_X8_251 C hP dX8_seed_6 ?_
  refine tr_tl hk (fun tv2 hk => ?_)
  refine lv_lstore_n (lv' := [(3, .long tv2), (0, .ref (tr_ad w 0)), (1, .long tv900)]) hx hb dX8_seed_9 rfl hl (by decide) rfl (fun ls hl => ?_)
  refine lv_aload_n hx hb dX8_seed_10 rfl (lv_at hl 1 rfl) ?_
  refine lv_lload_n hx hb dX8_seed_11 rfl (lv_at hl 2 rfl) ?_
  refine pf_X8_251 C hP hS dX8_seed_12 (fun H locs hP hS => ?_)
  refine tr_th hk hP (fun th3 hk hP => ?_)
  refine lv_lload_n hx hb dX8_seed_15 rfl (lv_at hl 0 rfl) ?_
  exact tr_lret C hP hS hr hlocks (tr_okS (P := (fun o => o = (r0, h0))) hk) dX8_seed_16
abbrev r_X8_draw : Room := { frames := 0, cells := 0, slots := 0, locals := 0 }
set_option maxHeartbeats 4000000 in
set_option maxRecDepth 100000 in
theorem c_X8_draw (l : Launch) (w : tr_E) (tv900 : Int32) (tv901 : Int32) (tv902 : Int32) (h : tr_H) (h0 : tr_H) (hk : f_X8_draw tv900 tv901 tv902 h = some h0) : Met l yX8_draw (Cond.code yX8_draw cX8_draw 4 none :: tr_T) r_X8_draw (va_Pc [.ref (tr_ad w 0), .int tv900, .int tv901, .int tv902] (tr_Wo tr_M w h)) (tr_Qv tr_M w h0) 0 0 (tr_R tr_M w) := by
  refine tr_start (by decide) (Nat.le_refl _) ?_
  intro p e s m args below meth c C hr hlocks hargs hP
  have hx := C.1
  have hb := C.2.1
  have hS : va_S (tr_R tr_M w) s.heap s.heap [] := va_S.rf
  have hl := lv_entry ([.ref (tr_ad w 0), .int tv900, .int tv901, .int tv902]) (n := 4) (Nat.le_of_ble_eq_true rfl)
  rw [lg_entry_eq]
  generalize (lg_sl ([.ref (tr_ad w 0), .int tv900, .int tv901, .int tv902]) ++ List.replicate (4 - (lg_sl ([.ref (tr_ad w 0), .int tv900, .int tv901, .int tv902])).length) Slot.unset).toArray = ls at hl ⊢
  have hl : lv_has ls 4 [(0, .ref (tr_ad w 0)), (1, .int tv900), (2, .int tv901), (3, .int tv902)] := hl
  replace hk : tr_ok (f_X8_draw tv900 tv901 tv902 h) (fun o => o = h0) := ⟨_, hk, rfl⟩
  unfold f_X8_draw at hk
  refine lv_iload_n hx hb dX8_draw_0 rfl (lv_at hl 1 rfl) ?_
  refine lv_aload_n hx hb dX8_draw_1 rfl (lv_at hl 0 rfl) ?_
  refine gf_X8_19 C hP dX8_draw_2 ?_
  refine lv_iconst (v := 0) hx hb dX8_draw_5 (by decide) ?_
  refine tr_ial C hP (ar_M_4 w) (show ¬ ((0 : Int32) < 0 ∨ 37 ≤ (0 : Int32).toNatClampNeg) by decide) dX8_draw_6 ?_
  refine lv_icmp_ge (tgt := 46) hx hb dX8_draw_7 (by decide) (fun tc1 => ?_) (fun tc1 => ?_)
  · replace hk := tr_ift hk tc1
    exact tr_vret C hP hS hr hlocks (tr_okS (P := (fun o => o = h0)) hk) dX8_draw_46
  · replace hk := tr_iff hk tc1
    refine lv_iload_n hx hb dX8_draw_10 rfl (lv_at hl 2 rfl) ?_
    refine lv_aload_n hx hb dX8_draw_11 rfl (lv_at hl 0 rfl) ?_
    refine gf_X8_19 C hP dX8_draw_12 ?_
    refine lv_iconst (v := 0) hx hb dX8_draw_15 (by decide) ?_
    refine tr_ial C hP (ar_M_4 w) (show ¬ ((0 : Int32) < 0 ∨ 37 ≤ (0 : Int32).toNatClampNeg) by decide) dX8_draw_16 ?_
    refine lv_icmp_ge (tgt := 46) hx hb dX8_draw_17 (by decide) (fun tc2 => ?_) (fun tc2 => ?_)
    · replace hk := tr_ift hk tc2
      exact tr_vret C hP hS hr hlocks (tr_okS (P := (fun o => o = h0)) hk) dX8_draw_46
    · replace hk := tr_iff hk tc2
      refine lv_aload_n hx hb dX8_draw_20 rfl (lv_at hl 0 rfl) ?_
      refine gf_X8_19 C hP dX8_draw_21 ?_
      refine lv_iconst (v := 1) hx hb dX8_draw_24 (by decide) ?_
      refine lv_bipush (v := 6) hx hb dX8_draw_25 (by decide) ?_
      refine lv_iload_n hx hb dX8_draw_27 rfl (lv_at hl 1 rfl) ?_
      refine lv_imul hx hb dX8_draw_28 ?_
      refine lv_iadd hx hb dX8_draw_29 ?_
      refine lv_iload_n hx hb dX8_draw_30 rfl (lv_at hl 2 rfl) ?_
      refine lv_iadd hx hb dX8_draw_31 ?_
      refine lv_iload_n hx hb dX8_draw_32 rfl (lv_at hl 3 rfl) ?_
      refine lv_bipush (v := 10) hx hb dX8_draw_33 (by decide) ?_
      refine lv_icmp_ne (tgt := 42) hx hb dX8_draw_35 (by decide) (fun tc3 => ?_) (fun tc3 => ?_)
      · replace hk := tr_iff hk tc3
        refine lv_iload_n hx hb dX8_draw_42 rfl (lv_at hl 3 rfl) ?_
        refine lv_iconst (v := 1) hx hb dX8_draw_43 (by decide) ?_
        refine lv_iadd hx hb dX8_draw_44 ?_
        obtain ⟨tv4, etv4, hk⟩ := tr_okd hk
        rw [← etv4]
        obtain ⟨tg5, hk⟩ := tr_okg hk
        refine tr_ias C hP hS (ar_M_4 w) tg5 dX8_draw_45 (fun H locs hP hS => ?_)
        refine tr_th hk hP (fun th6 hk hP => ?_)
        exact tr_vret C hP hS hr hlocks (tr_okS (P := (fun o => o = h0)) hk) dX8_draw_46
      · replace hk := tr_ift hk tc3
        refine lv_iconst (v := 0) hx hb dX8_draw_38 (by decide) ?_
        refine lv_goto (tgt := 45) hx hb dX8_draw_39 (by decide) ?_
        obtain ⟨tv7, etv7, hk⟩ := tr_okd hk
        rw [← etv7]
        obtain ⟨tg8, hk⟩ := tr_okg hk
        refine tr_ias C hP hS (ar_M_4 w) tg8 dX8_draw_45 (fun H locs hP hS => ?_)
        refine tr_th hk hP (fun th9 hk hP => ?_)
        exact tr_vret C hP hS hr hlocks (tr_okS (P := (fun o => o = h0)) hk) dX8_draw_46
abbrev r_X8_drawn : Room := { frames := 5, cells := 0, slots := 0, locals := 120 }
set_option maxHeartbeats 4000000 in
set_option maxRecDepth 100000 in
theorem c_X8_drawn (l : Launch) (w : tr_E) (tv900 : Int32) (h : tr_H) (r0 : Int32) (h0 : tr_H) (hk : f_X8_drawn tv900 h = some (r0, h0)) : Met l yX8_drawn (Cond.code yX8_drawn cX8_drawn 5 (some .int) :: tr_T) r_X8_drawn (va_Pc [.ref (tr_ad w 0), .int tv900] (tr_Wo tr_M w h)) (tr_Qi tr_M w r0 h0) 0 0 (tr_R tr_M w) := by
  refine tr_start (by decide) (Nat.le_refl _) ?_
  intro p e s m args below meth c C hr hlocks hargs hP
  have hx := C.1
  have hb := C.2.1
  have hS : va_S (tr_R tr_M w) s.heap s.heap [] := va_S.rf
  have hl := lv_entry ([.ref (tr_ad w 0), .int tv900]) (n := 5) (Nat.le_of_ble_eq_true rfl)
  rw [lg_entry_eq]
  generalize (lg_sl ([.ref (tr_ad w 0), .int tv900]) ++ List.replicate (5 - (lg_sl ([.ref (tr_ad w 0), .int tv900])).length) Slot.unset).toArray = ls at hl ⊢
  have hl : lv_has ls 5 [(0, .ref (tr_ad w 0)), (1, .int tv900)] := hl
  replace hk : tr_ok (f_X8_drawn tv900 h) (fun o => o = (r0, h0)) := ⟨_, hk, rfl⟩
  unfold f_X8_drawn at hk
  refine lv_aload_n hx hb dX8_drawn_0 rfl (lv_at hl 0 rfl) ?_
  refine lv_iconst (v := 0) hx hb dX8_drawn_1 (by decide) ?_
  refine pf_X8_59 C hP hS dX8_drawn_2 (fun H locs hP hS => ?_)
  refine tr_th hk hP (fun th1 hk hP => ?_)
  refine lv_iload_n hx hb dX8_drawn_5 rfl (lv_at hl 1 rfl) ?_
  refine lv_i2l hx hb dX8_drawn_6 rfl ?_
  refine lv_lconst (v := 1) hx hb dX8_drawn_7 (by decide) ?_
  refine lv_ldc2 (v := 20) hx hb C.2.2.2.1 (C.2.2.2.2.1 _ mc_X8_181) dX8_drawn_8 ?_
  obtain ⟨tv3, tq2, hk⟩ := tr_okb hk
  refine tr_csi (As := [.long ((tv900 : Int32).toInt64), .long 1, .long 20]) (rest := []) C hP hS hl (c_X8_in l w ((tv900 : Int32).toInt64) 1 20 th1 tv3 tq2) mz_X8_in ml_X8_63 rfl rfl ⟨Nat.le_of_ble_eq_true rfl, Nat.le_of_ble_eq_true rfl⟩ rfl rfl (Nat.le_of_ble_eq_true rfl) ⟨Nat.le_refl _, Nat.le_refl _⟩ dX8_drawn_11 (fun H locs hP hS => ?_)
  refine lv_if_ne (tgt := 20) hx hb dX8_drawn_14 (by decide) (fun tc4 => ?_) (fun tc4 => ?_)
  · replace hk := tr_iff hk tc4
    refine lv_aload_n hx hb dX8_drawn_20 rfl (lv_at hl 0 rfl) ?_
    obtain ⟨th6, tq5, hk⟩ := tr_okb hk
    refine tr_cvv (As := []) (rest := []) C hP hS hl (c_X8_begin l w th1 th6 tq5) mz_X8_begin ml_X8_204 (by decide) rfl rfl rfl rfl ⟨Nat.le_of_ble_eq_true rfl, Nat.le_of_ble_eq_true rfl⟩ rfl rfl (Nat.le_of_ble_eq_true rfl) ⟨Nat.le_refl _, Nat.le_refl _⟩ dX8_drawn_21 (fun H locs hP hS => ?_)
    refine lv_iconst (v := 0) hx hb dX8_drawn_24 (by decide) ?_
    refine lv_istore_n (lv' := [(2, .int 0), (0, .ref (tr_ad w 0)), (1, .int tv900)]) hx hb dX8_drawn_25 rfl hl (by decide) rfl (fun ls hl => ?_)
    refine lv_iconst (v := 0) hx hb dX8_drawn_26 (by decide) ?_
    refine lv_istore_n (lv' := [(3, .int 0), (2, .int 0), (0, .ref (tr_ad w 0)), (1, .int tv900)]) hx hb dX8_drawn_27 rfl hl (by decide) rfl (fun ls hl => ?_)
    have j121_28 : ∀ (tv7 : Int32) (th8 : tr_H), tr_ok (f_X8_drawn_E121 tv7 th8) (fun o => o = (r0, h0)) → tr_Wd p l e r_X8_drawn s m args below meth c (MQ below (tr_Qi tr_M w r0 h0) args s 0 0 (tr_R tr_M w)) tr_M w 5 121 [(2, .int tv7)] [] th8 := by
      intro tv7 th8 hk H locs ls hP hS hl
      unfold f_X8_drawn_E121 at hk
      refine lv_iload_n hx hb dX8_drawn_121 rfl (lv_at hl 0 rfl) ?_
      exact tr_iret C hP hS hr hlocks (tr_okS (P := (fun o => o = (r0, h0))) hk) dX8_drawn_122
    refine tr_loop (fun q => tr_Wd p l e r_X8_drawn s m args below meth c (MQ below (tr_Qi tr_M w r0 h0) args s 0 0 (tr_R tr_M w)) tr_M w 5 28 [(0, .ref (tr_ad w 0)), (1, .int tv900), (2, .int q.1), (3, .int q.2.1)] [] q.2.2) hk ?_ _ _ _ hP hS (lv_sub hl [2, 3, 1, 0] rfl)
    intro P28 hin28 hex28 q hk
    obtain ⟨tv9, tv10, th11⟩ := q
    intro H locs ls hP hS hl
    replace hk : tr_ok (f_X8_drawn_L28 tv900 tv9 tv10 th11) P28 := hk
    unfold f_X8_drawn_L28 at hk
    refine lv_iload_n hx hb dX8_drawn_28 rfl (lv_at hl 3 rfl) ?_
    refine lv_iload_n hx hb dX8_drawn_29 rfl (lv_at hl 1 rfl) ?_
    refine lv_icmp_ge (tgt := 121) hx hb dX8_drawn_30 (by decide) (fun tc12 => ?_) (fun tc12 => ?_)
    · replace hk := tr_ift hk tc12
      replace hk := hex28 _ (tr_okS hk)
      replace hk : tr_ok (f_X8_drawn_E121 tv9 th11) (fun o => o = (r0, h0)) := hk
      exact j121_28 tv9 th11 hk _ _ _ hP hS (lv_sub hl [2] rfl)
    · replace hk := tr_iff hk tc12
      refine lv_aload_n hx hb dX8_drawn_33 rfl (lv_at hl 0 rfl) ?_
      refine lv_aload_n hx hb dX8_drawn_34 rfl (lv_at hl 0 rfl) ?_
      refine gf_X8_251 C hP dX8_drawn_35 ?_
      refine lv_ldc2 (v := 6364136223846793005) hx hb C.2.2.2.1 (C.2.2.2.2.1 _ mc_X8_254) dX8_drawn_38 ?_
      refine lv_lmul hx hb dX8_drawn_41 ?_
      refine lv_ldc2 (v := 1442695040888963407) hx hb C.2.2.2.1 (C.2.2.2.2.1 _ mc_X8_256) dX8_drawn_42 ?_
      refine lv_ladd hx hb dX8_drawn_45 ?_
      refine pf_X8_251 C hP hS dX8_drawn_46 (fun H locs hP hS => ?_)
      refine tr_th hk hP (fun th13 hk hP => ?_)
      refine lv_aload_n hx hb dX8_drawn_49 rfl (lv_at hl 0 rfl) ?_
      refine gf_X8_251 C hP dX8_drawn_50 ?_
      refine lv_bipush (v := 33) hx hb dX8_drawn_53 (by decide) ?_
      refine lv_lushr hx hb dX8_drawn_55 rfl ?_
      refine lv_l2i hx hb dX8_drawn_56 rfl ?_
      refine tr_ti hk (fun tv14 hk => ?_)
      refine lv_istore (lv' := [(4, .int tv14), (0, .ref (tr_ad w 0)), (1, .int tv900), (2, .int tv9), (3, .int tv10)]) hx hb dX8_drawn_57 hl (by decide) rfl (fun ls hl => ?_)
      refine lv_aload_n hx hb dX8_drawn_59 rfl (lv_at hl 1 rfl) ?_
      refine lv_iload hx hb dX8_drawn_60 (lv_at hl 0 rfl) ?_
      refine lv_bipush (v := 6) hx hb dX8_drawn_62 (by decide) ?_
      refine lv_irem hx hb dX8_drawn_64 (by decide) ?_
      refine lv_iload hx hb dX8_drawn_65 (lv_at hl 0 rfl) ?_
      refine lv_bipush (v := 8) hx hb dX8_drawn_67 (by decide) ?_
      refine lv_idiv hx hb dX8_drawn_69 (by decide) ?_
      refine lv_bipush (v := 6) hx hb dX8_drawn_70 (by decide) ?_
      refine lv_irem hx hb dX8_drawn_72 (by decide) ?_
      refine lv_iload hx hb dX8_drawn_73 (lv_at hl 0 rfl) ?_
      refine lv_bipush (v := 64) hx hb dX8_drawn_75 (by decide) ?_
      refine lv_idiv hx hb dX8_drawn_77 (by decide) ?_
      refine lv_bipush (v := 11) hx hb dX8_drawn_78 (by decide) ?_
      refine lv_irem hx hb dX8_drawn_80 (by decide) ?_
      obtain ⟨th16, tq15, hk⟩ := tr_okb hk
      refine tr_cvv (As := [.int (tv14 - tv14 / 6 * 6), .int ((tv14 / 8) - (tv14 / 8) / 6 * 6), .int ((tv14 / 64) - (tv14 / 64) / 11 * 11)]) (rest := []) C hP hS hl (c_X8_draw l w (tv14 - tv14 / 6 * 6) ((tv14 / 8) - (tv14 / 8) / 6 * 6) ((tv14 / 64) - (tv14 / 64) / 11 * 11) th13 th16 tq15) mz_X8_draw ml_X8_258 (by decide) rfl rfl rfl rfl ⟨Nat.le_of_ble_eq_true rfl, Nat.le_of_ble_eq_true rfl⟩ rfl rfl (Nat.le_of_ble_eq_true rfl) ⟨Nat.le_refl _, Nat.le_refl _⟩ dX8_drawn_81 (fun H locs hP hS => ?_)
      refine lv_aload_n hx hb dX8_drawn_84 rfl (lv_at hl 1 rfl) ?_
      refine lv_aload_n hx hb dX8_drawn_85 rfl (lv_at hl 1 rfl) ?_
      refine gf_X8_19 C hP dX8_drawn_86 ?_
      obtain ⟨th18, tq17, hk⟩ := tr_okb hk
      refine tr_cvv (As := [.ref (tr_ad w 4)]) (rest := []) C hP hS hl (c_X8_find l w 4 tr_pg_4 th16 th18 tq17) mz_X8_find ml_X8_146 (by decide) rfl rfl rfl rfl ⟨Nat.le_of_ble_eq_true rfl, Nat.le_of_ble_eq_true rfl⟩ rfl rfl (Nat.le_of_ble_eq_true rfl) ⟨Nat.le_refl _, Nat.le_refl _⟩ dX8_drawn_89 (fun H locs hP hS => ?_)
      refine lv_iload_n hx hb dX8_drawn_92 rfl (lv_at hl 3 rfl) ?_
      refine lv_aload_n hx hb dX8_drawn_93 rfl (lv_at hl 1 rfl) ?_
      refine gf_X8_116 C hP dX8_drawn_94 ?_
      refine lv_if_ne (tgt := 104) hx hb dX8_drawn_97 (by decide) (fun tc19 => ?_) (fun tc19 => ?_)
      · replace hk := tr_iff hk tc19
        refine lv_aload_n hx hb dX8_drawn_104 rfl (lv_at hl 1 rfl) ?_
        refine gf_X8_119 C hP dX8_drawn_105 ?_
        refine lv_aload_n hx hb dX8_drawn_108 rfl (lv_at hl 1 rfl) ?_
        refine gf_X8_116 C hP dX8_drawn_109 ?_
        refine tr_ti hk (fun tv20 hk => ?_)
        obtain ⟨tg21, hk⟩ := tr_okn hk
        refine lv_idiv hx hb dX8_drawn_112 tg21 ?_
        refine lv_iadd hx hb dX8_drawn_113 ?_
        refine tr_ti hk (fun tv22 hk => ?_)
        refine lv_istore_n (lv' := [(2, .int tv22), (4, .int tv14), (0, .ref (tr_ad w 0)), (1, .int tv900), (3, .int tv10)]) hx hb dX8_drawn_114 rfl hl (by decide) rfl (fun ls hl => ?_)
        obtain ⟨tv23, etv23, hk⟩ := tr_okd hk
        refine lv_iinc (v := tv23) (lv' := [(3, .int tv23), (2, .int tv22), (4, .int tv14), (0, .ref (tr_ad w 0)), (1, .int tv900)]) hx hb dX8_drawn_115 hl (k := 4) rfl (by rw [etv23]; rfl) (by decide) rfl (fun ls hl => ?_)
        refine lv_goto (tgt := 28) hx hb dX8_drawn_118 (by decide) ?_
        exact hin28 _ (tr_okS hk) _ _ _ hP hS (lv_sub hl [3, 4, 1, 0] rfl)
      · replace hk := tr_ift hk tc19
        refine lv_iconst (v := 0) hx hb dX8_drawn_100 (by decide) ?_
        refine lv_goto (tgt := 113) hx hb dX8_drawn_101 (by decide) ?_
        refine lv_iadd hx hb dX8_drawn_113 ?_
        refine tr_ti hk (fun tv24 hk => ?_)
        refine lv_istore_n (lv' := [(2, .int tv24), (4, .int tv14), (0, .ref (tr_ad w 0)), (1, .int tv900), (3, .int tv10)]) hx hb dX8_drawn_114 rfl hl (by decide) rfl (fun ls hl => ?_)
        obtain ⟨tv25, etv25, hk⟩ := tr_okd hk
        refine lv_iinc (v := tv25) (lv' := [(3, .int tv25), (2, .int tv24), (4, .int tv14), (0, .ref (tr_ad w 0)), (1, .int tv900)]) hx hb dX8_drawn_115 hl (k := 4) rfl (by rw [etv25]; rfl) (by decide) rfl (fun ls hl => ?_)
        refine lv_goto (tgt := 28) hx hb dX8_drawn_118 (by decide) ?_
        exact hin28 _ (tr_okS hk) _ _ _ hP hS (lv_sub hl [3, 4, 1, 0] rfl)
  · replace hk := tr_ift hk tc4
    refine lv_bipush (v := (-2)) hx hb dX8_drawn_17 (by decide) ?_
    exact tr_iret C hP hS hr hlocks (tr_okS (P := (fun o => o = (r0, h0))) hk) dX8_drawn_19
abbrev r_X8_keep : Room := { frames := 1, cells := 0, slots := 0, locals := 25 }
set_option maxHeartbeats 4000000 in
set_option maxRecDepth 100000 in
theorem c_X8_keep (l : Launch) (w : tr_E) (tv900 : Int32) (h : tr_H) (r0 : Int32) (h0 : tr_H) (hk : f_X8_keep tv900 h = some (r0, h0)) : Met l yX8_keep (Cond.code yX8_keep cX8_keep 3 (some .int) :: tr_T) r_X8_keep (va_Pc [.ref (tr_ad w 0), .int tv900] (tr_Wo tr_M w h)) (tr_Qi tr_M w r0 h0) 0 0 (tr_R tr_M w) := by
  refine tr_start (by decide) (Nat.le_refl _) ?_
  intro p e s m args below meth c C hr hlocks hargs hP
  have hx := C.1
  have hb := C.2.1
  have hS : va_S (tr_R tr_M w) s.heap s.heap [] := va_S.rf
  have hl := lv_entry ([.ref (tr_ad w 0), .int tv900]) (n := 3) (Nat.le_of_ble_eq_true rfl)
  rw [lg_entry_eq]
  generalize (lg_sl ([.ref (tr_ad w 0), .int tv900]) ++ List.replicate (3 - (lg_sl ([.ref (tr_ad w 0), .int tv900])).length) Slot.unset).toArray = ls at hl ⊢
  have hl : lv_has ls 3 [(0, .ref (tr_ad w 0)), (1, .int tv900)] := hl
  replace hk : tr_ok (f_X8_keep tv900 h) (fun o => o = (r0, h0)) := ⟨_, hk, rfl⟩
  unfold f_X8_keep at hk
  refine lv_aload_n hx hb dX8_keep_0 rfl (lv_at hl 0 rfl) ?_
  refine lv_iconst (v := 0) hx hb dX8_keep_1 (by decide) ?_
  refine pf_X8_59 C hP hS dX8_keep_2 (fun H locs hP hS => ?_)
  refine tr_th hk hP (fun th1 hk hP => ?_)
  refine lv_iload_n hx hb dX8_keep_5 rfl (lv_at hl 1 rfl) ?_
  refine lv_i2l hx hb dX8_keep_6 rfl ?_
  refine lv_lconst (v := 0) hx hb dX8_keep_7 (by decide) ?_
  refine lv_lconst (v := 1) hx hb dX8_keep_8 (by decide) ?_
  obtain ⟨tv3, tq2, hk⟩ := tr_okb hk
  refine tr_csi (As := [.long ((tv900 : Int32).toInt64), .long 0, .long 1]) (rest := []) C hP hS hl (c_X8_in l w ((tv900 : Int32).toInt64) 0 1 th1 tv3 tq2) mz_X8_in ml_X8_63 rfl rfl ⟨Nat.le_of_ble_eq_true rfl, Nat.le_of_ble_eq_true rfl⟩ rfl rfl (Nat.le_of_ble_eq_true rfl) ⟨Nat.le_refl _, Nat.le_refl _⟩ dX8_keep_9 (fun H locs hP hS => ?_)
  refine lv_if_ne (tgt := 17) hx hb dX8_keep_12 (by decide) (fun tc4 => ?_) (fun tc4 => ?_)
  · replace hk := tr_iff hk tc4
    refine lv_aload_n hx hb dX8_keep_17 rfl (lv_at hl 0 rfl) ?_
    refine gf_X8_28 C hP dX8_keep_18 ?_
    refine lv_iload_n hx hb dX8_keep_21 rfl (lv_at hl 1 rfl) ?_
    refine lv_iconst (v := 1) hx hb dX8_keep_22 (by decide) ?_
    obtain ⟨tg5, hk⟩ := tr_okg hk
    refine tr_zas C hP hS (ar_M_7 w) tg5 rfl dX8_keep_23 (fun H locs hP hS => ?_)
    refine tr_th hk hP (fun th6 hk hP => ?_)
    refine lv_iconst (v := 0) hx hb dX8_keep_24 (by decide) ?_
    refine lv_istore_n (lv' := [(2, .int 0), (0, .ref (tr_ad w 0)), (1, .int tv900)]) hx hb dX8_keep_25 rfl hl (by decide) rfl (fun ls hl => ?_)
    have j55_26 : ∀ (th7 : tr_H), tr_ok (f_X8_keep_E55 th7) (fun o => o = (r0, h0)) → tr_Wd p l e r_X8_keep s m args below meth c (MQ below (tr_Qi tr_M w r0 h0) args s 0 0 (tr_R tr_M w)) tr_M w 3 55 [(0, .ref (tr_ad w 0))] [] th7 := by
      intro th7 hk H locs ls hP hS hl
      unfold f_X8_keep_E55 at hk
      refine lv_aload_n hx hb dX8_keep_55 rfl (lv_at hl 0 rfl) ?_
      refine gf_X8_16 C hP dX8_keep_56 ?_
      obtain ⟨tv9, tq8, hk⟩ := tr_okb hk
      refine tr_csi (As := [.ref (tr_ad w 3)]) (rest := []) C hP hS hl (c_X8_waits l w 3 tr_pg_3 th7 tv9 tq8) mz_X8_waits ml_X8_105 rfl rfl ⟨Nat.le_of_ble_eq_true rfl, Nat.le_of_ble_eq_true rfl⟩ rfl rfl (Nat.le_of_ble_eq_true rfl) ⟨Nat.le_refl _, Nat.le_refl _⟩ dX8_keep_59 (fun H locs hP hS => ?_)
      exact tr_iret C hP hS hr hlocks (tr_okS (P := (fun o => o = (r0, h0))) hk) dX8_keep_62
    refine tr_loop (fun q => tr_Wd p l e r_X8_keep s m args below meth c (MQ below (tr_Qi tr_M w r0 h0) args s 0 0 (tr_R tr_M w)) tr_M w 3 26 [(0, .ref (tr_ad w 0)), (1, .int tv900), (2, .int q.1)] [] q.2) hk ?_ _ _ _ hP hS (lv_sub hl [1, 2, 0] rfl)
    intro P26 hin26 hex26 q hk
    obtain ⟨tv10, th11⟩ := q
    intro H locs ls hP hS hl
    replace hk : tr_ok (f_X8_keep_L26 tv900 tv10 th11) P26 := hk
    unfold f_X8_keep_L26 at hk
    refine lv_iload_n hx hb dX8_keep_26 rfl (lv_at hl 2 rfl) ?_
    refine lv_bipush (v := 37) hx hb dX8_keep_27 (by decide) ?_
    refine lv_icmp_ge (tgt := 55) hx hb dX8_keep_29 (by decide) (fun tc12 => ?_) (fun tc12 => ?_)
    · replace hk := tr_ift hk tc12
      replace hk := hex26 _ (tr_okS hk)
      replace hk : tr_ok (f_X8_keep_E55 th11) (fun o => o = (r0, h0)) := hk
      exact j55_26 th11 hk _ _ _ hP hS (lv_sub hl [0] rfl)
    · replace hk := tr_iff hk tc12
      refine lv_aload_n hx hb dX8_keep_32 rfl (lv_at hl 0 rfl) ?_
      refine gf_X8_25 C hP dX8_keep_33 ?_
      refine lv_bipush (v := 37) hx hb dX8_keep_36 (by decide) ?_
      refine lv_iload_n hx hb dX8_keep_38 rfl (lv_at hl 1 rfl) ?_
      refine lv_imul hx hb dX8_keep_39 ?_
      refine lv_iload_n hx hb dX8_keep_40 rfl (lv_at hl 2 rfl) ?_
      refine lv_iadd hx hb dX8_keep_41 ?_
      refine lv_aload_n hx hb dX8_keep_42 rfl (lv_at hl 0 rfl) ?_
      refine gf_X8_16 C hP dX8_keep_43 ?_
      refine lv_iload_n hx hb dX8_keep_46 rfl (lv_at hl 2 rfl) ?_
      obtain ⟨tg13, hk⟩ := tr_okg hk
      refine tr_ial C hP (ar_M_3 w) tg13 dX8_keep_47 ?_
      obtain ⟨tv14, etv14, hk⟩ := tr_okd hk
      rw [← etv14]
      obtain ⟨tg15, hk⟩ := tr_okg hk
      refine tr_ias C hP hS (ar_M_6 w) tg15 dX8_keep_48 (fun H locs hP hS => ?_)
      refine tr_th hk hP (fun th16 hk hP => ?_)
      obtain ⟨tv17, etv17, hk⟩ := tr_okd hk
      refine lv_iinc (v := tv17) (lv' := [(2, .int tv17), (0, .ref (tr_ad w 0)), (1, .int tv900)]) hx hb dX8_keep_49 hl (k := 2) rfl (by rw [etv17]; rfl) (by decide) rfl (fun ls hl => ?_)
      refine lv_goto (tgt := 26) hx hb dX8_keep_52 (by decide) ?_
      exact hin26 _ (tr_okS hk) _ _ _ hP hS (lv_sub hl [1, 2, 0] rfl)
  · replace hk := tr_ift hk tc4
    refine lv_iconst (v := (-1)) hx hb dX8_keep_15 (by decide) ?_
    exact tr_iret C hP hS hr hlocks (tr_okS (P := (fun o => o = (r0, h0))) hk) dX8_keep_16
abbrev r_X8_again : Room := { frames := 1, cells := 0, slots := 0, locals := 25 }
set_option maxHeartbeats 4000000 in
set_option maxRecDepth 100000 in
theorem c_X8_again (l : Launch) (w : tr_E) (tv900 : Int32) (h : tr_H) (r0 : Int32) (h0 : tr_H) (hk : f_X8_again tv900 h = some (r0, h0)) : Met l yX8_again (Cond.code yX8_again cX8_again 3 (some .int) :: tr_T) r_X8_again (va_Pc [.ref (tr_ad w 0), .int tv900] (tr_Wo tr_M w h)) (tr_Qi tr_M w r0 h0) 0 0 (tr_R tr_M w) := by
  refine tr_start (by decide) (Nat.le_refl _) ?_
  intro p e s m args below meth c C hr hlocks hargs hP
  have hx := C.1
  have hb := C.2.1
  have hS : va_S (tr_R tr_M w) s.heap s.heap [] := va_S.rf
  have hl := lv_entry ([.ref (tr_ad w 0), .int tv900]) (n := 3) (Nat.le_of_ble_eq_true rfl)
  rw [lg_entry_eq]
  generalize (lg_sl ([.ref (tr_ad w 0), .int tv900]) ++ List.replicate (3 - (lg_sl ([.ref (tr_ad w 0), .int tv900])).length) Slot.unset).toArray = ls at hl ⊢
  have hl : lv_has ls 3 [(0, .ref (tr_ad w 0)), (1, .int tv900)] := hl
  replace hk : tr_ok (f_X8_again tv900 h) (fun o => o = (r0, h0)) := ⟨_, hk, rfl⟩
  unfold f_X8_again at hk
  refine lv_aload_n hx hb dX8_again_0 rfl (lv_at hl 0 rfl) ?_
  refine lv_iconst (v := 0) hx hb dX8_again_1 (by decide) ?_
  refine pf_X8_59 C hP hS dX8_again_2 (fun H locs hP hS => ?_)
  refine tr_th hk hP (fun th1 hk hP => ?_)
  refine lv_iload_n hx hb dX8_again_5 rfl (lv_at hl 1 rfl) ?_
  refine lv_i2l hx hb dX8_again_6 rfl ?_
  refine lv_lconst (v := 0) hx hb dX8_again_7 (by decide) ?_
  refine lv_lconst (v := 1) hx hb dX8_again_8 (by decide) ?_
  obtain ⟨tv3, tq2, hk⟩ := tr_okb hk
  refine tr_csi (As := [.long ((tv900 : Int32).toInt64), .long 0, .long 1]) (rest := []) C hP hS hl (c_X8_in l w ((tv900 : Int32).toInt64) 0 1 th1 tv3 tq2) mz_X8_in ml_X8_63 rfl rfl ⟨Nat.le_of_ble_eq_true rfl, Nat.le_of_ble_eq_true rfl⟩ rfl rfl (Nat.le_of_ble_eq_true rfl) ⟨Nat.le_refl _, Nat.le_refl _⟩ dX8_again_9 (fun H locs hP hS => ?_)
  refine lv_if_ne (tgt := 17) hx hb dX8_again_12 (by decide) (fun tc4 => ?_) (fun tc4 => ?_)
  · replace hk := tr_iff hk tc4
    refine lv_aload_n hx hb dX8_again_17 rfl (lv_at hl 0 rfl) ?_
    refine gf_X8_28 C hP dX8_again_18 ?_
    refine lv_iload_n hx hb dX8_again_21 rfl (lv_at hl 1 rfl) ?_
    obtain ⟨tg5, hk⟩ := tr_okg hk
    refine tr_zal C hP (ar_M_7 w) tg5 dX8_again_22 ?_
    refine lv_if_ne (tgt := 29) hx hb dX8_again_23 (by decide) (fun tc6 => ?_) (fun tc6 => ?_)
    · replace hk := tr_iff hk tc6
      refine lv_iconst (v := 0) hx hb dX8_again_29 (by decide) ?_
      refine lv_istore_n (lv' := [(2, .int 0), (0, .ref (tr_ad w 0)), (1, .int tv900)]) hx hb dX8_again_30 rfl hl (by decide) rfl (fun ls hl => ?_)
      have j60_31 : ∀ (th7 : tr_H), tr_ok (f_X8_again_E60 th7) (fun o => o = (r0, h0)) → tr_Wd p l e r_X8_again s m args below meth c (MQ below (tr_Qi tr_M w r0 h0) args s 0 0 (tr_R tr_M w)) tr_M w 3 60 [(0, .ref (tr_ad w 0))] [] th7 := by
        intro th7 hk H locs ls hP hS hl
        unfold f_X8_again_E60 at hk
        refine lv_aload_n hx hb dX8_again_60 rfl (lv_at hl 0 rfl) ?_
        refine lv_iconst (v := 0) hx hb dX8_again_61 (by decide) ?_
        refine pf_X8_102 C hP hS dX8_again_62 (fun H locs hP hS => ?_)
        refine tr_th hk hP (fun th8 hk hP => ?_)
        refine lv_aload_n hx hb dX8_again_65 rfl (lv_at hl 0 rfl) ?_
        refine gf_X8_16 C hP dX8_again_66 ?_
        obtain ⟨tv10, tq9, hk⟩ := tr_okb hk
        refine tr_csi (As := [.ref (tr_ad w 3)]) (rest := []) C hP hS hl (c_X8_waits l w 3 tr_pg_3 th8 tv10 tq9) mz_X8_waits ml_X8_105 rfl rfl ⟨Nat.le_of_ble_eq_true rfl, Nat.le_of_ble_eq_true rfl⟩ rfl rfl (Nat.le_of_ble_eq_true rfl) ⟨Nat.le_refl _, Nat.le_refl _⟩ dX8_again_69 (fun H locs hP hS => ?_)
        exact tr_iret C hP hS hr hlocks (tr_okS (P := (fun o => o = (r0, h0))) hk) dX8_again_72
      refine tr_loop (fun q => tr_Wd p l e r_X8_again s m args below meth c (MQ below (tr_Qi tr_M w r0 h0) args s 0 0 (tr_R tr_M w)) tr_M w 3 31 [(0, .ref (tr_ad w 0)), (1, .int tv900), (2, .int q.1)] [] q.2) hk ?_ _ _ _ hP hS (lv_sub hl [1, 2, 0] rfl)
      intro P31 hin31 hex31 q hk
      obtain ⟨tv11, th12⟩ := q
      intro H locs ls hP hS hl
      replace hk : tr_ok (f_X8_again_L31 tv900 tv11 th12) P31 := hk
      unfold f_X8_again_L31 at hk
      refine lv_iload_n hx hb dX8_again_31 rfl (lv_at hl 2 rfl) ?_
      refine lv_bipush (v := 37) hx hb dX8_again_32 (by decide) ?_
      refine lv_icmp_ge (tgt := 60) hx hb dX8_again_34 (by decide) (fun tc13 => ?_) (fun tc13 => ?_)
      · replace hk := tr_ift hk tc13
        replace hk := hex31 _ (tr_okS hk)
        replace hk : tr_ok (f_X8_again_E60 th12) (fun o => o = (r0, h0)) := hk
        exact j60_31 th12 hk _ _ _ hP hS (lv_sub hl [0] rfl)
      · replace hk := tr_iff hk tc13
        refine lv_aload_n hx hb dX8_again_37 rfl (lv_at hl 0 rfl) ?_
        refine gf_X8_16 C hP dX8_again_38 ?_
        refine lv_iload_n hx hb dX8_again_41 rfl (lv_at hl 2 rfl) ?_
        refine lv_aload_n hx hb dX8_again_42 rfl (lv_at hl 0 rfl) ?_
        refine gf_X8_25 C hP dX8_again_43 ?_
        refine lv_bipush (v := 37) hx hb dX8_again_46 (by decide) ?_
        refine lv_iload_n hx hb dX8_again_48 rfl (lv_at hl 1 rfl) ?_
        refine lv_imul hx hb dX8_again_49 ?_
        refine lv_iload_n hx hb dX8_again_50 rfl (lv_at hl 2 rfl) ?_
        refine lv_iadd hx hb dX8_again_51 ?_
        refine tr_ti hk (fun tv14 hk => ?_)
        obtain ⟨tg15, hk⟩ := tr_okg hk
        refine tr_ial C hP (ar_M_6 w) tg15 dX8_again_52 ?_
        obtain ⟨tg16, hk⟩ := tr_okg hk
        refine tr_ias C hP hS (ar_M_3 w) tg16 dX8_again_53 (fun H locs hP hS => ?_)
        refine tr_th hk hP (fun th17 hk hP => ?_)
        obtain ⟨tv18, etv18, hk⟩ := tr_okd hk
        refine lv_iinc (v := tv18) (lv' := [(2, .int tv18), (0, .ref (tr_ad w 0)), (1, .int tv900)]) hx hb dX8_again_54 hl (k := 2) rfl (by rw [etv18]; rfl) (by decide) rfl (fun ls hl => ?_)
        refine lv_goto (tgt := 31) hx hb dX8_again_57 (by decide) ?_
        exact hin31 _ (tr_okS hk) _ _ _ hP hS (lv_sub hl [1, 2, 0] rfl)
    · replace hk := tr_ift hk tc6
      refine lv_bipush (v := (-3)) hx hb dX8_again_26 (by decide) ?_
      exact tr_iret C hP hS hr hlocks (tr_okS (P := (fun o => o = (r0, h0))) hk) dX8_again_28
  · replace hk := tr_ift hk tc4
    refine lv_iconst (v := (-1)) hx hb dX8_again_15 (by decide) ?_
    exact tr_iret C hP hS hr hlocks (tr_okS (P := (fun o => o = (r0, h0))) hk) dX8_again_16
