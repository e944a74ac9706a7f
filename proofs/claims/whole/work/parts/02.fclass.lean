noncomputable def f_J7_fill_53178_E20 (th2 : tr_H) : Option tr_H :=
  some th2
noncomputable def f_J7_fill_53178_L5 (tv1 : Int32) (tj1 : Nat) (tn1 : Nat) (tv901 : Int32) (tv3 : Int32) (th4 : tr_H) : Option ((Int32 × tr_H) ⊕ tr_H) :=
  if tv1 ≤ tv3 then
  (some (.inr th4))
  else
  (tr_gd tv3 tj1 <|
  tr_bd (tr_si th4 tn1 tv3.toNatClampNeg tv901) fun th7 =>
  tr_bd (tv3 + 1) fun tv8 =>
  some (.inl (tv8, th7)))
noncomputable def f_J7_fill_53178 (tn1 : Nat) (tj1 : Nat) (tv901 : Int32) (h : tr_H) : Option tr_H :=
  tr_bd (Int32.ofNat tj1) fun tv1 =>
  tr_bn (tr_lp (fun q => f_J7_fill_53178_L5 tv1 tj1 tn1 tv901 q.1 q.2) (0, h)) (fun q => f_J7_fill_53178_E20 q)
noncomputable def f_X2_of (tn0 : Nat) (tv900 : Int32) (tv901 : Int32) (h : tr_H) : Option Int32 :=
  if tv900 < 0 then
  (some (-9))
  else
  (if (h.1 tn0 1) ≤ tv900 then
  (some (-9))
  else
  (if tv901 < 0 then
  (some (-9))
  else
  (if tv901 < (h.1 tn0 1) then
  (tr_bd ((tv900 * 6) + tv901) fun tv5 =>
  tr_gd tv5 36 <|
  some (h.1 (tn0 + 1) tv5.toNatClampNeg))
  else
  (some (-9)))))
noncomputable def f_X0_settle_E114 (th4 : tr_H) : Option tr_H :=
  some th4
noncomputable def f_X0_settle_E108 (tv5 : Int32) (th8 : tr_H) : Option ((Int32 × tr_H) ⊕ tr_H) :=
  tr_bd (tv5 + 1) fun tv9 =>
  some (.inl (tv9, th8))
noncomputable def f_X0_settle_E102 (tv10 : Int32) (th13 : tr_H) : Option ((Int32 × tr_H) ⊕ tr_H) :=
  tr_bd (tv10 + 1) fun tv14 =>
  some (.inl (tv14, th13))
noncomputable def f_X0_settle_L38 (tn1 : Nat) (tv10 : Int32) (tv15 : Int32) (th16 : tr_H) : Option ((Int32 × tr_H) ⊕ tr_H) :=
  if (th16.1 tn1 1) ≤ tv15 then
  (some (.inr th16))
  else
  (tr_bn (f_X2_of tn1 tv10 tv15 th16) fun tv19 =>
  if tv19 = (-9) then
  (tr_bd (tv15 + 1) fun tv21 =>
  some (.inl (tv21, th16)))
  else
  (tr_gd tv15 6 <|
  tr_gd tv10 6 <|
  tr_gd tv15 6 <|
  tr_bd (tr_si th16 25 tv15.toNatClampNeg (tr_max (th16.1 25 tv15.toNatClampNeg) (((th16.1 25 tv10.toNatClampNeg) + tv19) - (th16.1 24 2)))) fun th25 =>
  tr_bd (tv15 + 1) fun tv26 =>
  some (.inl (tv26, th25))))
noncomputable def f_X0_settle_L26 (tn1 : Nat) (tv10 : Int32) (th11 : tr_H) : Option ((Int32 × tr_H) ⊕ tr_H) :=
  if (th11.1 tn1 1) ≤ tv10 then
  (some (.inr th11))
  else
  (tr_bn (tr_lp (fun q => f_X0_settle_L38 tn1 tv10 q.1 q.2) (0, th11)) (fun q => f_X0_settle_E102 tv10 q))
noncomputable def f_X0_settle_L15 (tn1 : Nat) (tv5 : Int32) (th6 : tr_H) : Option ((Int32 × tr_H) ⊕ tr_H) :=
  if (th6.1 tn1 1) ≤ tv5 then
  (some (.inr th6))
  else
  (tr_bn (tr_lp (fun q => f_X0_settle_L26 tn1 q.1 q.2) (0, th6)) (fun q => f_X0_settle_E108 tv5 q))
noncomputable def f_X0_settle (tn1 : Nat) (tv901 : Int32) (h : tr_H) : Option tr_H :=
  tr_bd (tr_si h 24 2 tv901) fun th1 =>
  tr_bn (f_J7_fill_53178 25 6 0 th1) fun th3 =>
  tr_bn (tr_lp (fun q => f_X0_settle_L15 tn1 q.1 q.2) (0, th3)) (fun q => f_X0_settle_E114 q)
noncomputable def f_X0_timeOf (tv900 : Int32) (h : tr_H) : Option Int32 :=
  if tv900 < 0 then
  (some 0)
  else
  (if 6 ≤ tv900 then
  (some 0)
  else
  (tr_gd tv900 6 <|
  some (h.1 25 tv900.toNatClampNeg)))
noncomputable def f_X0_spareOf (tn1 : Nat) (tv901 : Int32) (tv902 : Int32) (h : tr_H) : Option Int32 :=
  tr_bn (f_X0_timeOf tv902 h) fun tv2 =>
  tr_bn (f_X0_timeOf tv901 h) fun tv4 =>
  tr_bn (f_X2_of tn1 tv901 tv902 h) fun tv6 =>
  some (((tv2 + (h.1 24 2)) - tv4) - tv6)
noncomputable def f_X0_leastSpare_E73 (tv1 : Int32) : Option Int32 :=
  some tv1
noncomputable def f_X0_leastSpare_L7 (h : tr_H) (tn1 : Nat) (tv901 : Int32) (tv902 : Int32) (tv2 : Int32) (tv3 : Int32) : Option ((Int32 × Int32) ⊕ Int32) :=
  if (h.1 tn1 1) ≤ tv3 then
  (some (.inr tv2))
  else
  (tr_bd ((tv901 * 6) + tv3) fun tv5 =>
  tr_gd tv5 246 <|
  tr_bd (h.1 26 tv5.toNatClampNeg) fun tv7 =>
  if tv7 = 1000000 then
  (tr_bd (tv3 + 1) fun tv9 =>
  some (.inl (tv2, tv9)))
  else
  (tr_bn (f_X2_of tn1 tv3 tv902 h) fun tv11 =>
  if tv11 = (-9) then
  (tr_bd (tv3 + 1) fun tv13 =>
  some (.inl (tv2, tv13)))
  else
  (tr_bn (f_X0_spareOf tn1 tv3 tv902 h) fun tv15 =>
  tr_bd (tr_min tv2 (tv7 + tv15)) fun tv16 =>
  tr_bd (tv3 + 1) fun tv17 =>
  some (.inl (tv16, tv17)))))
noncomputable def f_X0_leastSpare (tn1 : Nat) (tv901 : Int32) (tv902 : Int32) (h : tr_H) : Option Int32 :=
  tr_bn (tr_lp (fun q => f_X0_leastSpare_L7 h tn1 tv901 tv902 q.1 q.2) (1000000, 0)) (fun q => f_X0_leastSpare_E73 q)
noncomputable def f_X0_spread_E101 (th2 : tr_H) : Option tr_H :=
  some th2
noncomputable def f_X0_spread_E95 (tv3 : Int32) (th7 : tr_H) : Option ((Int32 × tr_H) ⊕ tr_H) :=
  tr_bd (tv3 + 1) fun tv8 =>
  some (.inl (tv8, th7))
noncomputable def f_X0_spread_L56 (tn1 : Nat) (tv3 : Int32) (tv9 : Int32) (th10 : tr_H) : Option ((Int32 × tr_H) ⊕ tr_H) :=
  if (th10.1 tn1 1) ≤ tv9 then
  (some (.inr th10))
  else
  (tr_bn (f_X0_leastSpare tn1 (tv3 - 1) tv9 th10) fun tv13 =>
  tr_bd ((tv3 * 6) + tv9) fun tv14 =>
  tr_gd tv14 246 <|
  tr_bd (tr_si th10 26 tv14.toNatClampNeg tv13) fun th16 =>
  tr_bd (tv9 + 1) fun tv17 =>
  some (.inl (tv17, th16)))
noncomputable def f_X0_spread_L40 (tv902 : Int32) (tn1 : Nat) (tv3 : Int32) (th4 : tr_H) : Option ((Int32 × tr_H) ⊕ tr_H) :=
  if tv902 < tv3 then
  (some (.inr th4))
  else
  (if 40 < tv3 then
  (some (.inr th4))
  else
  (tr_bn (tr_lp (fun q => f_X0_spread_L56 tn1 tv3 q.1 q.2) (0, th4)) (fun q => f_X0_spread_E95 tv3 q)))
noncomputable def f_X0_spread_E37 (tv902 : Int32) (tn1 : Nat) (th1 : tr_H) : Option tr_H :=
  tr_bn (tr_lp (fun q => f_X0_spread_L40 tv902 tn1 q.1 q.2) (1, th1)) (fun q => f_X0_spread_E101 q)
noncomputable def f_X0_spread_L3 (tn1 : Nat) (tv901 : Int32) (tv18 : Int32) (th19 : tr_H) : Option ((Int32 × tr_H) ⊕ tr_H) :=
  if (th19.1 tn1 1) ≤ tv18 then
  (some (.inr th19))
  else
  (if tv18 = tv901 then
  (tr_gd tv18 246 <|
  tr_bd (tr_si th19 26 tv18.toNatClampNeg 0) fun th26 =>
  tr_bd (tv18 + 1) fun tv27 =>
  some (.inl (tv27, th26)))
  else
  (tr_gd tv18 246 <|
  tr_bd (tr_si th19 26 tv18.toNatClampNeg 1000000) fun th23 =>
  tr_bd (tv18 + 1) fun tv24 =>
  some (.inl (tv24, th23))))
noncomputable def f_X0_spread (tn1 : Nat) (tv901 : Int32) (tv902 : Int32) (h : tr_H) : Option tr_H :=
  tr_bn (tr_lp (fun q => f_X0_spread_L3 tn1 tv901 q.1 q.2) (0, h)) (fun q => f_X0_spread_E37 tv902 tn1 q)
noncomputable def f_X0_lateness (tv900 : Int32) (tv901 : Int32) (tv902 : Int32) (h : tr_H) : Option Int32 :=
  if tv901 < 0 then
  (some 0)
  else
  (if 6 ≤ tv901 then
  (some 0)
  else
  (if tv902 < 0 then
  (some 0)
  else
  (if tv902 ≤ 40 then
  (tr_bd ((tv902 * 6) + tv901) fun tv5 =>
  tr_gd tv5 246 <|
  some (tr_max 0 (tv900 - (h.1 26 tv5.toNatClampNeg))))
  else
  (some 0))))
noncomputable def f_X0_firstQuietRound_E54 : Option Int32 :=
  some (-9)
noncomputable def f_X0_firstQuietRound_E41 (tv1 : Int32) (tv3 : Int32) : Option (Int32 ⊕ (Unit ⊕ Int32)) :=
  if tv3 = 0 then
  (some (.inr (.inr tv1)))
  else
  (tr_bd (tv1 + 1) fun tv5 =>
  some (.inl tv5))
noncomputable def f_X0_firstQuietRound_L14 (tv901 : Int32) (tv900 : Int32) (tv1 : Int32) (h : tr_H) (tv6 : Int32) (tv7 : Int32) : Option ((Int32 × Int32) ⊕ Int32) :=
  if tv901 ≤ tv7 then
  (some (.inr tv6))
  else
  (tr_bn (f_X0_lateness tv900 tv7 tv1 h) fun tv10 =>
  tr_bd (tr_max tv6 tv10) fun tv11 =>
  tr_bd (tv7 + 1) fun tv12 =>
  some (.inl (tv11, tv12)))
noncomputable def f_X0_firstQuietRound_L2 (tv901 : Int32) (tv900 : Int32) (h : tr_H) (tv1 : Int32) : Option (Int32 ⊕ (Unit ⊕ Int32)) :=
  if 40 < tv1 then
  (some (.inr (.inl ())))
  else
  (tr_bn (tr_lp (fun q => f_X0_firstQuietRound_L14 tv901 tv900 tv1 h q.1 q.2) (0, 0)) (fun q => f_X0_firstQuietRound_E41 tv1 q))
noncomputable def f_X0_firstQuietRound (tv900 : Int32) (tv901 : Int32) (h : tr_H) : Option Int32 :=
  tr_bn (tr_lp (fun q => f_X0_firstQuietRound_L2 tv901 tv900 h q) 1) (fun q => Sum.elim (fun _ => f_X0_firstQuietRound_E54) (fun x => some x) q)
noncomputable def f_X1_forget (h : tr_H) : Option tr_H :=
  tr_bd (tr_si h 13 3 0) fun th1 =>
  some th1
noncomputable def f_X1_forgetFirst_E56 (th1 : tr_H) : Option tr_H :=
  tr_bd (tr_si th1 13 3 13) fun th2 =>
  some th2
noncomputable def f_X1_forgetFirst_L2 (tv3 : Int32) (th4 : tr_H) : Option ((Int32 × tr_H) ⊕ tr_H) :=
  if 14 ≤ tv3 then
  (some (.inr th4))
  else
  (tr_gd tv3 14 <|
  tr_bd (tv3 - 1) fun tv7 =>
  tr_gd tv7 14 <|
  tr_bd (tr_si th4 14 tv7.toNatClampNeg (th4.1 14 tv3.toNatClampNeg)) fun th9 =>
  tr_gd tv3 14 <|
  tr_bd (tv3 - 1) fun tv11 =>
  tr_gd tv11 14 <|
  tr_bd (tr_si th9 15 tv11.toNatClampNeg (th9.1 15 tv3.toNatClampNeg)) fun th13 =>
  tr_gd tv3 14 <|
  tr_bd (tv3 - 1) fun tv15 =>
  tr_gd tv15 14 <|
  tr_bd (tr_si th13 16 tv15.toNatClampNeg (th13.1 16 tv3.toNatClampNeg)) fun th17 =>
  tr_bd (tv3 + 1) fun tv18 =>
  some (.inl (tv18, th17)))
noncomputable def f_X1_forgetFirst (h : tr_H) : Option tr_H :=
  tr_bn (tr_lp (fun q => f_X1_forgetFirst_L2 q.1 q.2) (1, h)) (fun q => f_X1_forgetFirst_E56 q)
noncomputable def f_X1_add_J13 (tv900 : Int32) (tv901 : Int32) (tv902 : Int32) (th1 : tr_H) : Option tr_H :=
  if (th1.1 13 3) < 0 then
  (some th1)
  else
  (if (th1.1 13 3) < 14 then
  (tr_bd (th1.1 13 3) fun tv4 =>
  tr_gd tv4 14 <|
  tr_bd (tr_si th1 14 tv4.toNatClampNeg tv900) fun th6 =>
  tr_bd (th6.1 13 3) fun tv7 =>
  tr_gd tv7 14 <|
  tr_bd (tr_si th6 15 tv7.toNatClampNeg tv901) fun th9 =>
  tr_bd (th9.1 13 3) fun tv10 =>
  tr_gd tv10 14 <|
  tr_bd (tr_si th9 16 tv10.toNatClampNeg tv902) fun th12 =>
  tr_bd (tr_si th12 13 3 ((th12.1 13 3) + 1)) fun th13 =>
  some th13)
  else
  (some th1))
noncomputable def f_X1_add (tv900 : Int32) (tv901 : Int32) (tv902 : Int32) (h : tr_H) : Option tr_H :=
  if (h.1 13 3) < 14 then
  (f_X1_add_J13 tv900 tv901 tv902 h)
  else
  (tr_bn (f_X1_forgetFirst h) fun th16 =>
  f_X1_add_J13 tv900 tv901 tv902 th16)
noncomputable def f_X2_has (tn0 : Nat) (tv900 : Int32) (h : tr_H) : Option Int32 :=
  if tv900 < 0 then
  (some 0)
  else
  (if (h.1 tn0 1) ≤ tv900 then
  (some 0)
  else
  (some 1))
noncomputable def f_X2_lay (tn0 : Nat) (tv900 : Int32) (tv901 : Int32) (tv902 : Int32) (h : tr_H) : Option (Int32 × tr_H) :=
  tr_bn (f_X2_has tn0 tv900 h) fun tv2 =>
  if tv2 = 0 then
  (some (0, h))
  else
  (tr_bn (f_X2_has tn0 tv901 h) fun tv5 =>
  if tv5 = 0 then
  (some (0, h))
  else
  (tr_bd ((tv900 * 6) + tv901) fun tv7 =>
  tr_gd tv7 36 <|
  tr_bd (tr_si h (tn0 + 1) tv7.toNatClampNeg tv902) fun th9 =>
  some (1, th9)))
noncomputable def f_X1_takeBack (tn1 : Nat) (h : tr_H) : Option tr_H :=
  if (h.1 13 3) < 1 then
  (some h)
  else
  (if (h.1 13 3) ≤ 14 then
  (tr_bd (tr_si h 13 3 ((h.1 13 3) - 1)) fun th3 =>
  tr_bd (th3.1 13 3) fun tv4 =>
  tr_gd tv4 14 <|
  tr_bd (th3.1 13 3) fun tv6 =>
  tr_gd tv6 14 <|
  tr_bd (th3.1 13 3) fun tv8 =>
  tr_gd tv8 14 <|
  tr_b2 (f_X2_lay tn1 (th3.1 14 tv4.toNatClampNeg) (th3.1 15 tv6.toNatClampNeg) (th3.1 16 tv8.toNatClampNeg) th3) fun tv11 th12 =>
  some th12)
  else
  (some h))
noncomputable def f_X2_leadsToAll_E29 : Option Int32 :=
  some 1
noncomputable def f_X2_leadsToAll_L2 (h : tr_H) (tn0 : Nat) (tv900 : Int32) (tv1 : Int32) : Option (Int32 ⊕ (Unit ⊕ Int32)) :=
  if (h.1 tn0 1) ≤ tv1 then
  (some (.inr (.inl ())))
  else
  (tr_bn (f_X2_of tn0 tv900 tv1 h) fun tv4 =>
  if tv4 = (-9) then
  (some (.inr (.inr 0)))
  else
  (tr_bd (tv1 + 1) fun tv6 =>
  some (.inl tv6)))
noncomputable def f_X2_leadsToAll (tn0 : Nat) (tv900 : Int32) (h : tr_H) : Option Int32 :=
  tr_bn (tr_lp (fun q => f_X2_leadsToAll_L2 h tn0 tv900 q) 0) (fun q => Sum.elim (fun _ => f_X2_leadsToAll_E29) (fun x => some x) q)
noncomputable def f_X2_waits_E30 (tv1 : Int32) : Option Int32 :=
  some tv1
noncomputable def f_X2_waits_L4 (h : tr_H) (tn0 : Nat) (tv2 : Int32) (tv3 : Int32) : Option ((Int32 × Int32) ⊕ Int32) :=
  if 36 ≤ tv3 then
  (some (.inr tv2))
  else
  (tr_gd tv3 36 <|
  if (h.1 (tn0 + 1) tv3.toNatClampNeg) = (-9) then
  (tr_bd (tv3 + 1) fun tv7 =>
  some (.inl (tv2, tv7)))
  else
  (tr_bd (tv2 + 1) fun tv8 =>
  tr_bd (tv3 + 1) fun tv9 =>
  some (.inl (tv8, tv9))))
noncomputable def f_X2_waits (tn0 : Nat) (h : tr_H) : Option Int32 :=
  tr_bn (tr_lp (fun q => f_X2_waits_L4 h tn0 q.1 q.2) (0, 0)) (fun q => f_X2_waits_E30 q)
noncomputable def f_X2_begin (tn0 : Nat) (tv900 : Int32) (h : tr_H) : Option tr_H :=
  tr_bd (tr_si h tn0 1 (tr_max 1 (tr_min 6 tv900))) fun th1 =>
  tr_bn (f_J7_fill_53178 (tn0 + 1) 36 (-9) th1) fun th3 =>
  some th3
noncomputable def f_X2_copyFrom (tn0 : Nat) (tn1 : Nat) (h : tr_H) : Option tr_H :=
  tr_bd (tr_si h tn0 1 (h.1 tn1 1)) fun th1 =>
  tr_bd (tr_cp th1 (tn1 + 1) (tn0 + 1)) fun th2 =>
  some th2
noncomputable def f_X3_takes (tv900 : Int32) (tv901 : Int32) (tn3 : Nat) (h : tr_H) : Option (Int32 × tr_H) :=
  tr_bd (tv901 - 48) fun tv1 =>
  if tv900 = 0 then
  (if tv901 = 78 then
  (some (1, h))
  else
  (some (0, h)))
  else
  (if tv900 = 1 then
  (tr_bn (f_X2_begin tn3 tv1 h) fun th29 =>
  if tv1 < 1 then
  (some (0, th29))
  else
  (if 6 < tv1 then
  (some (0, th29))
  else
  (some (1, th29))))
  else
  (tr_bd ((tv900 - 2) - (tv900 - 2) / 3 * 3) fun tv4 =>
  if tv4 = 0 then
  (tr_bd (tr_si h 12 0 tv1) fun th6 =>
  if 38 ≤ tv900 then
  (some (0, th6))
  else
  (tr_bn (f_X2_has tn3 (th6.1 12 0) th6) fun tv9 =>
  if tv9 = 0 then
  (some (0, th6))
  else
  (tr_bn (f_X2_leadsToAll tn3 (th6.1 12 0) th6) fun tv12 =>
  if tv12 = 0 then
  (some (1, th6))
  else
  (some (0, th6)))))
  else
  if tv4 = 1 then
  (tr_bd (tr_si h 12 1 tv1) fun th15 =>
  tr_bn (f_X2_has tn3 (th15.1 12 1) th15) fun tv17 =>
  if tv17 = 0 then
  (some (0, th15))
  else
  (tr_bn (f_X2_of tn3 (th15.1 12 0) (th15.1 12 1) th15) fun tv20 =>
  if tv20 = (-9) then
  (some (1, th15))
  else
  (some (0, th15))))
  else
  (if tv1 < 0 then
  (some (0, h))
  else
  (if 9 < tv1 then
  (some (0, h))
  else
  (tr_b2 (f_X2_lay tn3 (h.1 12 0) (h.1 12 1) tv1 h) fun tv25 th26 =>
  if tv25 = 0 then
  (some (0, th26))
  else
  (some (1, th26)))))))
noncomputable def f_X3_read_J62 (tv901 : Int32) (th3 : tr_H) (tv4 : Int32) : Option (Int32 × tr_H) :=
  if tv4 = 0 then
  (some (tv901, th3))
  else
  (some ((-9), th3))
noncomputable def f_X3_read_J61 (tv901 : Int32) (th3 : tr_H) : Option (Int32 × tr_H) :=
  f_X3_read_J62 tv901 th3 0
noncomputable def f_X3_read_E44 (tv901 : Int32) (th3 : tr_H) : Option (Int32 × tr_H) :=
  if tv901 < 2 then
  (f_X3_read_J61 tv901 th3)
  else
  (if ((tv901 - 2) - (tv901 - 2) / 3 * 3) = 0 then
  (f_X3_read_J62 tv901 th3 1)
  else
  (f_X3_read_J61 tv901 th3))
noncomputable def f_X3_read_L8 (tv901 : Int32) (tn3 : Nat) (tv8 : Int32) (th9 : tr_H) : Option ((Int32 × tr_H) ⊕ (tr_H ⊕ (Int32 × tr_H))) :=
  if tv901 ≤ tv8 then
  (some (.inr (.inl th9)))
  else
  (if 64 ≤ tv8 then
  (some (.inr (.inl th9)))
  else
  (tr_gd tv8 64 <|
  tr_b2 (f_X3_takes tv8 (th9.1 1 tv8.toNatClampNeg) tn3 th9) fun tv14 th15 =>
  if tv14 = 0 then
  (some (.inr (.inr (tv8, th15))))
  else
  (tr_bd (tv8 + 1) fun tv17 =>
  some (.inl (tv17, th15)))))
noncomputable def f_X3_read (tv901 : Int32) (tn3 : Nat) (h : tr_H) : Option (Int32 × tr_H) :=
  tr_bn (f_X2_begin tn3 1 h) fun th2 =>
  tr_bn (tr_lp (fun q => f_X3_read_L8 tv901 tn3 q.1 q.2) (0, th2)) (fun q => Sum.elim (fun x => f_X3_read_E44 tv901 x) (fun x => some x) q)
noncomputable def f_X4_lowestOf_E21 (tv1 : Int32) : Option Int32 :=
  some tv1
noncomputable def f_X4_lowestOf_L2 (tv900 : Int32) (tv2 : Int32) : Option (Int32 ⊕ Int32) :=
  if 5 ≤ tv2 then
  (some (.inr tv2))
  else
  (if ((tv900 >>> (tv2 &&& 31)) &&& 1) = 0 then
  (tr_bd (tv2 + 1) fun tv5 =>
  some (.inl tv5))
  else
  (some (.inr tv2)))
noncomputable def f_X4_lowestOf (tv900 : Int32) : Option Int32 :=
  tr_bn (tr_lp (fun q => f_X4_lowestOf_L2 tv900 q) 0) (fun q => f_X4_lowestOf_E21 q)
noncomputable def f_J6_bitCount_0f7a4 (tv900 : Int32) : Option Int32 :=
  tr_bd (tv900 - (((tv900.toUInt32 >>> ((1 : Int32).toUInt32 &&& Int32.toUInt32 31)).toInt32) &&& 1431655765)) fun tv1 =>
  tr_bd ((tv1 &&& 858993459) + (((tv1.toUInt32 >>> ((2 : Int32).toUInt32 &&& Int32.toUInt32 31)).toInt32) &&& 858993459)) fun tv2 =>
  tr_bd ((tv2 + ((tv2.toUInt32 >>> ((4 : Int32).toUInt32 &&& Int32.toUInt32 31)).toInt32)) &&& 252645135) fun tv3 =>
  tr_bd (tv3 + ((tv3.toUInt32 >>> ((8 : Int32).toUInt32 &&& Int32.toUInt32 31)).toInt32)) fun tv4 =>
  tr_bd (tv4 + ((tv4.toUInt32 >>> ((16 : Int32).toUInt32 &&& Int32.toUInt32 31)).toInt32)) fun tv5 =>
  some (tv5 &&& 63)
noncomputable def f_X4_goOn_E188 (th14 : tr_H) : Option tr_H :=
  some th14
noncomputable def f_X4_goOn_L100 (tn1 : Nat) (tv902 : Int32) (tv901 : Int32) (tv3 : Int32) (tv6 : Int32) (tv15 : Int32) (th16 : tr_H) : Option ((Int32 × tr_H) ⊕ tr_H) :=
  if (th16.1 tn1 1) ≤ tv15 then
  (some (.inr th16))
  else
  (tr_bn (f_X2_of tn1 tv902 tv15 th16) fun tv19 =>
  if tv19 = (-9) then
  (tr_bd (tv15 + 1) fun tv21 =>
  some (.inl (tv21, th16)))
  else
  (if ((tv901 >>> (tv15 &&& 31)) &&& 1) = 0 then
  (tr_bd (((tv901 ||| (1 <<< (tv15 &&& 31))) * 6) + tv15) fun tv24 =>
  tr_gd tv24 384 <|
  tr_gd tv24 384 <|
  tr_bd (tr_si th16 28 tv24.toNatClampNeg ((th16.1 28 tv24.toNatClampNeg) + tv3)) fun th27 =>
  tr_gd tv24 384 <|
  tr_gd tv24 384 <|
  tr_bd (tr_si th27 29 tv24.toNatClampNeg (tr_max (th27.1 29 tv24.toNatClampNeg) (tv6 + tv19))) fun th30 =>
  tr_bd (tv15 + 1) fun tv31 =>
  some (.inl (tv31, th30)))
  else
  (tr_bd (tv15 + 1) fun tv23 =>
  some (.inl (tv23, th16)))))
noncomputable def f_X4_goOn_J94 (tv9 : Int32) (tn1 : Nat) (tv902 : Int32) (tv901 : Int32) (tv3 : Int32) (tv6 : Int32) (th12 : tr_H) : Option tr_H :=
  tr_bd (tv9 + 1) fun tv13 =>
  tr_bn (tr_lp (fun q => f_X4_goOn_L100 tn1 tv902 tv901 tv3 tv6 q.1 q.2) (tv13, th12)) (fun q => f_X4_goOn_E188 q)
noncomputable def f_X4_goOn (tn1 : Nat) (tv901 : Int32) (tv902 : Int32) (h : tr_H) : Option tr_H :=
  tr_bd ((tv901 * 6) + tv902) fun tv1 =>
  tr_gd tv1 384 <|
  tr_bd (h.1 28 tv1.toNatClampNeg) fun tv3 =>
  tr_bd ((tv901 * 6) + tv902) fun tv4 =>
  tr_gd tv4 384 <|
  tr_bd (h.1 29 tv4.toNatClampNeg) fun tv6 =>
  if tv3 = 0 then
  (some h)
  else
  (tr_bn (f_X4_lowestOf tv901) fun tv9 =>
  tr_bn (f_X2_of tn1 tv902 tv9 h) fun tv11 =>
  if tv11 = (-9) then
  (f_X4_goOn_J94 tv9 tn1 tv902 tv901 tv3 tv6 h)
  else
  (tr_bd (tr_si h 27 3 ((h.1 27 3) + tv3)) fun th33 =>
  tr_gd tv901 64 <|
  tr_bn (f_J6_bitCount_0f7a4 tv901) fun tv36 =>
  tr_gd tv36 7 <|
  tr_gd tv901 64 <|
  tr_bd (tr_si th33 30 tv901.toNatClampNeg (tr_max (th33.1 30 tv901.toNatClampNeg) ((tv6 + tv11) * (tr_f0 tv36.toNatClampNeg)))) fun th39 =>
  f_X4_goOn_J94 tv9 tn1 tv902 tv901 tv3 tv6 th39))
noncomputable def f_X4_takeWithin_E55 (th1 : tr_H) : Option tr_H :=
  some th1
noncomputable def f_X4_takeWithin_E49 (tv2 : Int32) (th5 : tr_H) : Option ((Int32 × tr_H) ⊕ tr_H) :=
  tr_bd (tv2 + 1) fun tv6 =>
  some (.inl (tv6, th5))
noncomputable def f_X4_takeWithin_L11 (tv900 : Int32) (tv2 : Int32) (tv7 : Int32) (th8 : tr_H) : Option ((Int32 × tr_H) ⊕ tr_H) :=
  if tv900 ≤ tv7 then
  (some (.inr th8))
  else
  (tr_gd tv2 64 <|
  tr_bd (tv2 &&& ((1 <<< (tv7 &&& 31)) ^^^ (-1))) fun tv11 =>
  tr_gd tv11 64 <|
  tr_gd tv2 64 <|
  tr_bd (tr_si th8 30 tv2.toNatClampNeg (tr_max (th8.1 30 tv2.toNatClampNeg) (th8.1 30 tv11.toNatClampNeg))) fun th14 =>
  tr_bd (tv7 + 1) fun tv15 =>
  some (.inl (tv15, th14)))
noncomputable def f_X4_takeWithin_L2 (tv900 : Int32) (tv2 : Int32) (th3 : tr_H) : Option ((Int32 × tr_H) ⊕ tr_H) :=
  if (1 <<< (tv900 &&& 31)) ≤ tv2 then
  (some (.inr th3))
  else
  (tr_bn (tr_lp (fun q => f_X4_takeWithin_L11 tv900 tv2 q.1 q.2) (0, th3)) (fun q => f_X4_takeWithin_E49 tv2 q))
noncomputable def f_X4_takeWithin (tv900 : Int32) (h : tr_H) : Option tr_H :=
  tr_bn (tr_lp (fun q => f_X4_takeWithin_L2 tv900 q.1 q.2) (1, h)) (fun q => f_X4_takeWithin_E55 q)
noncomputable def f_X4_fill_E100 (tn1 : Nat) (th9 : tr_H) : Option tr_H :=
  tr_bn (f_X4_takeWithin (th9.1 tn1 1) th9) fun th11 =>
  some th11
noncomputable def f_X4_fill_E94 (tv12 : Int32) (th15 : tr_H) : Option ((Int32 × tr_H) ⊕ tr_H) :=
  tr_bd (tv12 + 1) fun tv16 =>
  some (.inl (tv16, th15))
noncomputable def f_X4_fill_L73 (tn1 : Nat) (tv12 : Int32) (tv17 : Int32) (th18 : tr_H) : Option ((Int32 × tr_H) ⊕ tr_H) :=
  if (th18.1 tn1 1) ≤ tv17 then
  (some (.inr th18))
  else
  (tr_bn (f_X4_goOn tn1 tv12 tv17 th18) fun th21 =>
  tr_bd (tv17 + 1) fun tv22 =>
  some (.inl (tv22, th21)))
noncomputable def f_X4_fill_L61 (tn1 : Nat) (tv12 : Int32) (th13 : tr_H) : Option ((Int32 × tr_H) ⊕ tr_H) :=
  if (1 <<< ((th13.1 tn1 1) &&& 31)) ≤ tv12 then
  (some (.inr th13))
  else
  (tr_bn (tr_lp (fun q => f_X4_fill_L73 tn1 tv12 q.1 q.2) (0, th13)) (fun q => f_X4_fill_E94 tv12 q))
noncomputable def f_X4_fill_E59 (tn1 : Nat) (th8 : tr_H) : Option tr_H :=
  tr_bn (tr_lp (fun q => f_X4_fill_L61 tn1 q.1 q.2) (1, th8)) (fun q => f_X4_fill_E100 tn1 q)
noncomputable def f_X4_fill_L31 (tn1 : Nat) (tv23 : Int32) (th24 : tr_H) : Option ((Int32 × tr_H) ⊕ tr_H) :=
  if (th24.1 tn1 1) ≤ tv23 then
  (some (.inr th24))
  else
  (tr_bd (((1 <<< (tv23 &&& 31)) * 6) + tv23) fun tv26 =>
  tr_gd tv26 384 <|
  tr_bd (tr_si th24 28 tv26.toNatClampNeg 1) fun th28 =>
  tr_bd (tv23 + 1) fun tv29 =>
  some (.inl (tv29, th28)))
noncomputable def f_X4_fill (tn1 : Nat) (h : tr_H) : Option tr_H :=
  tr_bn (f_J7_fill_53178 28 384 0 h) fun th2 =>
  tr_bn (f_J7_fill_53178 29 384 0 th2) fun th4 =>
  tr_bn (f_J7_fill_53178 30 64 0 th4) fun th6 =>
  tr_bd (tr_si th6 27 3 0) fun th7 =>
  tr_bn (tr_lp (fun q => f_X4_fill_L31 tn1 q.1 q.2) (0, th7)) (fun q => f_X4_fill_E59 tn1 q)
noncomputable def f_X4_added_E79 (tv1 : Int32) : Option Int32 :=
  some tv1
noncomputable def f_X4_added_L5 (tv901 : Int32) (tv900 : Int32) (h : tr_H) (tv2 : Int32) (tv3 : Int32) : Option ((Int32 × Int32) ⊕ Int32) :=
  if (1 <<< (tv901 &&& 31)) ≤ tv3 then
  (some (.inr tv2))
  else
  (if ((tv3 >>> (tv900 &&& 31)) &&& 1) = 0 then
  (tr_bn (f_J6_bitCount_0f7a4 tv3) fun tv8 =>
  tr_gd tv8 7 <|
  tr_bd ((tv901 - 1) - tv8) fun tv10 =>
  tr_gd tv10 7 <|
  tr_bd ((tr_f1 tv8.toNatClampNeg) * (tr_f1 tv10.toNatClampNeg)) fun tv12 =>
  tr_bd (tv3 ||| (1 <<< (tv900 &&& 31))) fun tv13 =>
  tr_gd tv13 64 <|
  tr_gd tv3 64 <|
  tr_bd (tv2 + (tv12 * ((h.1 30 tv13.toNatClampNeg) - (h.1 30 tv3.toNatClampNeg)))) fun tv16 =>
  tr_bd (tv3 + 1) fun tv17 =>
  some (.inl (tv16, tv17)))
  else
  (tr_bd (tv3 + 1) fun tv6 =>
  some (.inl (tv2, tv6))))
noncomputable def f_X4_added (tv900 : Int32) (tv901 : Int32) (h : tr_H) : Option Int32 :=
  tr_bn (tr_lp (fun q => f_X4_added_L5 tv901 tv900 h q.1 q.2) (0, 0)) (fun q => f_X4_added_E79 q)
noncomputable def f_X5_add (tv900 : Int32) (tv901 : Int32) (tv902 : Int32) (h : tr_H) : Option (Int32 × tr_H) :=
  if (h.1 17 3) < 0 then
  (some (0, h))
  else
  (if (h.1 17 3) < 6 then
  (tr_bd (h.1 17 3) fun tv3 =>
  tr_gd tv3 6 <|
  tr_bd (tr_si h 18 tv3.toNatClampNeg tv900) fun th5 =>
  tr_bd (th5.1 17 3) fun tv6 =>
  tr_gd tv6 6 <|
  tr_bd (tr_si th5 19 tv6.toNatClampNeg tv901) fun th8 =>
  tr_bd (th8.1 17 3) fun tv9 =>
  tr_gd tv9 6 <|
  tr_bd (tr_si th8 20 tv9.toNatClampNeg tv902) fun th11 =>
  tr_bd (tr_si th11 17 3 ((th11.1 17 3) + 1)) fun th12 =>
  some (1, th12))
  else
  (some (0, h)))
noncomputable def f_X5_fits_E88 : Option Int32 :=
  some 1
noncomputable def f_X5_fits_J77 (tv5 : Int32) (tv1 : Int32) (tv7 : Int32) : Option (Int32 ⊕ (Unit ⊕ Int32)) :=
  if tv5 = tv7 then
  (tr_bd (tv1 + 1) fun tv9 =>
  some (.inl tv9))
  else
  (some (.inr (.inr 0)))
noncomputable def f_X5_fits_J57 (tv1 : Int32) (h : tr_H) (tv5 : Int32) : Option (Int32 ⊕ (Unit ⊕ Int32)) :=
  tr_gd tv1 6 <|
  if (h.1 20 tv1.toNatClampNeg) = 1 then
  (f_X5_fits_J77 tv5 tv1 1)
  else
  (f_X5_fits_J77 tv5 tv1 0)
noncomputable def f_X5_fits_J56 (tv1 : Int32) (h : tr_H) : Option (Int32 ⊕ (Unit ⊕ Int32)) :=
  f_X5_fits_J57 tv1 h 0
noncomputable def f_X5_fits_L3 (h : tr_H) (tv902 : Int32) (tv901 : Int32) (tv1 : Int32) : Option (Int32 ⊕ (Unit ⊕ Int32)) :=
  if (h.1 17 3) ≤ tv1 then
  (some (.inr (.inl ())))
  else
  (if 6 ≤ tv1 then
  (some (.inr (.inl ())))
  else
  (tr_gd tv1 6 <|
  if tv902 ≤ (h.1 18 tv1.toNatClampNeg) then
  (f_X5_fits_J56 tv1 h)
  else
  (tr_gd tv1 6 <|
  tr_gd tv1 6 <|
  tr_bn (f_X0_lateness tv901 (h.1 18 tv1.toNatClampNeg) (h.1 19 tv1.toNatClampNeg) h) fun tv15 =>
  if tv15 ≤ 0 then
  (f_X5_fits_J56 tv1 h)
  else
  (f_X5_fits_J57 tv1 h 1))))
noncomputable def f_X5_fits (tv901 : Int32) (tv902 : Int32) (h : tr_H) : Option Int32 :=
  tr_bn (tr_lp (fun q => f_X5_fits_L3 h tv902 tv901 q) 0) (fun q => Sum.elim (fun _ => f_X5_fits_E88) (fun x => some x) q)
noncomputable def f_X6_longest_E68 (tv1 : Int32) : Option Int32 :=
  some tv1
noncomputable def f_X6_longest_L6 (h : tr_H) (tn1 : Nat) (tv901 : Int32) (tv902 : Int32) (tv2 : Int32) (tv3 : Int32) : Option ((Int32 × Int32) ⊕ Int32) :=
  if (h.1 tn1 1) ≤ tv3 then
  (some (.inr tv2))
  else
  (tr_bd ((tv901 * 6) + tv3) fun tv5 =>
  tr_gd tv5 42 <|
  tr_bd (h.1 22 tv5.toNatClampNeg) fun tv7 =>
  tr_bn (f_X2_of tn1 tv3 tv902 h) fun tv9 =>
  if tv7 < 0 then
  (tr_bd (tv3 + 1) fun tv11 =>
  some (.inl (tv2, tv11)))
  else
  (if tv9 = (-9) then
  (tr_bd (tv3 + 1) fun tv13 =>
  some (.inl (tv2, tv13)))
  else
  (tr_bd (tr_max tv2 (tv7 + tv9)) fun tv14 =>
  tr_bd (tv3 + 1) fun tv15 =>
  some (.inl (tv14, tv15)))))
noncomputable def f_X6_longest (tn1 : Nat) (tv901 : Int32) (tv902 : Int32) (h : tr_H) : Option Int32 :=
  tr_bn (tr_lp (fun q => f_X6_longest_L6 h tn1 tv901 tv902 q.1 q.2) ((-1), 0)) (fun q => f_X6_longest_E68 q)
noncomputable def f_X6_leastMean_E67 (tv5 : Int32) : Option Int32 :=
  some tv5
noncomputable def f_X6_leastMean_L25 (tv900 : Int32) (tv901 : Int32) (tv3 : Int32) (h : tr_H) (tv6 : Int32) (tv7 : Int32) : Option ((Int32 × Int32) ⊕ Int32) :=
  if tv900 ≤ tv7 then
  (some (.inr tv6))
  else
  (tr_bd ((tv7 * 6) + tv901) fun tv9 =>
  tr_gd tv9 42 <|
  tr_bd (tv900 - tv7) fun tv11 =>
  tr_gd tv11 7 <|
  tr_bd (tr_min tv6 ((tv3 - (h.1 22 tv9.toNatClampNeg)) * (tr_f0 tv11.toNatClampNeg))) fun tv13 =>
  tr_bd (tv7 + 1) fun tv14 =>
  some (.inl (tv13, tv14)))
noncomputable def f_X6_leastMean (tv900 : Int32) (tv901 : Int32) (h : tr_H) : Option Int32 :=
  tr_bd ((tv900 * 6) + tv901) fun tv1 =>
  tr_gd tv1 42 <|
  tr_bd (h.1 22 tv1.toNatClampNeg) fun tv3 =>
  if 0 ≤ tv3 then
  (tr_bn (tr_lp (fun q => f_X6_leastMean_L25 tv900 tv901 tv3 h q.1 q.2) (1000000, 0)) (fun q => f_X6_leastMean_E67 q))
  else
  (some (-1))
noncomputable def f_X6_slowest_E107 (th2 : tr_H) (tv3 : Int32) : Option (Int32 × tr_H) :=
  some (tv3, th2)
noncomputable def f_X6_slowest_L79 (th2 : tr_H) (tn1 : Nat) (tv4 : Int32) (tv5 : Int32) : Option ((Int32 × Int32) ⊕ Int32) :=
  if (th2.1 tn1 1) ≤ tv5 then
  (some (.inr tv4))
  else
  (tr_bn (f_X6_leastMean (th2.1 tn1 1) tv5 th2) fun tv8 =>
  tr_bd (tr_max tv4 tv8) fun tv9 =>
  tr_bd (tv5 + 1) fun tv10 =>
  some (.inl (tv9, tv10)))
noncomputable def f_X6_slowest_E75 (tn1 : Nat) (th2 : tr_H) : Option (Int32 × tr_H) :=
  tr_bn (tr_lp (fun q => f_X6_slowest_L79 th2 tn1 q.1 q.2) ((-1), 0)) (fun q => f_X6_slowest_E107 th2 q)
noncomputable def f_X6_slowest_E69 (tv11 : Int32) (th14 : tr_H) : Option ((Int32 × tr_H) ⊕ tr_H) :=
  tr_bd (tv11 + 1) fun tv15 =>
  some (.inl (tv15, th14))
noncomputable def f_X6_slowest_L35 (tn1 : Nat) (tv11 : Int32) (tv16 : Int32) (th17 : tr_H) : Option ((Int32 × tr_H) ⊕ tr_H) :=
  if (th17.1 tn1 1) ≤ tv16 then
  (some (.inr th17))
  else
  (tr_bn (f_X6_longest tn1 (tv11 - 1) tv16 th17) fun tv20 =>
  tr_bd ((tv11 * 6) + tv16) fun tv21 =>
  tr_gd tv21 42 <|
  tr_bd (tr_si th17 22 tv21.toNatClampNeg tv20) fun th23 =>
  tr_bd (tv16 + 1) fun tv24 =>
  some (.inl (tv24, th23)))
noncomputable def f_X6_slowest_L25 (tn1 : Nat) (tv11 : Int32) (th12 : tr_H) : Option ((Int32 × tr_H) ⊕ tr_H) :=
  if (th12.1 tn1 1) < tv11 then
  (some (.inr th12))
  else
  (tr_bn (tr_lp (fun q => f_X6_slowest_L35 tn1 tv11 q.1 q.2) (0, th12)) (fun q => f_X6_slowest_E69 tv11 q))
noncomputable def f_X6_slowest_E23 (tn1 : Nat) (th1 : tr_H) : Option (Int32 × tr_H) :=
  tr_bn (tr_lp (fun q => f_X6_slowest_L25 tn1 q.1 q.2) (1, th1)) (fun q => f_X6_slowest_E75 tn1 q)
noncomputable def f_X6_slowest_L2 (tn1 : Nat) (tv25 : Int32) (th26 : tr_H) : Option ((Int32 × tr_H) ⊕ tr_H) :=
  if (th26.1 tn1 1) ≤ tv25 then
  (some (.inr th26))
  else
  (tr_gd tv25 42 <|
  tr_bd (tr_si th26 22 tv25.toNatClampNeg 0) fun th29 =>
  tr_bd (tv25 + 1) fun tv30 =>
  some (.inl (tv30, th29)))
noncomputable def f_X6_slowest (tn1 : Nat) (h : tr_H) : Option (Int32 × tr_H) :=
  tr_bn (tr_lp (fun q => f_X6_slowest_L2 tn1 q.1 q.2) (0, h)) (fun q => f_X6_slowest_E23 tn1 q)
noncomputable def f_X6_isKept (tn1 : Nat) (tv901 : Int32) (h : tr_H) : Option (Int32 × tr_H) :=
  tr_b2 (f_X6_slowest tn1 h) fun tv2 th3 =>
  if (60 * tv901) < tv2 then
  (some (0, th3))
  else
  (some (1, th3))
noncomputable def f_X6_gainOf (tn1 : Nat) (tv901 : Int32) (tv902 : Int32) (h : tr_H) : Option Int32 :=
  tr_bn (f_X2_of tn1 tv901 tv902 h) fun tv2 =>
  if tv2 = (-9) then
  (some (-1000000))
  else
  (some ((60 * tv2) - (h.1 21 2)))
noncomputable def f_X6_join (tv900 : Int32) (tv901 : Int32) (tv902 : Int32) (h : tr_H) : Option tr_H :=
  tr_bd ((tv900 * 6) + tv901) fun tv1 =>
  tr_gd tv1 36 <|
  tr_bd (h.1 23 tv1.toNatClampNeg) fun tv3 =>
  tr_bd ((tv901 * 6) + tv902) fun tv4 =>
  tr_gd tv4 36 <|
  tr_bd (h.1 23 tv4.toNatClampNeg) fun tv6 =>
  if tv3 = (-1000000) then
  (some h)
  else
  (if tv6 = (-1000000) then
  (some h)
  else
  (tr_bd ((tv900 * 6) + tv902) fun tv9 =>
  tr_gd tv9 36 <|
  tr_gd tv9 36 <|
  tr_bd (tr_si h 23 tv9.toNatClampNeg (tr_max (h.1 23 tv9.toNatClampNeg) (tv3 + tv6))) fun th12 =>
  some th12))
noncomputable def f_X6_compare_E130 (th6 : tr_H) : Option tr_H :=
  some th6
noncomputable def f_X6_compare_E124 (tv7 : Int32) (th10 : tr_H) : Option ((Int32 × tr_H) ⊕ tr_H) :=
  tr_bd (tv7 + 1) fun tv11 =>
  some (.inl (tv11, th10))
noncomputable def f_X6_compare_E118 (tv12 : Int32) (th15 : tr_H) : Option ((Int32 × tr_H) ⊕ tr_H) :=
  tr_bd (tv12 + 1) fun tv16 =>
  some (.inl (tv16, th15))
noncomputable def f_X6_compare_L95 (tn1 : Nat) (tv12 : Int32) (tv7 : Int32) (tv17 : Int32) (th18 : tr_H) : Option ((Int32 × tr_H) ⊕ tr_H) :=
  if (th18.1 tn1 1) ≤ tv17 then
  (some (.inr th18))
  else
  (tr_bn (f_X6_join tv12 tv7 tv17 th18) fun th21 =>
  tr_bd (tv17 + 1) fun tv22 =>
  some (.inl (tv22, th21)))
noncomputable def f_X6_compare_L84 (tn1 : Nat) (tv7 : Int32) (tv12 : Int32) (th13 : tr_H) : Option ((Int32 × tr_H) ⊕ tr_H) :=
  if (th13.1 tn1 1) ≤ tv12 then
  (some (.inr th13))
  else
  (tr_bn (tr_lp (fun q => f_X6_compare_L95 tn1 tv12 tv7 q.1 q.2) (0, th13)) (fun q => f_X6_compare_E118 tv12 q))
noncomputable def f_X6_compare_L74 (tn1 : Nat) (tv7 : Int32) (th8 : tr_H) : Option ((Int32 × tr_H) ⊕ tr_H) :=
  if (th8.1 tn1 1) ≤ tv7 then
  (some (.inr th8))
  else
  (tr_bn (tr_lp (fun q => f_X6_compare_L84 tn1 tv7 q.1 q.2) (0, th8)) (fun q => f_X6_compare_E124 tv7 q))
noncomputable def f_X6_compare_E72 (tn1 : Nat) (th5 : tr_H) : Option tr_H :=
  tr_bn (tr_lp (fun q => f_X6_compare_L74 tn1 q.1 q.2) (0, th5)) (fun q => f_X6_compare_E130 q)
noncomputable def f_X6_compare_E66 (tv23 : Int32) (th26 : tr_H) : Option ((Int32 × tr_H) ⊕ tr_H) :=
  tr_bd (tv23 + 1) fun tv27 =>
  some (.inl (tv27, th26))
noncomputable def f_X6_compare_L21 (tn1 : Nat) (tv23 : Int32) (tv28 : Int32) (th29 : tr_H) : Option ((Int32 × tr_H) ⊕ tr_H) :=
  if (th29.1 tn1 1) ≤ tv28 then
  (some (.inr th29))
  else
  (if tv23 = tv28 then
  (tr_bd ((tv23 * 6) + tv28) fun tv38 =>
  tr_gd tv38 36 <|
  tr_bd (tr_si th29 23 tv38.toNatClampNeg 0) fun th40 =>
  tr_bd (tv28 + 1) fun tv41 =>
  some (.inl (tv41, th40)))
  else
  (tr_bn (f_X6_gainOf tn1 tv23 tv28 th29) fun tv33 =>
  tr_bd ((tv23 * 6) + tv28) fun tv34 =>
  tr_gd tv34 36 <|
  tr_bd (tr_si th29 23 tv34.toNatClampNeg tv33) fun th36 =>
  tr_bd (tv28 + 1) fun tv37 =>
  some (.inl (tv37, th36))))
noncomputable def f_X6_compare_L11 (tn1 : Nat) (tv23 : Int32) (th24 : tr_H) : Option ((Int32 × tr_H) ⊕ tr_H) :=
  if (th24.1 tn1 1) ≤ tv23 then
  (some (.inr th24))
  else
  (tr_bn (tr_lp (fun q => f_X6_compare_L21 tn1 tv23 q.1 q.2) (0, th24)) (fun q => f_X6_compare_E66 tv23 q))
noncomputable def f_X6_compare (tn1 : Nat) (h : tr_H) : Option tr_H :=
  tr_b2 (f_X6_slowest tn1 h) fun tv2 th3 =>
  tr_bd (tr_si th3 21 2 tv2) fun th4 =>
  tr_bn (tr_lp (fun q => f_X6_compare_L11 tn1 q.1 q.2) (0, th4)) (fun q => f_X6_compare_E72 tn1 q)
noncomputable def f_X6_comesBack (tv900 : Int32) (tv901 : Int32) (h : tr_H) : Option Int32 :=
  tr_bd ((tv901 * 6) + tv900) fun tv1 =>
  tr_gd tv1 36 <|
  if (h.1 23 tv1.toNatClampNeg) = (-1000000) then
  (some 0)
  else
  (some 1)
noncomputable def f_X6_isCritical (tn1 : Nat) (tv901 : Int32) (tv902 : Int32) (h : tr_H) : Option Int32 :=
  tr_bn (f_X2_of tn1 tv901 tv902 h) fun tv2 =>
  if tv2 = (-9) then
  (some 0)
  else
  (tr_bn (f_X6_comesBack tv901 tv902 h) fun tv5 =>
  if tv5 = 0 then
  (some 0)
  else
  (tr_bn (f_X6_gainOf tn1 tv901 tv902 h) fun tv8 =>
  tr_bd ((tv902 * 6) + tv901) fun tv9 =>
  tr_gd tv9 36 <|
  if (tv8 + (h.1 23 tv9.toNatClampNeg)) = 0 then
  (some 1)
  else
  (some 0)))
noncomputable def f_X7_write (tv900 : Int32) (h : tr_H) : Option (Int32 × tr_H) :=
  if tv900 < 0 then
  (some ((-2), h))
  else
  (if tv900 ≤ 255 then
  (if (h.1 0 11) < 0 then
  (some ((-4), h))
  else
  (if (h.1 0 11) < 64 then
  (tr_bd (h.1 0 11) fun tv5 =>
  tr_gd tv5 64 <|
  tr_bd (tr_si h 1 tv5.toNatClampNeg tv900) fun th7 =>
  tr_bd (tr_si th7 0 11 ((th7.1 0 11) + 1)) fun th8 =>
  some (th8.1 0 11, th8))
  else
  (some ((-4), h))))
  else
  (some ((-2), h)))
noncomputable def f_X7_wipe (h : tr_H) : Option (Int32 × tr_H) :=
  tr_bd (h.1 0 11) fun tv1 =>
  tr_bd (tr_si h 0 11 0) fun th2 =>
  some (tv1, th2)
noncomputable def f_X7_fault (h : tr_H) : Option (Int32 × tr_H) :=
  tr_b2 (f_X3_read (h.1 0 11) 4 h) fun tv2 th3 =>
  some (tv2, th3)
noncomputable def f_X7_net_E65 (th9 : tr_H) : Option (Int32 × tr_H) :=
  tr_bn (f_X2_waits 2 th9) fun tv11 =>
  some (tv11, th9)
noncomputable def f_X7_net_L47 (tv12 : Int32) (th13 : tr_H) : Option ((Int32 × tr_H) ⊕ tr_H) :=
  if 2 ≤ tv12 then
  (some (.inr th13))
  else
  (tr_gd tv12 2 <|
  tr_bd (tr_si th13 11 tv12.toNatClampNeg 0) fun th16 =>
  tr_bd (tv12 + 1) fun tv17 =>
  some (.inl (tv17, th16)))
noncomputable def f_X7_net (h : tr_H) : Option (Int32 × tr_H) :=
  tr_b2 (f_X3_read (h.1 0 11) 4 h) fun tv2 th3 =>
  if tv2 = (-9) then
  (tr_bn (f_X2_copyFrom 2 4 th3) fun th6 =>
  tr_bn (f_X1_forget th6) fun th8 =>
  tr_bn (tr_lp (fun q => f_X7_net_L47 q.1 q.2) (0, th8)) (fun q => f_X7_net_E65 q))
  else
  (some ((-3), th3))
noncomputable def f_X7_aboutEachWait_E123 (tv900 : Int32) (th2 : tr_H) (tv3 : Int32) (tv4 : Int32) (tv5 : Int32) : Option (Int32 × tr_H) :=
  if tv900 = 3 then
  (some (tv3, th2))
  else
  (if tv900 = 4 then
  (some (tv4, th2))
  else
  (some (tv5, th2)))
noncomputable def f_X7_aboutEachWait_E117 (tv11 : Int32) (tv13 : Int32) (tv14 : Int32) (tv15 : Int32) : Option ((Int32 × Int32 × Int32 × Int32) ⊕ (Int32 × Int32 × Int32)) :=
  tr_bd (tv11 + 1) fun tv16 =>
  some (.inl (tv13, tv14, tv15, tv16))
noncomputable def f_X7_aboutEachWait_J81 (tv11 : Int32) (tv20 : Int32) (th2 : tr_H) (tv18 : Int32) (tv19 : Int32) (tv24 : Int32) : Option ((Int32 × Int32 × Int32 × Int32) ⊕ (Int32 × Int32 × Int32)) :=
  tr_bn (f_X6_isCritical 2 tv11 tv20 th2) fun tv26 =>
  if tv26 = 0 then
  (tr_bd (tv20 + 1) fun tv28 =>
  some (.inl (tv24, tv18, tv19, tv28)))
  else
  (tr_bd (tv18 + 1) fun tv29 =>
  tr_bd (tv19 ||| (1 <<< (tv11 &&& 31))) fun tv30 =>
  tr_bd (tv20 + 1) fun tv31 =>
  some (.inl (tv24, tv29, tv30, tv31)))
noncomputable def f_X7_aboutEachWait_L36 (th2 : tr_H) (tv11 : Int32) (tv17 : Int32) (tv18 : Int32) (tv19 : Int32) (tv20 : Int32) : Option ((Int32 × Int32 × Int32 × Int32) ⊕ (Int32 × Int32 × Int32)) :=
  if (th2.1 2 1) ≤ tv20 then
  (some (.inr (tv17, tv18, tv19)))
  else
  (tr_bn (f_X2_of 2 tv11 tv20 th2) fun tv23 =>
  if tv23 = (-9) then
  (f_X7_aboutEachWait_J81 tv11 tv20 th2 tv18 tv19 tv17)
  else
  (tr_bn (f_X6_comesBack tv11 tv20 th2) fun tv34 =>
  if tv34 = 0 then
  (tr_bd (tv17 + 1) fun tv36 =>
  f_X7_aboutEachWait_J81 tv11 tv20 th2 tv18 tv19 tv36)
  else
  (f_X7_aboutEachWait_J81 tv11 tv20 th2 tv18 tv19 tv17)))
noncomputable def f_X7_aboutEachWait_L21 (th2 : tr_H) (tv8 : Int32) (tv9 : Int32) (tv10 : Int32) (tv11 : Int32) : Option ((Int32 × Int32 × Int32 × Int32) ⊕ (Int32 × Int32 × Int32)) :=
  if (th2.1 2 1) ≤ tv11 then
  (some (.inr (tv8, tv9, tv10)))
  else
  (tr_bn (tr_lp (fun q => f_X7_aboutEachWait_L36 th2 tv11 q.1 q.2.1 q.2.2.1 q.2.2.2) (tv8, tv9, tv10, 0)) (fun q => f_X7_aboutEachWait_E117 tv11 q.1 q.2.1 q.2.2))
noncomputable def f_X7_aboutEachWait (tv900 : Int32) (h : tr_H) : Option (Int32 × tr_H) :=
  tr_bn (f_X6_compare 2 h) fun th2 =>
  tr_bn (tr_lp (fun q => f_X7_aboutEachWait_L21 th2 q.1 q.2.1 q.2.2.1 q.2.2.2) (0, 0, 0, 0)) (fun q => f_X7_aboutEachWait_E123 tv900 th2 q.1 q.2.1 q.2.2)
noncomputable def f_X7_leastPeriod (h : tr_H) : Option (Int32 × tr_H) :=
  tr_b2 (f_X6_slowest 2 h) fun tv2 th3 =>
  tr_bd (tr_max 0 tv2) fun tv4 =>
  some (((tv4 + 60) - 1) / 60, th3)
noncomputable def f_X7_about (tv900 : Int32) (h : tr_H) : Option (Int32 × tr_H) :=
  if tv900 = 0 then
  (some (h.1 2 1, h))
  else
  if tv900 = 1 then
  (tr_bn (f_X2_waits 2 h) fun tv4 =>
  some (tv4, h))
  else
  if tv900 = 2 then
  (tr_bn (f_X4_fill 2 h) fun th7 =>
  some (th7.1 27 3, th7))
  else
  if tv900 = 3 then
  (tr_b2 (f_X7_aboutEachWait tv900 h) fun tv10 th11 =>
  some (tv10, th11))
  else
  if tv900 = 4 then
  (tr_b2 (f_X7_aboutEachWait tv900 h) fun tv14 th15 =>
  some (tv14, th15))
  else
  if tv900 = 5 then
  (tr_b2 (f_X7_aboutEachWait tv900 h) fun tv18 th19 =>
  some (tv18, th19))
  else
  if tv900 = 6 then
  (tr_b2 (f_X7_leastPeriod h) fun tv22 th23 =>
  some (tv22, th23))
  else
  if tv900 = 7 then
  (some (h.1 13 3, h))
  else
  if tv900 = 8 then
  (some (h.1 17 3, h))
  else
  if tv900 = 9 then
  (some (h.1 0 11, h))
  else
  (some ((-2), h))
noncomputable def f_X7_minutes (tv900 : Int32) (tv901 : Int32) (h : tr_H) : Option Int32 :=
  tr_bn (f_X2_has 2 tv900 h) fun tv2 =>
  if tv2 = 0 then
  (some (-1))
  else
  (tr_bn (f_X2_has 2 tv901 h) fun tv5 =>
  if tv5 = 0 then
  (some (-1))
  else
  (tr_bn (f_X2_of 2 tv900 tv901 h) fun tv8 =>
  some tv8))
noncomputable def f_X7_change (tv900 : Int32) (tv901 : Int32) (tv902 : Int32) (h : tr_H) : Option (Int32 × tr_H) :=
  tr_bn (f_X2_of 2 tv900 tv901 h) fun tv2 =>
  tr_bn (f_X1_add tv900 tv901 tv2 h) fun th4 =>
  tr_b2 (f_X2_lay 2 tv900 tv901 tv902 th4) fun tv6 th7 =>
  some (tv2, th7)
noncomputable def f_X7_put (tv900 : Int32) (tv901 : Int32) (tv902 : Int32) (h : tr_H) : Option (Int32 × tr_H) :=
  tr_bn (f_X2_has 2 tv900 h) fun tv2 =>
  if tv2 = 0 then
  (some ((-1), h))
  else
  (tr_bn (f_X2_has 2 tv901 h) fun tv5 =>
  if tv5 = 0 then
  (some ((-1), h))
  else
  (if tv902 < 0 then
  (some ((-2), h))
  else
  (if tv902 ≤ 9 then
  (tr_bn (f_X2_of 2 tv900 tv901 h) fun tv10 =>
  if tv10 = (-9) then
  (tr_b2 (f_X7_change tv900 tv901 tv902 h) fun tv13 th14 =>
  tr_bn (f_X2_waits 2 th14) fun tv16 =>
  some (tv16, th14))
  else
  (some ((-3), h)))
  else
  (some ((-2), h)))))
noncomputable def f_X7_cut (tv900 : Int32) (tv901 : Int32) (h : tr_H) : Option (Int32 × tr_H) :=
  tr_bn (f_X2_has 2 tv900 h) fun tv2 =>
  if tv2 = 0 then
  (some ((-1), h))
  else
  (tr_bn (f_X2_has 2 tv901 h) fun tv5 =>
  if tv5 = 0 then
  (some ((-1), h))
  else
  (tr_bn (f_X2_of 2 tv900 tv901 h) fun tv8 =>
  if tv8 = (-9) then
  (some ((-3), h))
  else
  (tr_b2 (f_X7_change tv900 tv901 (-9) h) fun tv11 th12 =>
  some (tv11, th12))))
noncomputable def f_X7_time (tv900 : Int32) (tv901 : Int32) (tv902 : Int32) (h : tr_H) : Option (Int32 × tr_H) :=
  tr_bn (f_X2_has 2 tv900 h) fun tv2 =>
  if tv2 = 0 then
  (some ((-1), h))
  else
  (tr_bn (f_X2_has 2 tv901 h) fun tv5 =>
  if tv5 = 0 then
  (some ((-1), h))
  else
  (if tv902 < 0 then
  (some ((-2), h))
  else
  (if tv902 ≤ 9 then
  (tr_bn (f_X2_of 2 tv900 tv901 h) fun tv10 =>
  if tv10 = (-9) then
  (some ((-3), h))
  else
  (tr_b2 (f_X7_change tv900 tv901 tv902 h) fun tv13 th14 =>
  some (tv13, th14)))
  else
  (some ((-2), h)))))
noncomputable def f_X7_undo (h : tr_H) : Option (Int32 × tr_H) :=
  if (h.1 13 3) = 0 then
  (some ((-3), h))
  else
  (tr_bn (f_X1_takeBack 2 h) fun th3 =>
  some (th3.1 13 3, th3))
noncomputable def f_X7_commonDivisor_E34 (tv1 : Int32) : Option Int32 :=
  some (tr_max 1 tv1)
noncomputable def f_X7_commonDivisor_L7 (tv2 : Int32) (tv3 : Int32) (tv4 : Int32) : Option ((Int32 × Int32 × Int32) ⊕ Int32) :=
  if 64 ≤ tv4 then
  (some (.inr tv2))
  else
  (if tv3 = 0 then
  (some (.inr tv2))
  else
  (tr_nz tv3 <|
  tr_bd (tv2 - tv2 / tv3 * tv3) fun tv8 =>
  tr_bd (tv4 + 1) fun tv9 =>
  some (.inl (tv3, tv8, tv9))))
noncomputable def f_X7_commonDivisor (tv900 : Int32) (tv901 : Int32) : Option Int32 :=
  tr_bn (tr_lp (fun q => f_X7_commonDivisor_L7 q.1 q.2.1 q.2.2) (tv900, tv901, 0)) (fun q => f_X7_commonDivisor_E34 q)
noncomputable def f_X7_told (tv900 : Int32) (tv901 : Int32) (tv902 : Int32) : Option Int32 :=
  tr_bn (f_X7_commonDivisor tv900 tv901) fun tv2 =>
  if tv902 = 0 then
  (tr_nz tv2 <|
  some (tv901 / tv2))
  else
  (tr_nz tv2 <|
  some (tv900 / tv2))
noncomputable def f_X7_pace (tv900 : Int32) (h : tr_H) : Option (Int32 × tr_H) :=
  tr_b2 (f_X6_slowest 2 h) fun tv2 th3 =>
  if tv2 = (-1) then
  (some ((-9), th3))
  else
  (tr_bn (f_X7_told tv2 60 tv900) fun tv6 =>
  some (tv6, th3))
noncomputable def f_X7_critical (tv900 : Int32) (tv901 : Int32) (h : tr_H) : Option (Int32 × tr_H) :=
  tr_bn (f_X2_has 2 tv900 h) fun tv2 =>
  if tv2 = 0 then
  (some ((-1), h))
  else
  (tr_bn (f_X2_has 2 tv901 h) fun tv5 =>
  if tv5 = 0 then
  (some ((-1), h))
  else
  (tr_bn (f_X2_of 2 tv900 tv901 h) fun tv8 =>
  if tv8 = (-9) then
  (some ((-3), h))
  else
  (tr_bn (f_X6_compare 2 h) fun th11 =>
  tr_bn (f_X6_isCritical 2 tv900 tv901 th11) fun tv13 =>
  if tv13 = 0 then
  (some (0, th11))
  else
  (some (1, th11)))))
noncomputable def f_X7_departs (tv900 : Int32) (tv901 : Int32) (h : tr_H) : Option (Int32 × tr_H) :=
  tr_bn (f_X2_has 2 tv900 h) fun tv2 =>
  if tv2 = 0 then
  (some ((-1), h))
  else
  (if tv901 < 0 then
  (some ((-2), h))
  else
  (if tv901 ≤ 20 then
  (tr_b2 (f_X6_isKept 2 tv901 h) fun tv7 th8 =>
  if tv7 = 0 then
  (some ((-3), th8))
  else
  (tr_bn (f_X0_settle 2 tv901 th8) fun th11 =>
  tr_bn (f_X0_timeOf tv900 th11) fun tv13 =>
  some (tv13, th11)))
  else
  (some ((-2), h))))
noncomputable def f_X7_spare (tv900 : Int32) (tv901 : Int32) (tv902 : Int32) (h : tr_H) : Option (Int32 × tr_H) :=
  tr_bn (f_X2_has 2 tv900 h) fun tv2 =>
  if tv2 = 0 then
  (some ((-1), h))
  else
  (tr_bn (f_X2_has 2 tv901 h) fun tv5 =>
  if tv5 = 0 then
  (some ((-1), h))
  else
  (if tv902 < 0 then
  (some ((-2), h))
  else
  (if tv902 ≤ 20 then
  (tr_bn (f_X2_of 2 tv900 tv901 h) fun tv10 =>
  if tv10 = (-9) then
  (some ((-3), h))
  else
  (tr_b2 (f_X6_isKept 2 tv902 h) fun tv13 th14 =>
  if tv13 = 0 then
  (some ((-3), th14))
  else
  (tr_bn (f_X0_settle 2 tv902 th14) fun th17 =>
  tr_bn (f_X0_spareOf 2 tv900 tv901 th17) fun tv19 =>
  some (tv19, th17))))
  else
  (some ((-2), h)))))
noncomputable def f_X7_late (tv900 : Int32) (tv901 : Int32) (tv902 : Int32) (tv903 : Int32) (tv904 : Int32) (h : tr_H) : Option (Int32 × tr_H) :=
  tr_bn (f_X2_has 2 tv900 h) fun tv2 =>
  if tv2 = 0 then
  (some ((-1), h))
  else
  (tr_bn (f_X2_has 2 tv903 h) fun tv5 =>
  if tv5 = 0 then
  (some ((-1), h))
  else
  (if tv901 < 1 then
  (some ((-2), h))
  else
  (if 30 < tv901 then
  (some ((-2), h))
  else
  (if tv902 < 0 then
  (some ((-2), h))
  else
  (if tv902 ≤ 20 then
  (if tv904 < 0 then
  (some ((-2), h))
  else
  (if tv904 ≤ 40 then
  (tr_b2 (f_X6_isKept 2 tv902 h) fun tv14 th15 =>
  if tv14 = 0 then
  (some ((-3), th15))
  else
  (tr_bn (f_X0_settle 2 tv902 th15) fun th18 =>
  tr_bn (f_X0_spread 2 tv900 tv904 th18) fun th20 =>
  tr_bn (f_X0_lateness tv901 tv903 tv904 th20) fun tv22 =>
  some (tv22, th20)))
  else
  (some ((-2), h))))
  else
  (some ((-2), h)))))))
noncomputable def f_X7_lastsUntil (tn1 : Nat) (tv901 : Int32) (tv902 : Int32) (tv903 : Int32) (h : tr_H) : Option (Int32 × tr_H) :=
  tr_bn (f_X0_settle tn1 tv903 h) fun th2 =>
  tr_bn (f_X0_spread tn1 tv901 40 th2) fun th4 =>
  tr_bn (f_X0_firstQuietRound tv902 (th4.1 tn1 1) th4) fun tv6 =>
  some (tv6, th4)
noncomputable def f_X7_dies (tv900 : Int32) (tv901 : Int32) (tv902 : Int32) (h : tr_H) : Option (Int32 × tr_H) :=
  tr_bn (f_X2_has 2 tv900 h) fun tv2 =>
  if tv2 = 0 then
  (some ((-1), h))
  else
  (if tv901 < 1 then
  (some ((-2), h))
  else
  (if 30 < tv901 then
  (some ((-2), h))
  else
  (if tv902 < 0 then
  (some ((-2), h))
  else
  (if tv902 ≤ 20 then
  (tr_b2 (f_X6_isKept 2 tv902 h) fun tv9 th10 =>
  if tv9 = 0 then
  (some ((-3), th10))
  else
  (tr_b2 (f_X7_lastsUntil 2 tv900 tv901 tv902 th10) fun tv13 th14 =>
  some (tv13, th14)))
  else
  (some ((-2), h))))))
noncomputable def f_X7_best_E173 (tv3 : Int32) (th4 : tr_H) : Option (Int32 × tr_H) :=
  some (tv3, th4)
noncomputable def f_X7_best_E167 (tv7 : Int32) (tv10 : Int32) (tv11 : Int32) (th12 : tr_H) : Option ((Int32 × Int32 × Int32 × tr_H) ⊕ (Int32 × tr_H)) :=
  tr_bd (tv7 + 1) fun tv13 =>
  some (.inl (tv10, tv11, tv13, th12))
noncomputable def f_X7_best_J112 (tv7 : Int32) (tv16 : Int32) (th17 : tr_H) (tv20 : Int32) (tv15 : Int32) (tv14 : Int32) (tv23 : Int32) : Option ((Int32 × Int32 × Int32 × tr_H) ⊕ (Int32 × Int32 × tr_H)) :=
  tr_b2 (f_X2_lay 4 tv7 tv16 tv23 th17) fun tv25 th26 =>
  tr_b2 (f_X6_slowest 4 th26) fun tv28 th29 =>
  tr_b2 (f_X2_lay 4 tv7 tv16 tv20 th29) fun tv31 th32 =>
  if tv15 ≤ tv28 then
  (tr_bd (tv16 + 1) fun tv34 =>
  some (.inl (tv14, tv15, tv34, th32)))
  else
  (tr_bd ((10 * tv7) + tv16) fun tv35 =>
  tr_bd (tv16 + 1) fun tv36 =>
  some (.inl (tv35, tv28, tv36, th32)))
noncomputable def f_X7_best_J91 (tv900 : Int32) (tv7 : Int32) (tv16 : Int32) (th17 : tr_H) (tv20 : Int32) (tv15 : Int32) (tv14 : Int32) : Option ((Int32 × Int32 × Int32 × tr_H) ⊕ (Int32 × Int32 × tr_H)) :=
  if tv900 = 0 then
  (f_X7_best_J112 tv7 tv16 th17 tv20 tv15 tv14 (tv20 - 1))
  else
  (f_X7_best_J112 tv7 tv16 th17 tv20 tv15 tv14 (-9))
noncomputable def f_X7_best_L47 (tv7 : Int32) (tv900 : Int32) (tv14 : Int32) (tv15 : Int32) (tv16 : Int32) (th17 : tr_H) : Option ((Int32 × Int32 × Int32 × tr_H) ⊕ (Int32 × Int32 × tr_H)) :=
  if (th17.1 2 1) ≤ tv16 then
  (some (.inr (tv14, tv15, th17)))
  else
  (tr_bn (f_X2_of 2 tv7 tv16 th17) fun tv20 =>
  if tv20 = (-9) then
  (tr_bd (tv16 + 1) fun tv22 =>
  some (.inl (tv14, tv15, tv22, th17)))
  else
  (if tv900 = 0 then
  (if tv20 = 0 then
  (tr_bd (tv16 + 1) fun tv40 =>
  some (.inl (tv14, tv15, tv40, th17)))
  else
  (f_X7_best_J91 tv900 tv7 tv16 th17 tv20 tv15 tv14))
  else
  (f_X7_best_J91 tv900 tv7 tv16 th17 tv20 tv15 tv14)))
noncomputable def f_X7_best_L32 (tv900 : Int32) (tv5 : Int32) (tv6 : Int32) (tv7 : Int32) (th8 : tr_H) : Option ((Int32 × Int32 × Int32 × tr_H) ⊕ (Int32 × tr_H)) :=
  if (th8.1 2 1) ≤ tv7 then
  (some (.inr (tv5, th8)))
  else
  (tr_bn (tr_lp (fun q => f_X7_best_L47 tv7 tv900 q.1 q.2.1 q.2.2.1 q.2.2.2) (tv5, tv6, 0, th8)) (fun q => f_X7_best_E167 tv7 q.1 q.2.1 q.2.2))
noncomputable def f_X7_best_J12 (h : tr_H) (tv900 : Int32) : Option (Int32 × tr_H) :=
  tr_bn (f_X2_copyFrom 4 2 h) fun th2 =>
  tr_bn (tr_lp (fun q => f_X7_best_L32 tv900 q.1 q.2.1 q.2.2.1 q.2.2.2) ((-9), 1000000, 0, th2)) (fun q => f_X7_best_E173 q.1 q.2)
noncomputable def f_X7_best (tv900 : Int32) (h : tr_H) : Option (Int32 × tr_H) :=
  if tv900 = 0 then
  (f_X7_best_J12 h tv900)
  else
  (if tv900 = 1 then
  (f_X7_best_J12 h tv900)
  else
  (some ((-2), h)))
noncomputable def f_X7_figuresOf_E23 (tv1 : Int64) : Option Int32 :=
  some ((tv1 - tv1 / 10000 * 10000 : Int64).toInt32)
noncomputable def f_X7_figuresOf_L5 (tv901 : Int32) (tv2 : Int64) (tv3 : Int32) : Option ((Int64 × Int32) ⊕ Int64) :=
  if tv901 ≤ tv3 then
  (some (.inr tv2))
  else
  (tr_bd (tv2 / 10000) fun tv5 =>
  tr_bd (tv3 + 1) fun tv6 =>
  some (.inl (tv5, tv6)))
noncomputable def f_X7_figuresOf (tv900 : Int64) (tv901 : Int32) : Option Int32 :=
  tr_bn (tr_lp (fun q => f_X7_figuresOf_L5 tv901 q.1 q.2) (tv900, 0)) (fun q => f_X7_figuresOf_E23 q)
noncomputable def f_X7_departsAt (tv900 : Int32) (tv901 : Int32) (h : tr_H) : Option (Int32 × tr_H) :=
  tr_b2 (f_X6_isKept 4 10 h) fun tv2 th3 =>
  if tv2 = 0 then
  (some (0, th3))
  else
  (tr_bn (f_X0_settle 4 10 th3) fun th6 =>
  tr_bn (f_X0_timeOf tv900 th6) fun tv8 =>
  if tv8 = tv901 then
  (some (1, th6))
  else
  (some (0, th6)))
noncomputable def f_X7_isOver (tv900 : Int32) (tv901 : Int32) (h : tr_H) : Option (Int32 × tr_H) :=
  if tv901 < 1 then
  (some (0, h))
  else
  (if 30 < tv901 then
  (some (0, h))
  else
  (tr_b2 (f_X6_isKept 4 10 h) fun tv4 th5 =>
  if tv4 = 0 then
  (some (0, th5))
  else
  (tr_b2 (f_X7_lastsUntil 4 tv900 tv901 10 th5) fun tv8 th9 =>
  if tv8 = (-9) then
  (some (0, th9))
  else
  (some (1, th9)))))
noncomputable def f_X7_holds_J50 (tv900 : Int32) (tv1 : Int32) (h : tr_H) (tv2 : Int32) (tv3 : Int32) (tv4 : Int32) (tv7 : Int32) : Option (Int32 × tr_H) :=
  tr_bd (tv900 / 1000) fun tv8 =>
  if tv8 = 1 then
  (tr_bn (f_X2_has 4 tv1 h) fun tv11 =>
  if tv11 = 0 then
  (some (0, h))
  else
  (tr_bn (f_X2_has 4 tv2 h) fun tv14 =>
  if tv14 = 0 then
  (some (0, h))
  else
  (if tv7 = 0 then
  (tr_b2 (f_X2_lay 4 tv1 tv2 tv3 h) fun tv18 th19 =>
  if tv18 = 0 then
  (some (0, th19))
  else
  (some (1, th19)))
  else
  (some (0, h)))))
  else
  if tv8 = 2 then
  (if tv7 = 0 then
  (some (0, h))
  else
  (if tv3 = 0 then
  (tr_b2 (f_X2_lay 4 tv1 tv2 (-9) h) fun tv25 th26 =>
  if tv25 = 0 then
  (some (0, th26))
  else
  (some (1, th26)))
  else
  (some (0, h))))
  else
  if tv8 = 3 then
  (if tv7 = 0 then
  (some (0, h))
  else
  (tr_b2 (f_X2_lay 4 tv1 tv2 tv3 h) fun tv31 th32 =>
  if tv31 = 0 then
  (some (0, th32))
  else
  (some (1, th32))))
  else
  if tv8 = 4 then
  (if tv1 = 0 then
  (if 20 < tv4 then
  (some (0, h))
  else
  (tr_b2 (f_X6_isKept 4 tv4 h) fun tv38 th39 =>
  if tv38 = 0 then
  (some (0, th39))
  else
  (some (1, th39))))
  else
  (some (0, h)))
  else
  if tv8 = 5 then
  (tr_bn (f_X6_compare 4 h) fun th43 =>
  if tv3 = 0 then
  (tr_bn (f_X6_isCritical 4 tv1 tv2 th43) fun tv46 =>
  if tv46 = 0 then
  (some (0, th43))
  else
  (some (1, th43)))
  else
  (some (0, th43)))
  else
  if tv8 = 6 then
  (tr_bn (f_X2_has 4 tv1 h) fun tv50 =>
  if tv50 = 0 then
  (some (0, h))
  else
  (tr_b2 (f_X7_departsAt tv1 tv4 h) fun tv53 th54 =>
  if tv53 = 0 then
  (some (0, th54))
  else
  (some (1, th54))))
  else
  if tv8 = 7 then
  (tr_bn (f_X2_has 4 tv1 h) fun tv58 =>
  if tv58 = 0 then
  (some (0, h))
  else
  (tr_b2 (f_X7_isOver tv1 tv4 h) fun tv61 th62 =>
  if tv61 = 0 then
  (some (0, th62))
  else
  (some (1, th62))))
  else
  (some (0, h))
noncomputable def f_X7_holds (tv900 : Int32) (h : tr_H) : Option (Int32 × tr_H) :=
  tr_bd ((tv900 / 100) - (tv900 / 100) / 10 * 10) fun tv1 =>
  tr_bd ((tv900 / 10) - (tv900 / 10) / 10 * 10) fun tv2 =>
  tr_bd (tv900 - tv900 / 10 * 10) fun tv3 =>
  tr_bd ((10 * tv2) + tv3) fun tv4 =>
  tr_bn (f_X2_of 4 tv1 tv2 h) fun tv6 =>
  if tv6 = (-9) then
  (f_X7_holds_J50 tv900 tv1 h tv2 tv3 tv4 0)
  else
  (f_X7_holds_J50 tv900 tv1 h tv2 tv3 tv4 1)
noncomputable def f_X7_judge_E75 (th8 : tr_H) : Option (Int32 × tr_H) :=
  some ((-9), th8)
noncomputable def f_X7_judge_L43 (tv900 : Int32) (tv901 : Int64) (tv9 : Int32) (th10 : tr_H) : Option ((Int32 × tr_H) ⊕ (tr_H ⊕ (Int32 × tr_H))) :=
  if tv900 ≤ tv9 then
  (some (.inr (.inl th10)))
  else
  (tr_bn (f_X7_figuresOf tv901 ((tv900 - 1) - tv9)) fun tv13 =>
  tr_b2 (f_X7_holds tv13 th10) fun tv15 th16 =>
  if tv15 = 0 then
  (some (.inr (.inr (tv9, th16))))
  else
  (tr_bd (tv9 + 1) fun tv18 =>
  some (.inl (tv18, th16))))
noncomputable def f_X7_judge (tv900 : Int32) (tv901 : Int64) (h : tr_H) : Option (Int32 × tr_H) :=
  if tv900 < 1 then
  (some ((-2), h))
  else
  (if 4 < tv900 then
  (some ((-2), h))
  else
  (if (lg_cmp tv901 0) < 0 then
  (some ((-2), h))
  else
  (tr_gd tv900 5 <|
  if (lg_cmp tv901 (tr_f2 tv900.toNatClampNeg)) < 0 then
  (tr_bn (f_X2_copyFrom 4 2 h) fun th7 =>
  tr_bn (tr_lp (fun q => f_X7_judge_L43 tv900 tv901 q.1 q.2) (0, th7)) (fun q => Sum.elim (fun x => f_X7_judge_E75 x) (fun x => some x) q))
  else
  (some ((-2), h)))))
noncomputable def f_X7_share (tv900 : Int32) (tv901 : Int32) (h : tr_H) : Option (Int32 × tr_H) :=
  tr_bn (f_X2_has 2 tv900 h) fun tv2 =>
  if tv2 = 0 then
  (some ((-1), h))
  else
  (tr_bn (f_X4_fill 2 h) fun th5 =>
  tr_bd (th5.1 2 1) fun tv6 =>
  tr_gd tv6 7 <|
  tr_bd (tr_f1 tv6.toNatClampNeg) fun tv8 =>
  tr_bn (f_X4_added tv900 (th5.1 2 1) th5) fun tv10 =>
  tr_bn (f_X7_told tv10 (tv8 * 60) tv901) fun tv12 =>
  some (tv12, th5))
noncomputable def f_X7_see (tv900 : Int32) (tv901 : Int32) (tv902 : Int32) (h : tr_H) : Option (Int32 × tr_H) :=
  tr_bn (f_X2_has 2 tv900 h) fun tv2 =>
  if tv2 = 0 then
  (some ((-1), h))
  else
  (if tv901 < 1 then
  (some ((-2), h))
  else
  (if 9 < tv901 then
  (some ((-2), h))
  else
  (if tv902 < 0 then
  (some ((-2), h))
  else
  (if tv902 ≤ 1 then
  (tr_b2 (f_X5_add tv900 tv901 tv902 h) fun tv9 th10 =>
  if tv9 = 0 then
  (some ((-4), th10))
  else
  (some (th10.1 17 3, th10)))
  else
  (some ((-2), h))))))
noncomputable def f_X7_unsee (h : tr_H) : Option (Int32 × tr_H) :=
  tr_bd (h.1 17 3) fun tv1 =>
  tr_bd (tr_si h 17 3 0) fun th2 =>
  some (tv1, th2)
noncomputable def f_X7_began_J141 (tv900 : Int32) (tv4 : Int32) (tv5 : Int32) (th6 : tr_H) : Option (Int32 × tr_H) :=
  if tv900 = 0 then
  (some (tv5, th6))
  else
  (some (tv4, th6))
noncomputable def f_X7_began_E141 (tv900 : Int32) (tv11 : Int32) (tv12 : Int32) (th13 : tr_H) : Option (Int32 × tr_H) :=
  f_X7_began_J141 tv900 tv11 tv12 th13
noncomputable def f_X7_began_E135 (tv16 : Int32) (th20 : tr_H) (tv21 : Int32) (tv22 : Int32) : Option ((Int32 × Int32 × Int32 × tr_H) ⊕ (Int32 × Int32 × tr_H)) :=
  tr_bd (tv16 + 1) fun tv23 =>
  some (.inl (tv21, tv22, tv23, th20))
noncomputable def f_X7_began_L79 (th20 : tr_H) (tv16 : Int32) (tv24 : Int32) (tv25 : Int32) (tv26 : Int32) : Option ((Int32 × Int32 × Int32) ⊕ (Int32 × Int32)) :=
  if 30 < tv26 then
  (some (.inr (tv24, tv25)))
  else
  (tr_bn (f_X5_fits tv26 (th20.1 2 1) th20) fun tv29 =>
  if tv29 = 0 then
  (tr_bd (tv26 + 1) fun tv31 =>
  some (.inl (tv24, tv25, tv31)))
  else
  (if tv25 = 0 then
  (tr_bd ((100 * tv16) + tv26) fun tv35 =>
  tr_bd (tv25 + 1) fun tv36 =>
  tr_bd (tv26 + 1) fun tv37 =>
  some (.inl (tv35, tv36, tv37)))
  else
  (tr_bd (tv25 + 1) fun tv33 =>
  tr_bd (tv26 + 1) fun tv34 =>
  some (.inl (tv24, tv33, tv34)))))
noncomputable def f_X7_began_L49 (tv14 : Int32) (tv15 : Int32) (tv16 : Int32) (th17 : tr_H) : Option ((Int32 × Int32 × Int32 × tr_H) ⊕ (Int32 × Int32 × tr_H)) :=
  if (th17.1 2 1) ≤ tv16 then
  (some (.inr (tv14, tv15, th17)))
  else
  (tr_bn (f_X0_spread 2 tv16 9 th17) fun th20 =>
  tr_bn (tr_lp (fun q => f_X7_began_L79 th20 tv16 q.1 q.2.1 q.2.2) (tv14, tv15, 1)) (fun q => f_X7_began_E135 tv16 th20 q.1 q.2))
noncomputable def f_X7_began_J12 (h : tr_H) (tv900 : Int32) : Option (Int32 × tr_H) :=
  tr_b2 (f_X6_isKept 2 10 h) fun tv2 th3 =>
  if tv2 = 0 then
  (f_X7_began_J141 tv900 (-9) 0 th3)
  else
  (tr_bn (f_X0_settle 2 10 th3) fun th10 =>
  tr_bn (tr_lp (fun q => f_X7_began_L49 q.1 q.2.1 q.2.2.1 q.2.2.2) ((-9), 0, 0, th10)) (fun q => f_X7_began_E141 tv900 q.1 q.2.1 q.2.2))
noncomputable def f_X7_began (tv900 : Int32) (h : tr_H) : Option (Int32 × tr_H) :=
  if tv900 = 0 then
  (f_X7_began_J12 h tv900)
  else
  (if tv900 = 1 then
  (f_X7_began_J12 h tv900)
  else
  (some ((-2), h)))
noncomputable def f_X7_dropped_E193 (tv903 : Int32) (tv15 : Int32) (tv16 : Int32) (th17 : tr_H) : Option (Int32 × tr_H) :=
  tr_bn (f_X7_told tv15 tv16 tv903) fun tv19 =>
  some (tv19, th17)
noncomputable def f_X7_dropped_L113 (tv900 : Int32) (tv901 : Int32) (tv902 : Int32) (tv20 : Int32) (tv21 : Int32) (tv22 : Int32) (th23 : tr_H) : Option ((Int32 × Int32 × Int32 × tr_H) ⊕ (Int32 × Int32 × tr_H)) :=
  if (th23.1 2 1) ≤ tv22 then
  (some (.inr (tv20, tv21, th23)))
  else
  (tr_bn (f_X2_of 2 tv900 tv22 th23) fun tv26 =>
  tr_b2 (f_X2_lay 4 tv900 tv22 tv26 th23) fun tv28 th29 =>
  tr_b2 (f_X6_isKept 4 tv901 th29) fun tv31 th32 =>
  if tv31 = 0 then
  (tr_bd (tv20 * tv902) fun tv38 =>
  tr_bd (tv21 * 10) fun tv39 =>
  tr_b2 (f_X2_lay 4 tv900 tv22 (-9) th32) fun tv41 th42 =>
  tr_bd (tv22 + 1) fun tv43 =>
  some (.inl (tv38, tv39, tv43, th42)))
  else
  (tr_b2 (f_X2_lay 4 tv900 tv22 (-9) th32) fun tv35 th36 =>
  tr_bd (tv22 + 1) fun tv37 =>
  some (.inl (tv20, tv21, tv37, th36))))
noncomputable def f_X7_dropped_E81 (tv901 : Int32) (tv903 : Int32) (tv900 : Int32) (tv902 : Int32) (th10 : tr_H) : Option (Int32 × tr_H) :=
  tr_b2 (f_X6_isKept 4 tv901 th10) fun tv12 th13 =>
  if tv12 = 0 then
  (tr_bn (f_X7_told 0 1 tv903) fun tv45 =>
  some (tv45, th13))
  else
  (tr_bn (tr_lp (fun q => f_X7_dropped_L113 tv900 tv901 tv902 q.1 q.2.1 q.2.2.1 q.2.2.2) (1, 1, 0, th13)) (fun q => f_X7_dropped_E193 tv903 q.1 q.2.1 q.2.2))
noncomputable def f_X7_dropped_L50 (tv900 : Int32) (tv46 : Int32) (th47 : tr_H) : Option ((Int32 × tr_H) ⊕ tr_H) :=
  if (th47.1 2 1) ≤ tv46 then
  (some (.inr th47))
  else
  (tr_b2 (f_X2_lay 4 tv900 tv46 (-9) th47) fun tv50 th51 =>
  tr_bd (tv46 + 1) fun tv52 =>
  some (.inl (tv52, th51)))
noncomputable def f_X7_dropped (tv900 : Int32) (tv901 : Int32) (tv902 : Int32) (tv903 : Int32) (h : tr_H) : Option (Int32 × tr_H) :=
  tr_bn (f_X2_has 2 tv900 h) fun tv2 =>
  if tv2 = 0 then
  (some ((-1), h))
  else
  (if tv901 < 0 then
  (some ((-2), h))
  else
  (if 20 < tv901 then
  (some ((-2), h))
  else
  (if tv902 < 0 then
  (some ((-2), h))
  else
  (if tv902 ≤ 10 then
  (tr_bn (f_X2_copyFrom 4 2 h) fun th9 =>
  tr_bn (tr_lp (fun q => f_X7_dropped_L50 tv900 q.1 q.2) (0, th9)) (fun q => f_X7_dropped_E81 tv901 tv903 tv900 tv902 q))
  else
  (some ((-2), h))))))
noncomputable def f_X7_seed (tv900 : Int64) (h : tr_H) : Option (Int64 × tr_H) :=
  tr_bd (h.2 0 12) fun tv1 =>
  tr_bd (tr_sl h 0 12 tv900) fun th2 =>
  some (tv1, th2)
noncomputable def f_X7_drawn_E132 (tv5 : Int32) (th6 : tr_H) : Option (Int32 × tr_H) :=
  some (tv5, th6)
noncomputable def f_X7_drawn_J101 (tv12 : Int32) (th11 : tr_H) (tv7 : Int32) (tv8 : Int32) (tv14 : Int32) : Option ((Int32 × Int32 × tr_H) ⊕ (Int32 × tr_H)) :=
  tr_b2 (f_X2_lay 4 (tv12 - tv12 / 6 * 6) ((tv12 / 8) - (tv12 / 8) / 6 * 6) tv14 th11) fun tv16 th17 =>
  tr_b2 (f_X6_slowest 4 th17) fun tv19 th20 =>
  tr_bd (tv7 + ((tr_max 0 tv19) / 60)) fun tv21 =>
  tr_bd (tv8 + 1) fun tv22 =>
  some (.inl (tv21, tv22, th20))
noncomputable def f_X7_drawn_L29 (tv900 : Int32) (tv7 : Int32) (tv8 : Int32) (th9 : tr_H) : Option ((Int32 × Int32 × tr_H) ⊕ (Int32 × tr_H)) :=
  if tv900 ≤ tv8 then
  (some (.inr (tv7, th9)))
  else
  (tr_bd (tr_sl th9 0 12 (((th9.2 0 12) * 6364136223846793005) + 1442695040888963407)) fun th11 =>
  tr_bd ((((th11.2 0 12).toUInt64 >>> ((33 : Int32).toInt64.toUInt64 &&& Int64.toUInt64 63)).toInt64 : Int64).toInt32) fun tv12 =>
  tr_bd ((tv12 / 64) - (tv12 / 64) / 11 * 11) fun tv13 =>
  if tv13 ≤ 9 then
  (f_X7_drawn_J101 tv12 th11 tv7 tv8 tv13)
  else
  (f_X7_drawn_J101 tv12 th11 tv7 tv8 (-9)))
noncomputable def f_X7_drawn (tv900 : Int32) (h : tr_H) : Option (Int32 × tr_H) :=
  if tv900 < 1 then
  (some ((-2), h))
  else
  (if tv900 ≤ 20 then
  (tr_bn (f_X2_copyFrom 4 2 h) fun th4 =>
  tr_bn (tr_lp (fun q => f_X7_drawn_L29 tv900 q.1 q.2.1 q.2.2) (0, 0, th4)) (fun q => f_X7_drawn_E132 q.1 q.2))
  else
  (some ((-2), h)))
noncomputable def f_X7_keep (tv900 : Int32) (h : tr_H) : Option (Int32 × tr_H) :=
  if tv900 < 0 then
  (some ((-1), h))
  else
  (if tv900 < 2 then
  (tr_gd tv900 2 <|
  tr_bn (f_X2_copyFrom (6 + 2 * tv900.toNatClampNeg) 2 h) fun th5 =>
  tr_gd tv900 2 <|
  tr_bd (tr_si th5 11 tv900.toNatClampNeg 1) fun th7 =>
  tr_bn (f_X2_waits 2 th7) fun tv9 =>
  some (tv9, th7))
  else
  (some ((-1), h)))
noncomputable def f_X7_again (tv900 : Int32) (h : tr_H) : Option (Int32 × tr_H) :=
  if tv900 < 0 then
  (some ((-1), h))
  else
  (if tv900 < 2 then
  (tr_gd tv900 2 <|
  if (h.1 11 tv900.toNatClampNeg) = 0 then
  (some ((-3), h))
  else
  (tr_gd tv900 2 <|
  tr_bn (f_X2_copyFrom 2 (6 + 2 * tv900.toNatClampNeg) h) fun th7 =>
  tr_bn (f_X1_forget th7) fun th9 =>
  tr_bn (f_X2_waits 2 th9) fun tv11 =>
  some (tv11, th9)))
  else
  (some ((-1), h)))
