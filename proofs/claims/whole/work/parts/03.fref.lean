noncomputable def f_X8_in (tv900 : Int64) (tv901 : Int64) (tv902 : Int64) : Option Int32 :=
  if (lg_cmp tv900 tv901) < 0 then
  (some 0)
  else
  (if 0 < (lg_cmp tv900 tv902) then
  (some 0)
  else
  (some 1))
noncomputable def f_X8_has (tv900 : Int32) (tv901 : Int32) : Option Int32 :=
  if ((tv900 >>> (tv901 &&& 31)) &&& 1) = 1 then
  (some 1)
  else
  (some 0)
noncomputable def f_X8_many_E24 (tv1 : Int32) : Option Int32 :=
  some tv1
noncomputable def f_X8_many_L4 (tv2 : Int32) (tv3 : Int64) : Option ((Int32 × Int64) ⊕ Int32) :=
  if (lg_cmp tv3 0) ≤ 0 then
  (some (.inr tv2))
  else
  (tr_bd (tv2 + ((tv3 &&& 1 : Int64).toInt32)) fun tv5 =>
  tr_bd (tv3 >>> ((1 : Int32).toInt64 &&& 63)) fun tv6 =>
  some (.inl (tv5, tv6)))
noncomputable def f_X8_many (tv900 : Int64) : Option Int32 :=
  tr_bn (tr_lp (fun q => f_X8_many_L4 q.1 q.2) (0, tv900)) (fun q => f_X8_many_E24 q)
noncomputable def f_X8_power_E19 (tv1 : Int32) : Option Int32 :=
  some tv1
noncomputable def f_X8_power_L4 (tv901 : Int32) (tv900 : Int32) (tv2 : Int32) (tv3 : Int32) : Option ((Int32 × Int32) ⊕ Int32) :=
  if tv901 ≤ tv3 then
  (some (.inr tv2))
  else
  (tr_bd (tv2 * tv900) fun tv5 =>
  tr_bd (tv3 + 1) fun tv6 =>
  some (.inl (tv5, tv6)))
noncomputable def f_X8_power (tv900 : Int32) (tv901 : Int32) : Option Int32 :=
  tr_bn (tr_lp (fun q => f_X8_power_L4 tv901 tv900 q.1 q.2) (1, 0)) (fun q => f_X8_power_E19 q)
noncomputable def f_X8_noDeparture (tv900 : Int32) (h : tr_H) : Option Int32 :=
  tr_bn (f_X8_in ((tv900 : Int32).toInt64) 0 (((h.1 3 ((0 : Int32).toNatClampNeg)) - 1 : Int32).toInt64)) fun tv2 =>
  if tv2 = 0 then
  (some 1)
  else
  (some 0)
noncomputable def f_X8_minutesOf (tn1 : Nat) (tv901 : Int32) (tv902 : Int32) (h : tr_H) : Option Int32 :=
  tr_bd ((1 + (6 * tv901)) + tv902) fun tv1 =>
  tr_gd tv1 37 <|
  some ((h.1 tn1 tv1.toNatClampNeg) - 1)
noncomputable def f_X8_isThere (tn1 : Nat) (tv901 : Int32) (tv902 : Int32) (h : tr_H) : Option Int32 :=
  tr_bn (f_X8_minutesOf tn1 tv901 tv902 h) fun tv2 =>
  if tv2 < 0 then
  (some 0)
  else
  (some 1)
noncomputable def f_X8_write (tv900 : Int32) (h : tr_H) : Option (Int32 × tr_H) :=
  tr_bd (tr_si h 0 0 0) fun th1 =>
  tr_bn (f_X8_in ((tv900 : Int32).toInt64) 0 255) fun tv3 =>
  if tv3 = 0 then
  (some ((-2), th1))
  else
  (if (th1.1 0 2) = 64 then
  (some ((-4), th1))
  else
  (tr_bd (th1.1 0 2) fun tv6 =>
  tr_gd tv6 64 <|
  tr_bd (tr_si th1 1 tv6.toNatClampNeg tv900) fun th8 =>
  tr_bd (tr_si th8 0 2 ((th8.1 0 2) + 1)) fun th9 =>
  some (th9.1 0 2, th9)))
noncomputable def f_X8_wipe (h : tr_H) : Option (Int32 × tr_H) :=
  tr_bd (tr_si h 0 0 0) fun th1 =>
  tr_bd (th1.1 0 2) fun tv2 =>
  tr_bd (tr_si th1 0 2 0) fun th3 =>
  some (tv2, th3)
noncomputable def f_X8_figure (tv900 : Int32) (h : tr_H) : Option (Int32 × tr_H) :=
  if (h.1 0 3) = (h.1 0 2) then
  (some ((-9), h))
  else
  (tr_bd (h.1 0 3) fun tv2 =>
  tr_gd tv2 64 <|
  tr_bn (f_X8_in (((h.1 1 tv2.toNatClampNeg) - 48 : Int32).toInt64) 0 ((tv900 : Int32).toInt64)) fun tv5 =>
  if tv5 = 0 then
  (some ((-9), h))
  else
  (tr_bd (tr_si h 0 3 ((h.1 0 3) + 1)) fun th7 =>
  tr_bd ((th7.1 0 3) - 1) fun tv8 =>
  tr_gd tv8 64 <|
  some ((th7.1 1 tv8.toNatClampNeg) - 48, th7)))
noncomputable def f_X8_waitsFrom_E34 (tv1 : Int32) : Option Int32 :=
  some tv1
noncomputable def f_X8_waitsFrom_L4 (h : tr_H) (tn1 : Nat) (tv901 : Int32) (tv2 : Int32) (tv3 : Int32) : Option ((Int32 × Int32) ⊕ Int32) :=
  if (h.1 tn1 ((0 : Int32).toNatClampNeg)) ≤ tv3 then
  (some (.inr tv2))
  else
  (tr_bn (f_X8_isThere tn1 tv901 tv3 h) fun tv6 =>
  if tv6 = 0 then
  (tr_bd (tv2 + 0) fun tv8 =>
  tr_bd (tv3 + 1) fun tv9 =>
  some (.inl (tv8, tv9)))
  else
  (tr_bd (tv2 + 1) fun tv10 =>
  tr_bd (tv3 + 1) fun tv11 =>
  some (.inl (tv10, tv11))))
noncomputable def f_X8_waitsFrom (tn1 : Nat) (tv901 : Int32) (h : tr_H) : Option Int32 :=
  tr_bn (tr_lp (fun q => f_X8_waitsFrom_L4 h tn1 tv901 q.1 q.2) (0, 0)) (fun q => f_X8_waitsFrom_E34 q)
noncomputable def f_X8_readWait_J131 (tv3 : Int32) (tv12 : Int32) (th20 : tr_H) (tv19 : Int32) (tv21 : Int32) : Option (Int32 × tr_H) :=
  tr_bd ((1 + (6 * tv3)) + tv12) fun tv22 =>
  tr_gd tv22 37 <|
  tr_bd (tr_si th20 2 tv22.toNatClampNeg tv21) fun th24 =>
  tr_bd (tr_si th24 0 4 ((th24.1 0 4) + 1)) fun th25 =>
  if tv19 = (-9) then
  (some (0, th25))
  else
  (some (1, th25))
noncomputable def f_X8_readWait (h : tr_H) : Option (Int32 × tr_H) :=
  tr_bd (h.1 2 ((0 : Int32).toNatClampNeg)) fun tv1 =>
  tr_b2 (f_X8_figure (tv1 - 1) h) fun tv3 th4 =>
  if tv3 = (-9) then
  (some (0, th4))
  else
  (if (th4.1 0 4) = 12 then
  (tr_bd (tr_si th4 0 3 ((th4.1 0 3) - 1)) fun th7 =>
  some (0, th7))
  else
  (tr_bn (f_X8_waitsFrom 2 tv3 th4) fun tv9 =>
  if tv9 = tv1 then
  (tr_bd (tr_si th4 0 3 ((th4.1 0 3) - 1)) fun th29 =>
  some (0, th29))
  else
  (tr_b2 (f_X8_figure (tv1 - 1) th4) fun tv12 th13 =>
  if tv12 = (-9) then
  (some (0, th13))
  else
  (tr_bn (f_X8_isThere 2 tv3 tv12 th13) fun tv16 =>
  if tv16 = 0 then
  (tr_b2 (f_X8_figure 9 th13) fun tv19 th20 =>
  if 0 ≤ (tv19 + 1) then
  (f_X8_readWait_J131 tv3 tv12 th20 tv19 (tv19 + 1))
  else
  (f_X8_readWait_J131 tv3 tv12 th20 tv19 0))
  else
  (tr_bd (tr_si th13 0 3 ((th13.1 0 3) - 1)) fun th28 =>
  some (0, th28))))))
noncomputable def f_X8_readNet_E95 (th11 : tr_H) : Option (Int32 × tr_H) :=
  some ((-9), th11)
noncomputable def f_X8_readNet_L72 (th12 : tr_H) : Option (tr_H ⊕ (tr_H ⊕ (Int32 × tr_H))) :=
  if (th12.1 0 2) ≤ (th12.1 0 3) then
  (some (.inr (.inl th12)))
  else
  (tr_b2 (f_X8_readWait th12) fun tv15 th16 =>
  if tv15 = 0 then
  (some (.inr (.inr (th16.1 0 3, th16))))
  else
  (some (.inl th16)))
noncomputable def f_X8_readNet_E21 (th1 : tr_H) : Option (Int32 × tr_H) :=
  tr_bd (tr_si th1 0 4 0) fun th2 =>
  if (th2.1 0 2) = 0 then
  (some (0, th2))
  else
  (if (th2.1 1 ((0 : Int32).toNatClampNeg)) = 78 then
  (tr_bd (tr_si th2 0 3 1) fun th5 =>
  tr_b2 (f_X8_figure 6 th5) fun tv7 th8 =>
  if 1 ≤ tv7 then
  (tr_bd (tr_si th8 2 ((0 : Int32).toNatClampNeg) tv7) fun th10 =>
  tr_bn (tr_lp (fun q => f_X8_readNet_L72 q) th10) (fun q => Sum.elim (fun x => f_X8_readNet_E95 x) (fun x => some x) q))
  else
  (some (1, th8)))
  else
  (some (0, th2)))
noncomputable def f_X8_readNet_L2 (tv18 : Int32) (th19 : tr_H) : Option ((Int32 × tr_H) ⊕ tr_H) :=
  if 37 ≤ tv18 then
  (some (.inr th19))
  else
  (tr_gd tv18 37 <|
  tr_bd (tr_si th19 2 tv18.toNatClampNeg 0) fun th22 =>
  tr_bd (tv18 + 1) fun tv23 =>
  some (.inl (tv23, th22)))
noncomputable def f_X8_readNet (h : tr_H) : Option (Int32 × tr_H) :=
  tr_bn (tr_lp (fun q => f_X8_readNet_L2 q.1 q.2) (0, h)) (fun q => f_X8_readNet_E21 q)
noncomputable def f_X8_fault (h : tr_H) : Option (Int32 × tr_H) :=
  tr_bd (tr_si h 0 0 0) fun th1 =>
  tr_b2 (f_X8_readNet th1) fun tv3 th4 =>
  some (tv3, th4)
noncomputable def f_X8_waits_E30 (tv1 : Int32) : Option Int32 :=
  some tv1
noncomputable def f_X8_waits_L4 (h : tr_H) (tn1 : Nat) (tv2 : Int32) (tv3 : Int32) : Option ((Int32 × Int32) ⊕ Int32) :=
  if 37 ≤ tv3 then
  (some (.inr tv2))
  else
  (tr_gd tv3 37 <|
  if (h.1 tn1 tv3.toNatClampNeg) ≤ 0 then
  (tr_bd (tv2 + 0) fun tv7 =>
  tr_bd (tv3 + 1) fun tv8 =>
  some (.inl (tv7, tv8)))
  else
  (tr_bd (tv2 + 1) fun tv9 =>
  tr_bd (tv3 + 1) fun tv10 =>
  some (.inl (tv9, tv10))))
noncomputable def f_X8_waits (tn1 : Nat) (h : tr_H) : Option Int32 :=
  tr_bn (tr_lp (fun q => f_X8_waits_L4 h tn1 q.1 q.2) (0, 1)) (fun q => f_X8_waits_E30 q)
noncomputable def f_X8_net_E43 (th6 : tr_H) : Option (Int32 × tr_H) :=
  tr_bd (tr_si th6 0 9 0) fun th7 =>
  tr_bd (tr_si th7 7 ((0 : Int32).toNatClampNeg) 0) fun th8 =>
  tr_bd (tr_si th8 7 ((1 : Int32).toNatClampNeg) 0) fun th9 =>
  tr_bn (f_X8_waits 3 th9) fun tv11 =>
  some (tv11, th9)
noncomputable def f_X8_net_L19 (tv12 : Int32) (th13 : tr_H) : Option ((Int32 × tr_H) ⊕ tr_H) :=
  if 37 ≤ tv12 then
  (some (.inr th13))
  else
  (tr_gd tv12 37 <|
  tr_gd tv12 37 <|
  tr_bd (tr_si th13 3 tv12.toNatClampNeg (th13.1 2 tv12.toNatClampNeg)) fun th17 =>
  tr_bd (tv12 + 1) fun tv18 =>
  some (.inl (tv18, th17)))
noncomputable def f_X8_net (h : tr_H) : Option (Int32 × tr_H) :=
  tr_bd (tr_si h 0 0 0) fun th1 =>
  tr_b2 (f_X8_readNet th1) fun tv3 th4 =>
  if tv3 = (-9) then
  (tr_bn (tr_lp (fun q => f_X8_net_L19 q.1 q.2) (0, th4)) (fun q => f_X8_net_E43 q))
  else
  (some ((-3), th4))
noncomputable def f_X8_closeRing_J161 (tv6 : Int32) (tv1 : Int32) (tv901 : Int32) (tv2 : Int64) (tv3 : Int32) (th7 : tr_H) : Option tr_H :=
  if tv6 = 0 then
  (if (tv1 * (th7.1 0 19)) = ((th7.1 0 18) * tv901) then
  (tr_bd (tr_sl th7 0 20 ((th7.2 0 20) ||| tv2)) fun th12 =>
  tr_bd (tr_si th12 0 21 ((th12.1 0 21) ||| tv3)) fun th13 =>
  some th13)
  else
  (some th7))
  else
  (tr_bd (tr_sl th7 0 20 ((th7.2 0 20) ||| tv2)) fun th9 =>
  tr_bd (tr_si th9 0 21 ((th9.1 0 21) ||| tv3)) fun th10 =>
  some th10)
noncomputable def f_X8_closeRing_J134 (tv1 : Int32) (tv901 : Int32) (tv2 : Int64) (tv3 : Int32) (th5 : tr_H) (tv6 : Int32) : Option tr_H :=
  if tv6 = 0 then
  (f_X8_closeRing_J161 tv6 tv1 tv901 tv2 tv3 th5)
  else
  (tr_bd (tr_si th5 0 18 tv1) fun th15 =>
  tr_bd (tr_si th15 0 19 tv901) fun th16 =>
  tr_bd (tr_sl th16 0 20 0) fun th17 =>
  tr_bd (tr_si th17 0 21 0) fun th18 =>
  f_X8_closeRing_J161 tv6 tv1 tv901 tv2 tv3 th18)
noncomputable def f_X8_closeRing_J129 (tv1 : Int32) (tv901 : Int32) (tv2 : Int64) (tv3 : Int32) (th5 : tr_H) : Option tr_H :=
  f_X8_closeRing_J134 tv1 tv901 tv2 tv3 th5 1
noncomputable def f_X8_closeRing_E86 (h : tr_H) (tv901 : Int32) (tv1 : Int32) (tv2 : Int64) (tv3 : Int32) : Option tr_H :=
  tr_bd (tr_si h 0 17 ((h.1 0 17) + 1)) fun th4 =>
  tr_bd (tr_sl th4 0 22 ((th4.2 0 22) ||| tv2)) fun th5 =>
  if (th5.1 0 19) = 0 then
  (f_X8_closeRing_J129 tv1 tv901 tv2 tv3 th5)
  else
  (if (tv1 * (th5.1 0 19)) ≤ ((th5.1 0 18) * tv901) then
  (f_X8_closeRing_J134 tv1 tv901 tv2 tv3 th5 0)
  else
  (f_X8_closeRing_J129 tv1 tv901 tv2 tv3 th5))
noncomputable def f_X8_closeRing_L11 (tv901 : Int32) (h : tr_H) (tn1 : Nat) (tv21 : Int32) (tv22 : Int64) (tv23 : Int32) (tv24 : Int32) : Option ((Int32 × Int64 × Int32 × Int32) ⊕ (Int32 × Int64 × Int32)) :=
  if tv901 ≤ tv24 then
  (some (.inr (tv21, tv22, tv23)))
  else
  (tr_nz tv901 <|
  tr_bd ((tv24 + 1) - (tv24 + 1) / tv901 * tv901) fun tv27 =>
  tr_gd tv27 6 <|
  tr_bd (h.1 11 tv27.toNatClampNeg) fun tv29 =>
  tr_gd tv24 6 <|
  tr_bn (f_X8_minutesOf tn1 (h.1 11 tv24.toNatClampNeg) tv29 h) fun tv32 =>
  tr_bd (tv21 + tv32) fun tv33 =>
  tr_gd tv24 6 <|
  tr_bd (tv22 ||| (1 <<< (((6 * (h.1 11 tv24.toNatClampNeg)) + tv29 : Int32).toInt64 &&& 63))) fun tv35 =>
  tr_gd tv24 6 <|
  tr_bd (tv23 ||| (1 <<< ((h.1 11 tv24.toNatClampNeg) &&& 31))) fun tv37 =>
  tr_bd (tv24 + 1) fun tv38 =>
  some (.inl (tv33, tv35, tv37, tv38)))
noncomputable def f_X8_closeRing (tn1 : Nat) (tv901 : Int32) (h : tr_H) : Option tr_H :=
  tr_bn (tr_lp (fun q => f_X8_closeRing_L11 tv901 h tn1 q.1 q.2.1 q.2.2.1 q.2.2.2) (0, 0, 0, 0)) (fun q => f_X8_closeRing_E86 h tv901 q.1 q.2.1 q.2.2)
noncomputable def f_X8_isIn_E35 (tv1 : Int32) : Option Int32 :=
  tr_zb tv1 <|
  some tv1
noncomputable def f_X8_isIn_L5 (tv901 : Int32) (h : tr_H) (tv902 : Int32) (tv3 : Int32) (tv4 : Int32) : Option ((Int32 × Int32) ⊕ Int32) :=
  if tv901 ≤ tv4 then
  (some (.inr tv3))
  else
  (if tv3 = 0 then
  (tr_gd tv4 6 <|
  if (h.1 11 tv4.toNatClampNeg) = tv902 then
  (tr_bd (tv4 + 1) fun tv11 =>
  some (.inl (1, tv11)))
  else
  (tr_bd (tv4 + 1) fun tv10 =>
  some (.inl (0, tv10))))
  else
  (tr_bd (tv4 + 1) fun tv7 =>
  some (.inl (1, tv7))))
noncomputable def f_X8_isIn (tv901 : Int32) (tv902 : Int32) (h : tr_H) : Option Int32 :=
  tr_bn (tr_lp (fun q => f_X8_isIn_L5 tv901 h tv902 q.1 q.2) (0, 0)) (fun q => f_X8_isIn_E35 q)
noncomputable def f_X8_ringsFrom_E155 (th3 : tr_H) : Option tr_H :=
  some th3
noncomputable def f_X8_ringsFrom_J98 (tn1 : Nat) (tv9 : Int32) (tv12 : Int32) (th16 : tr_H) (tv4 : Int32) (tv902 : Int32) (tv901 : Int32) : Option ((Int32 × tr_H) ⊕ tr_H) :=
  tr_bn (f_X8_isThere tn1 tv9 tv12 th16) fun tv19 =>
  if tv19 = 0 then
  (some (.inl (tv4, th16)))
  else
  (tr_bn (f_X8_has tv902 tv12) fun tv22 =>
  if tv22 = 0 then
  (some (.inl (tv4, th16)))
  else
  (tr_bn (f_X8_isIn tv4 tv12 th16) fun tv25 =>
  if tv25 = 0 then
  (tr_gd tv4 6 <|
  tr_bd (tr_si th16 11 tv4.toNatClampNeg tv12) fun th28 =>
  tr_gd tv4 6 <|
  tr_bd (tr_si th28 12 tv4.toNatClampNeg tv901) fun th30 =>
  tr_bd (tv4 + 1) fun tv31 =>
  some (.inl (tv31, th30)))
  else
  (some (.inl (tv4, th16)))))
noncomputable def f_X8_ringsFrom_L17 (tn1 : Nat) (tv901 : Int32) (tv902 : Int32) (tv4 : Int32) (th5 : tr_H) : Option ((Int32 × tr_H) ⊕ tr_H) :=
  if tv4 ≤ 0 then
  (some (.inr th5))
  else
  (tr_bd (tv4 - 1) fun tv7 =>
  tr_gd tv7 6 <|
  tr_bd (th5.1 11 tv7.toNatClampNeg) fun tv9 =>
  tr_bd (tv4 - 1) fun tv10 =>
  tr_gd tv10 6 <|
  tr_bd (th5.1 12 tv10.toNatClampNeg) fun tv12 =>
  tr_bd (tv4 - 1) fun tv13 =>
  tr_gd tv13 6 <|
  tr_gd tv13 6 <|
  tr_bd (tr_si th5 12 tv13.toNatClampNeg ((th5.1 12 tv13.toNatClampNeg) + 1)) fun th16 =>
  if tv12 < (th16.1 tn1 ((0 : Int32).toNatClampNeg)) then
  (if tv12 = tv901 then
  (tr_bn (f_X8_isThere tn1 tv9 tv12 th16) fun tv34 =>
  if tv34 = 0 then
  (f_X8_ringsFrom_J98 tn1 tv9 tv12 th16 tv4 tv902 tv901)
  else
  (tr_bn (f_X8_closeRing tn1 tv4 th16) fun th37 =>
  some (.inl (tv4, th37))))
  else
  (f_X8_ringsFrom_J98 tn1 tv9 tv12 th16 tv4 tv902 tv901))
  else
  (tr_bd (tv4 + (-1)) fun tv38 =>
  some (.inl (tv38, th16))))
noncomputable def f_X8_ringsFrom (tn1 : Nat) (tv901 : Int32) (tv902 : Int32) (h : tr_H) : Option tr_H :=
  tr_bd (tr_si h 11 ((0 : Int32).toNatClampNeg) tv901) fun th1 =>
  tr_bd (tr_si th1 12 ((0 : Int32).toNatClampNeg) tv901) fun th2 =>
  tr_bn (tr_lp (fun q => f_X8_ringsFrom_L17 tn1 tv901 tv902 q.1 q.2) (1, th2)) (fun q => f_X8_ringsFrom_E155 q)
noncomputable def f_X8_findRings_E60 (th7 : tr_H) : Option tr_H :=
  some th7
noncomputable def f_X8_findRings_L32 (tn1 : Nat) (tv901 : Int32) (tv8 : Int32) (th9 : tr_H) : Option ((Int32 × tr_H) ⊕ tr_H) :=
  if (th9.1 tn1 ((0 : Int32).toNatClampNeg)) ≤ tv8 then
  (some (.inr th9))
  else
  (tr_bn (f_X8_has tv901 tv8) fun tv12 =>
  if tv12 = 0 then
  (tr_bd (tv8 + 1) fun tv14 =>
  some (.inl (tv14, th9)))
  else
  (tr_bn (f_X8_ringsFrom tn1 tv8 tv901 th9) fun th16 =>
  tr_bd (tv8 + 1) fun tv17 =>
  some (.inl (tv17, th16))))
noncomputable def f_X8_findRings (tn1 : Nat) (tv901 : Int32) (h : tr_H) : Option tr_H :=
  tr_bd (tr_si h 0 17 0) fun th1 =>
  tr_bd (tr_si th1 0 18 0) fun th2 =>
  tr_bd (tr_si th2 0 19 0) fun th3 =>
  tr_bd (tr_sl th3 0 20 0) fun th4 =>
  tr_bd (tr_si th4 0 21 0) fun th5 =>
  tr_bd (tr_sl th5 0 22 0) fun th6 =>
  tr_bn (tr_lp (fun q => f_X8_findRings_L32 tn1 tv901 q.1 q.2) (0, th6)) (fun q => f_X8_findRings_E60 q)
noncomputable def f_X8_find (tn1 : Nat) (h : tr_H) : Option tr_H :=
  tr_bn (f_X8_findRings tn1 63 h) fun th2 =>
  some th2
noncomputable def f_X8_isPeriod (tn1 : Nat) (tv901 : Int32) (h : tr_H) : Option (Int32 × tr_H) :=
  tr_bn (f_X8_find tn1 h) fun th2 =>
  if (th2.1 0 19) = 0 then
  (some (1, th2))
  else
  (if (tv901 * (th2.1 0 19)) < (th2.1 0 18) then
  (some (0, th2))
  else
  (some (1, th2)))
noncomputable def f_X8_leastPeriod_E20 (tv1 : Int32) (th2 : tr_H) : Option (Int32 × tr_H) :=
  some (tv1, th2)
noncomputable def f_X8_leastPeriod_L2 (tv3 : Int32) (th4 : tr_H) : Option ((Int32 × tr_H) ⊕ (Int32 × tr_H)) :=
  tr_b2 (f_X8_isPeriod 3 tv3 th4) fun tv6 th7 =>
  if tv6 = 0 then
  (tr_bd (tv3 + 1) fun tv9 =>
  some (.inl (tv9, th7)))
  else
  (some (.inr (tv3, th7)))
noncomputable def f_X8_leastPeriod (h : tr_H) : Option (Int32 × tr_H) :=
  tr_bn (tr_lp (fun q => f_X8_leastPeriod_L2 q.1 q.2) (0, h)) (fun q => f_X8_leastPeriod_E20 q.1 q.2)
noncomputable def f_X8_about (tv900 : Int32) (h : tr_H) : Option (Int32 × tr_H) :=
  tr_bd (tr_si h 0 0 0) fun th1 =>
  tr_bn (f_X8_find 3 th1) fun th3 =>
  if tv900 = 0 then
  (some (th3.1 3 ((0 : Int32).toNatClampNeg), th3))
  else
  if tv900 = 1 then
  (tr_bn (f_X8_waits 3 th3) fun tv7 =>
  some (tv7, th3))
  else
  if tv900 = 2 then
  (some (th3.1 0 17, th3))
  else
  if tv900 = 3 then
  (tr_bn (f_X8_waits 3 th3) fun tv11 =>
  tr_bn (f_X8_many (th3.2 0 22)) fun tv13 =>
  some (tv11 - tv13, th3))
  else
  if tv900 = 4 then
  (tr_bn (f_X8_many (th3.2 0 20)) fun tv16 =>
  some (tv16, th3))
  else
  if tv900 = 5 then
  (some (th3.1 0 21, th3))
  else
  if tv900 = 6 then
  (tr_b2 (f_X8_leastPeriod th3) fun tv20 th21 =>
  some (tv20, th21))
  else
  if tv900 = 7 then
  (some (th3.1 0 9, th3))
  else
  if tv900 = 8 then
  (some (th3.1 0 12, th3))
  else
  if tv900 = 9 then
  (some (th3.1 0 2, th3))
  else
  (some ((-2), th3))
noncomputable def f_X8_minutes (tv900 : Int32) (tv901 : Int32) (h : tr_H) : Option (Int32 × tr_H) :=
  tr_bd (tr_si h 0 0 0) fun th1 =>
  tr_bn (f_X8_noDeparture tv900 th1) fun tv3 =>
  if tv3 = 0 then
  (tr_bn (f_X8_noDeparture tv901 th1) fun tv6 =>
  if tv6 = 0 then
  (tr_bn (f_X8_isThere 3 tv900 tv901 th1) fun tv9 =>
  if tv9 = 0 then
  (some ((-9), th1))
  else
  (tr_bn (f_X8_minutesOf 3 tv900 tv901 th1) fun tv12 =>
  some (tv12, th1)))
  else
  (some ((-1), th1)))
  else
  (some ((-1), th1))
noncomputable def f_X8_note_E83 (th2 : tr_H) : Option tr_H :=
  tr_bd (tr_si th2 0 9 ((th2.1 0 9) + 1)) fun th3 =>
  some th3
noncomputable def f_X8_note_L51 (tv4 : Int32) (th5 : tr_H) : Option ((Int32 × tr_H) ⊕ tr_H) :=
  if 37 ≤ tv4 then
  (some (.inr th5))
  else
  (tr_gd tv4 37 <|
  tr_bd ((37 * (th5.1 0 9)) + tv4) fun tv8 =>
  tr_gd tv8 518 <|
  tr_bd (tr_si th5 5 tv8.toNatClampNeg (th5.1 3 tv4.toNatClampNeg)) fun th10 =>
  tr_bd (tv4 + 1) fun tv11 =>
  some (.inl (tv11, th10)))
noncomputable def f_X8_note_J49 (th1 : tr_H) : Option tr_H :=
  tr_bn (tr_lp (fun q => f_X8_note_L51 q.1 q.2) (0, th1)) (fun q => f_X8_note_E83 q)
noncomputable def f_X8_note_E39 (th13 : tr_H) : Option tr_H :=
  tr_bd (tr_si th13 0 9 ((th13.1 0 9) - 1)) fun th14 =>
  f_X8_note_J49 th14
noncomputable def f_X8_note_L11 (tv15 : Int32) (th16 : tr_H) : Option ((Int32 × tr_H) ⊕ tr_H) :=
  if 481 ≤ tv15 then
  (some (.inr th16))
  else
  (tr_bd (tv15 + 37) fun tv18 =>
  tr_gd tv18 518 <|
  tr_gd tv15 518 <|
  tr_bd (tr_si th16 5 tv15.toNatClampNeg (th16.1 5 tv18.toNatClampNeg)) fun th21 =>
  tr_bd (tv15 + 1) fun tv22 =>
  some (.inl (tv22, th21)))
noncomputable def f_X8_note (h : tr_H) : Option tr_H :=
  if (h.1 0 9) = 14 then
  (tr_bn (tr_lp (fun q => f_X8_note_L11 q.1 q.2) (0, h)) (fun q => f_X8_note_E39 q))
  else
  (f_X8_note_J49 h)
noncomputable def f_X8_put (tv900 : Int32) (tv901 : Int32) (tv902 : Int32) (h : tr_H) : Option (Int32 × tr_H) :=
  tr_bd (tr_si h 0 0 0) fun th1 =>
  tr_bn (f_X8_noDeparture tv900 th1) fun tv3 =>
  if tv3 = 0 then
  (tr_bn (f_X8_noDeparture tv901 th1) fun tv6 =>
  if tv6 = 0 then
  (tr_bn (f_X8_in ((tv902 : Int32).toInt64) 0 9) fun tv9 =>
  if tv9 = 0 then
  (some ((-2), th1))
  else
  (tr_bn (f_X8_isThere 3 tv900 tv901 th1) fun tv12 =>
  if tv12 = 0 then
  (tr_bn (f_X8_note th1) fun th15 =>
  tr_bd ((1 + (6 * tv900)) + tv901) fun tv16 =>
  tr_gd tv16 37 <|
  tr_bd (tr_si th15 3 tv16.toNatClampNeg (tv902 + 1)) fun th18 =>
  tr_bn (f_X8_waits 3 th18) fun tv20 =>
  some (tv20, th18))
  else
  (some ((-3), th1))))
  else
  (some ((-1), th1)))
  else
  (some ((-1), th1))
noncomputable def f_X8_cut (tv900 : Int32) (tv901 : Int32) (h : tr_H) : Option (Int32 × tr_H) :=
  tr_bd (tr_si h 0 0 0) fun th1 =>
  tr_bn (f_X8_noDeparture tv900 th1) fun tv3 =>
  if tv3 = 0 then
  (tr_bn (f_X8_noDeparture tv901 th1) fun tv6 =>
  if tv6 = 0 then
  (tr_bn (f_X8_isThere 3 tv900 tv901 th1) fun tv9 =>
  if tv9 = 0 then
  (some ((-3), th1))
  else
  (tr_bn (f_X8_note th1) fun th12 =>
  tr_bn (f_X8_minutesOf 3 tv900 tv901 th12) fun tv14 =>
  tr_bd ((1 + (6 * tv900)) + tv901) fun tv15 =>
  tr_gd tv15 37 <|
  tr_bd (tr_si th12 3 tv15.toNatClampNeg 0) fun th17 =>
  some (tv14, th17)))
  else
  (some ((-1), th1)))
  else
  (some ((-1), th1))
noncomputable def f_X8_time (tv900 : Int32) (tv901 : Int32) (tv902 : Int32) (h : tr_H) : Option (Int32 × tr_H) :=
  tr_bd (tr_si h 0 0 0) fun th1 =>
  tr_bn (f_X8_noDeparture tv900 th1) fun tv3 =>
  if tv3 = 0 then
  (tr_bn (f_X8_noDeparture tv901 th1) fun tv6 =>
  if tv6 = 0 then
  (tr_bn (f_X8_in ((tv902 : Int32).toInt64) 0 9) fun tv9 =>
  if tv9 = 0 then
  (some ((-2), th1))
  else
  (tr_bn (f_X8_isThere 3 tv900 tv901 th1) fun tv12 =>
  if tv12 = 0 then
  (some ((-3), th1))
  else
  (tr_bn (f_X8_note th1) fun th15 =>
  tr_bn (f_X8_minutesOf 3 tv900 tv901 th15) fun tv17 =>
  tr_bd ((1 + (6 * tv900)) + tv901) fun tv18 =>
  tr_gd tv18 37 <|
  tr_bd (tr_si th15 3 tv18.toNatClampNeg (tv902 + 1)) fun th20 =>
  some (tv17, th20))))
  else
  (some ((-1), th1)))
  else
  (some ((-1), th1))
noncomputable def f_X8_undo_E59 (th4 : tr_H) : Option (Int32 × tr_H) :=
  some (th4.1 0 9, th4)
noncomputable def f_X8_undo_L27 (tv5 : Int32) (th6 : tr_H) : Option ((Int32 × tr_H) ⊕ tr_H) :=
  if 37 ≤ tv5 then
  (some (.inr th6))
  else
  (tr_bd ((37 * (th6.1 0 9)) + tv5) fun tv8 =>
  tr_gd tv8 518 <|
  tr_gd tv5 37 <|
  tr_bd (tr_si th6 3 tv5.toNatClampNeg (th6.1 5 tv8.toNatClampNeg)) fun th11 =>
  tr_bd (tv5 + 1) fun tv12 =>
  some (.inl (tv12, th11)))
noncomputable def f_X8_undo (h : tr_H) : Option (Int32 × tr_H) :=
  tr_bd (tr_si h 0 0 0) fun th1 =>
  if (th1.1 0 9) = 0 then
  (some ((-3), th1))
  else
  (tr_bd (tr_si th1 0 9 ((th1.1 0 9) - 1)) fun th3 =>
  tr_bn (tr_lp (fun q => f_X8_undo_L27 q.1 q.2) (0, th3)) (fun q => f_X8_undo_E59 q))
noncomputable def f_X8_divisor_E30 (tv2 : Int32) : Option Int32 :=
  some tv2
noncomputable def f_X8_divisor_L13 (tv3 : Int32) (tv4 : Int32) : Option ((Int32 × Int32) ⊕ Int32) :=
  if tv4 = 0 then
  (some (.inr tv3))
  else
  (tr_nz tv4 <|
  tr_bd (tv3 - tv3 / tv4 * tv4) fun tv7 =>
  some (.inl (tv4, tv7)))
noncomputable def f_X8_divisor_J10 (tv901 : Int32) (tv1 : Int32) : Option Int32 :=
  tr_bn (tr_lp (fun q => f_X8_divisor_L13 q.1 q.2) (tv1, tv901)) (fun q => f_X8_divisor_E30 q)
noncomputable def f_X8_divisor (tv900 : Int32) (tv901 : Int32) : Option Int32 :=
  if 0 ≤ tv900 then
  (f_X8_divisor_J10 tv901 tv900)
  else
  (f_X8_divisor_J10 tv901 (-tv900))
noncomputable def f_X8_fraction (tv900 : Int32) (tv901 : Int32) (tv902 : Int32) : Option Int32 :=
  tr_bn (f_X8_divisor tv900 tv901) fun tv2 =>
  if tv902 = 0 then
  (tr_nz tv2 <|
  some (tv901 / tv2))
  else
  (tr_nz tv2 <|
  some (tv900 / tv2))
noncomputable def f_X8_pace (tv900 : Int32) (h : tr_H) : Option (Int32 × tr_H) :=
  tr_bd (tr_si h 0 0 0) fun th1 =>
  tr_bn (f_X8_find 3 th1) fun th3 =>
  if (th3.1 0 19) = 0 then
  (some ((-9), th3))
  else
  (tr_bn (f_X8_fraction (th3.1 0 18) (th3.1 0 19) tv900) fun tv6 =>
  some (tv6, th3))
noncomputable def f_X8_critical (tv900 : Int32) (tv901 : Int32) (h : tr_H) : Option (Int32 × tr_H) :=
  tr_bd (tr_si h 0 0 0) fun th1 =>
  tr_bn (f_X8_noDeparture tv900 th1) fun tv3 =>
  if tv3 = 0 then
  (tr_bn (f_X8_noDeparture tv901 th1) fun tv6 =>
  if tv6 = 0 then
  (tr_bn (f_X8_isThere 3 tv900 tv901 th1) fun tv9 =>
  if tv9 = 0 then
  (some ((-3), th1))
  else
  (tr_bn (f_X8_find 3 th1) fun th12 =>
  some ((((th12.2 0 20) >>> (((6 * tv900) + tv901 : Int32).toInt64 &&& 63)) &&& 1 : Int64).toInt32, th12)))
  else
  (some ((-1), th1)))
  else
  (some ((-1), th1))
noncomputable def f_X8_layTimes_E131 (th2 : tr_H) : Option tr_H :=
  some th2
noncomputable def f_X8_layTimes_E125 (tv3 : Int32) (th6 : tr_H) : Option ((Int32 × tr_H) ⊕ tr_H) :=
  tr_bd (tv3 + 1) fun tv7 =>
  some (.inl (tv7, th6))
noncomputable def f_X8_layTimes_E119 (tv8 : Int32) (th11 : tr_H) : Option ((Int32 × tr_H) ⊕ tr_H) :=
  tr_bd (tv8 + 1) fun tv12 =>
  some (.inl (tv12, th11))
noncomputable def f_X8_layTimes_L43 (tn1 : Nat) (tv8 : Int32) (tv901 : Int32) (tv13 : Int32) (th14 : tr_H) : Option ((Int32 × tr_H) ⊕ tr_H) :=
  if (th14.1 tn1 ((0 : Int32).toNatClampNeg)) ≤ tv13 then
  (some (.inr th14))
  else
  (tr_gd tv8 6 <|
  tr_bn (f_X8_minutesOf tn1 tv8 tv13 th14) fun tv18 =>
  tr_bd (((th14.1 13 tv8.toNatClampNeg) + tv18) - tv901) fun tv19 =>
  tr_bn (f_X8_isThere tn1 tv8 tv13 th14) fun tv21 =>
  if tv21 = 0 then
  (tr_gd tv13 6 <|
  tr_gd tv13 6 <|
  tr_bd (tr_si th14 13 tv13.toNatClampNeg (th14.1 13 tv13.toNatClampNeg)) fun th25 =>
  tr_bd (tv13 + 1) fun tv26 =>
  some (.inl (tv26, th25)))
  else
  (tr_gd tv13 6 <|
  if tv19 ≤ (th14.1 13 tv13.toNatClampNeg) then
  (tr_gd tv13 6 <|
  tr_gd tv13 6 <|
  tr_bd (tr_si th14 13 tv13.toNatClampNeg (th14.1 13 tv13.toNatClampNeg)) fun th31 =>
  tr_bd (tv13 + 1) fun tv32 =>
  some (.inl (tv32, th31)))
  else
  (tr_gd tv13 6 <|
  tr_bd (tr_si th14 13 tv13.toNatClampNeg tv19) fun th34 =>
  tr_bd (tv13 + 1) fun tv35 =>
  some (.inl (tv35, th34)))))
noncomputable def f_X8_layTimes_L32 (tn1 : Nat) (tv901 : Int32) (tv8 : Int32) (th9 : tr_H) : Option ((Int32 × tr_H) ⊕ tr_H) :=
  if (th9.1 tn1 ((0 : Int32).toNatClampNeg)) ≤ tv8 then
  (some (.inr th9))
  else
  (tr_bn (tr_lp (fun q => f_X8_layTimes_L43 tn1 tv8 tv901 q.1 q.2) (0, th9)) (fun q => f_X8_layTimes_E119 tv8 q))
noncomputable def f_X8_layTimes_L23 (tn1 : Nat) (tv901 : Int32) (tv3 : Int32) (th4 : tr_H) : Option ((Int32 × tr_H) ⊕ tr_H) :=
  if 6 ≤ tv3 then
  (some (.inr th4))
  else
  (tr_bn (tr_lp (fun q => f_X8_layTimes_L32 tn1 tv901 q.1 q.2) (0, th4)) (fun q => f_X8_layTimes_E125 tv3 q))
noncomputable def f_X8_layTimes_E21 (tn1 : Nat) (tv901 : Int32) (th1 : tr_H) : Option tr_H :=
  tr_bn (tr_lp (fun q => f_X8_layTimes_L23 tn1 tv901 q.1 q.2) (0, th1)) (fun q => f_X8_layTimes_E131 q)
noncomputable def f_X8_layTimes_L2 (tv36 : Int32) (th37 : tr_H) : Option ((Int32 × tr_H) ⊕ tr_H) :=
  if 6 ≤ tv36 then
  (some (.inr th37))
  else
  (tr_gd tv36 6 <|
  tr_bd (tr_si th37 13 tv36.toNatClampNeg 0) fun th40 =>
  tr_bd (tv36 + 1) fun tv41 =>
  some (.inl (tv41, th40)))
noncomputable def f_X8_layTimes (tn1 : Nat) (tv901 : Int32) (h : tr_H) : Option tr_H :=
  tr_bn (tr_lp (fun q => f_X8_layTimes_L2 q.1 q.2) (0, h)) (fun q => f_X8_layTimes_E21 tn1 tv901 q)
noncomputable def f_X8_spareOf (tn1 : Nat) (tv901 : Int32) (tv902 : Int32) (tv903 : Int32) (h : tr_H) : Option Int32 :=
  tr_gd tv902 6 <|
  tr_gd tv901 6 <|
  tr_bn (f_X8_minutesOf tn1 tv901 tv902 h) fun tv4 =>
  some ((((h.1 13 tv902.toNatClampNeg) + tv903) - (h.1 13 tv901.toNatClampNeg)) - tv4)
noncomputable def f_X8_departs (tv900 : Int32) (tv901 : Int32) (h : tr_H) : Option (Int32 × tr_H) :=
  tr_bd (tr_si h 0 0 0) fun th1 =>
  tr_bn (f_X8_noDeparture tv900 th1) fun tv3 =>
  if tv3 = 0 then
  (tr_bn (f_X8_in ((tv901 : Int32).toInt64) 0 20) fun tv6 =>
  if tv6 = 0 then
  (some ((-2), th1))
  else
  (tr_b2 (f_X8_isPeriod 3 tv901 th1) fun tv9 th10 =>
  if tv9 = 0 then
  (some ((-3), th10))
  else
  (tr_bn (f_X8_layTimes 3 tv901 th10) fun th13 =>
  tr_gd tv900 6 <|
  some (th13.1 13 tv900.toNatClampNeg, th13))))
  else
  (some ((-1), th1))
noncomputable def f_X8_spare (tv900 : Int32) (tv901 : Int32) (tv902 : Int32) (h : tr_H) : Option (Int32 × tr_H) :=
  tr_bd (tr_si h 0 0 0) fun th1 =>
  tr_bn (f_X8_noDeparture tv900 th1) fun tv3 =>
  if tv3 = 0 then
  (tr_bn (f_X8_noDeparture tv901 th1) fun tv6 =>
  if tv6 = 0 then
  (tr_bn (f_X8_in ((tv902 : Int32).toInt64) 0 20) fun tv9 =>
  if tv9 = 0 then
  (some ((-2), th1))
  else
  (tr_bn (f_X8_isThere 3 tv900 tv901 th1) fun tv12 =>
  if tv12 = 0 then
  (some ((-3), th1))
  else
  (tr_b2 (f_X8_isPeriod 3 tv902 th1) fun tv15 th16 =>
  if tv15 = 0 then
  (some ((-3), th16))
  else
  (tr_bn (f_X8_layTimes 3 tv902 th16) fun th19 =>
  tr_bn (f_X8_spareOf 3 tv900 tv901 tv902 th19) fun tv21 =>
  some (tv21, th19)))))
  else
  (some ((-1), th1)))
  else
  (some ((-1), th1))
noncomputable def f_X8_beginLate_E30 (th1 : tr_H) : Option tr_H :=
  some th1
noncomputable def f_X8_beginLate_L2 (tv900 : Int32) (tv901 : Int32) (tv2 : Int32) (th3 : tr_H) : Option ((Int32 × tr_H) ⊕ tr_H) :=
  if 6 ≤ tv2 then
  (some (.inr th3))
  else
  (if tv2 = tv900 then
  (tr_gd tv2 6 <|
  tr_bd (tr_si th3 14 tv2.toNatClampNeg tv901) fun th10 =>
  tr_bd (tv2 + 1) fun tv11 =>
  some (.inl (tv11, th10)))
  else
  (tr_gd tv2 6 <|
  tr_bd (tr_si th3 14 tv2.toNatClampNeg 0) fun th7 =>
  tr_bd (tv2 + 1) fun tv8 =>
  some (.inl (tv8, th7))))
noncomputable def f_X8_beginLate (tv900 : Int32) (tv901 : Int32) (h : tr_H) : Option tr_H :=
  tr_bn (tr_lp (fun q => f_X8_beginLate_L2 tv900 tv901 q.1 q.2) (0, h)) (fun q => f_X8_beginLate_E30 q)
noncomputable def f_X8_goRound_E157 (tv1 : Int32) (th3 : tr_H) : Option (Int32 × tr_H) :=
  some (tv1, th3)
noncomputable def f_X8_goRound_L130 (tv4 : Int32) (th5 : tr_H) : Option ((Int32 × tr_H) ⊕ tr_H) :=
  if 6 ≤ tv4 then
  (some (.inr th5))
  else
  (tr_gd tv4 6 <|
  tr_gd tv4 6 <|
  tr_bd (tr_si th5 14 tv4.toNatClampNeg (th5.1 15 tv4.toNatClampNeg)) fun th9 =>
  tr_bd (tv4 + 1) fun tv10 =>
  some (.inl (tv10, th9)))
noncomputable def f_X8_goRound_E127 (tv1 : Int32) (th2 : tr_H) : Option (Int32 × tr_H) :=
  tr_bn (tr_lp (fun q => f_X8_goRound_L130 q.1 q.2) (0, th2)) (fun q => f_X8_goRound_E157 tv1 q)
noncomputable def f_X8_goRound_E111 (tv12 : Int32) (tv11 : Int32) (th17 : tr_H) : Option ((Int32 × Int32 × tr_H) ⊕ (Int32 × tr_H)) :=
  tr_gd tv12 6 <|
  tr_bd (tv11 + (th17.1 15 tv12.toNatClampNeg)) fun tv19 =>
  tr_bd (tv12 + 1) fun tv20 =>
  some (.inl (tv19, tv20, th17))
noncomputable def f_X8_goRound_J72 (tv12 : Int32) (th22 : tr_H) (tv21 : Int32) (tv27 : Int32) : Option ((Int32 × tr_H) ⊕ tr_H) :=
  tr_gd tv12 6 <|
  if tv27 ≤ (th22.1 15 tv12.toNatClampNeg) then
  (tr_gd tv12 6 <|
  tr_gd tv12 6 <|
  tr_bd (tr_si th22 15 tv12.toNatClampNeg (th22.1 15 tv12.toNatClampNeg)) fun th32 =>
  tr_bd (tv21 + 1) fun tv33 =>
  some (.inl (tv33, th32)))
  else
  (tr_gd tv12 6 <|
  tr_bd (tr_si th22 15 tv12.toNatClampNeg tv27) fun th35 =>
  tr_bd (tv21 + 1) fun tv36 =>
  some (.inl (tv36, th35)))
noncomputable def f_X8_goRound_L23 (tn1 : Nat) (tv12 : Int32) (tv901 : Int32) (tv21 : Int32) (th22 : tr_H) : Option ((Int32 × tr_H) ⊕ tr_H) :=
  if (th22.1 tn1 ((0 : Int32).toNatClampNeg)) ≤ tv21 then
  (some (.inr th22))
  else
  (if (th22.1 tn1 ((0 : Int32).toNatClampNeg)) ≤ tv12 then
  (some (.inr th22))
  else
  (tr_bn (f_X8_isThere tn1 tv21 tv12 th22) fun tv26 =>
  if tv26 = 0 then
  (f_X8_goRound_J72 tv12 th22 tv21 0)
  else
  (tr_gd tv21 6 <|
  tr_bn (f_X8_spareOf tn1 tv21 tv12 tv901 th22) fun tv40 =>
  f_X8_goRound_J72 tv12 th22 tv21 ((th22.1 14 tv21.toNatClampNeg) - tv40))))
noncomputable def f_X8_goRound_L5 (tn1 : Nat) (tv901 : Int32) (tv11 : Int32) (tv12 : Int32) (th13 : tr_H) : Option ((Int32 × Int32 × tr_H) ⊕ (Int32 × tr_H)) :=
  if 6 ≤ tv12 then
  (some (.inr (tv11, th13)))
  else
  (tr_gd tv12 6 <|
  tr_bd (tr_si th13 15 tv12.toNatClampNeg 0) fun th16 =>
  tr_bn (tr_lp (fun q => f_X8_goRound_L23 tn1 tv12 tv901 q.1 q.2) (0, th16)) (fun q => f_X8_goRound_E111 tv12 tv11 q))
noncomputable def f_X8_goRound (tn1 : Nat) (tv901 : Int32) (h : tr_H) : Option (Int32 × tr_H) :=
  tr_bn (tr_lp (fun q => f_X8_goRound_L5 tn1 tv901 q.1 q.2.1 q.2.2) (0, 0, h)) (fun q => f_X8_goRound_E127 q.1 q.2)
noncomputable def f_X8_late_E120 (tv903 : Int32) (th25 : tr_H) : Option (Int32 × tr_H) :=
  tr_gd tv903 6 <|
  some (th25.1 14 tv903.toNatClampNeg, th25)
noncomputable def f_X8_late_L97 (tv904 : Int32) (tv902 : Int32) (tv27 : Int32) (th28 : tr_H) : Option ((Int32 × tr_H) ⊕ tr_H) :=
  if tv904 ≤ tv27 then
  (some (.inr th28))
  else
  (tr_b2 (f_X8_goRound 3 tv902 th28) fun tv31 th32 =>
  tr_bd (tv27 + 1) fun tv33 =>
  some (.inl (tv33, th32)))
noncomputable def f_X8_late (tv900 : Int32) (tv901 : Int32) (tv902 : Int32) (tv903 : Int32) (tv904 : Int32) (h : tr_H) : Option (Int32 × tr_H) :=
  tr_bd (tr_si h 0 0 0) fun th1 =>
  tr_bn (f_X8_noDeparture tv900 th1) fun tv3 =>
  if tv3 = 0 then
  (tr_bn (f_X8_noDeparture tv903 th1) fun tv6 =>
  if tv6 = 0 then
  (tr_bn (f_X8_in ((tv901 : Int32).toInt64) 1 30) fun tv9 =>
  if tv9 = 0 then
  (some ((-2), th1))
  else
  (tr_bn (f_X8_in ((tv902 : Int32).toInt64) 0 20) fun tv12 =>
  if tv12 = 0 then
  (some ((-2), th1))
  else
  (tr_bn (f_X8_in ((tv904 : Int32).toInt64) 0 40) fun tv15 =>
  if tv15 = 0 then
  (some ((-2), th1))
  else
  (tr_b2 (f_X8_isPeriod 3 tv902 th1) fun tv18 th19 =>
  if tv18 = 0 then
  (some ((-3), th19))
  else
  (tr_bn (f_X8_layTimes 3 tv902 th19) fun th22 =>
  tr_bn (f_X8_beginLate tv900 tv901 th22) fun th24 =>
  tr_bn (tr_lp (fun q => f_X8_late_L97 tv904 tv902 q.1 q.2) (0, th24)) (fun q => f_X8_late_E120 tv903 q))))))
  else
  (some ((-1), th1)))
  else
  (some ((-1), th1))
noncomputable def f_X8_diesOf_E42 (th5 : tr_H) : Option (Int32 × tr_H) :=
  some ((-9), th5)
noncomputable def f_X8_diesOf_L16 (tn1 : Nat) (tv903 : Int32) (tv6 : Int32) (th7 : tr_H) : Option ((Int32 × tr_H) ⊕ (tr_H ⊕ (Int32 × tr_H))) :=
  if 40 < tv6 then
  (some (.inr (.inl th7)))
  else
  (tr_b2 (f_X8_goRound tn1 tv903 th7) fun tv10 th11 =>
  if tv10 = 0 then
  (some (.inr (.inr (tv6, th11))))
  else
  (tr_bd (tv6 + 1) fun tv13 =>
  some (.inl (tv13, th11))))
noncomputable def f_X8_diesOf (tn1 : Nat) (tv901 : Int32) (tv902 : Int32) (tv903 : Int32) (h : tr_H) : Option (Int32 × tr_H) :=
  tr_bn (f_X8_layTimes tn1 tv903 h) fun th2 =>
  tr_bn (f_X8_beginLate tv901 tv902 th2) fun th4 =>
  tr_bn (tr_lp (fun q => f_X8_diesOf_L16 tn1 tv903 q.1 q.2) (1, th4)) (fun q => Sum.elim (fun x => f_X8_diesOf_E42 x) (fun x => some x) q)
noncomputable def f_X8_dies (tv900 : Int32) (tv901 : Int32) (tv902 : Int32) (h : tr_H) : Option (Int32 × tr_H) :=
  tr_bd (tr_si h 0 0 0) fun th1 =>
  tr_bn (f_X8_noDeparture tv900 th1) fun tv3 =>
  if tv3 = 0 then
  (tr_bn (f_X8_in ((tv901 : Int32).toInt64) 1 30) fun tv6 =>
  if tv6 = 0 then
  (some ((-2), th1))
  else
  (tr_bn (f_X8_in ((tv902 : Int32).toInt64) 0 20) fun tv9 =>
  if tv9 = 0 then
  (some ((-2), th1))
  else
  (tr_b2 (f_X8_isPeriod 3 tv902 th1) fun tv12 th13 =>
  if tv12 = 0 then
  (some ((-3), th13))
  else
  (tr_b2 (f_X8_diesOf 3 tv900 tv901 tv902 th13) fun tv16 th17 =>
  some (tv16, th17)))))
  else
  (some ((-1), th1))
noncomputable def f_X8_begin_E26 (th1 : tr_H) : Option tr_H :=
  some th1
noncomputable def f_X8_begin_L2 (tv2 : Int32) (th3 : tr_H) : Option ((Int32 × tr_H) ⊕ tr_H) :=
  if 37 ≤ tv2 then
  (some (.inr th3))
  else
  (tr_gd tv2 37 <|
  tr_gd tv2 37 <|
  tr_bd (tr_si th3 4 tv2.toNatClampNeg (th3.1 3 tv2.toNatClampNeg)) fun th7 =>
  tr_bd (tv2 + 1) fun tv8 =>
  some (.inl (tv8, th7)))
noncomputable def f_X8_begin (h : tr_H) : Option tr_H :=
  tr_bn (tr_lp (fun q => f_X8_begin_L2 q.1 q.2) (0, h)) (fun q => f_X8_begin_E26 q)
noncomputable def f_X8_sixtiethsOf (tn1 : Nat) (tv901 : Int32) (h : tr_H) : Option (Int32 × tr_H) :=
  tr_bn (f_X8_findRings tn1 tv901 h) fun th2 =>
  if (th2.1 0 19) = 0 then
  (some ((-1), th2))
  else
  (tr_bd (th2.1 0 19) fun tv4 =>
  tr_nz tv4 <|
  some ((60 / tv4) * (th2.1 0 18), th2))
noncomputable def f_X8_best_E153 (tv5 : Int32) (th6 : tr_H) : Option (Int32 × tr_H) :=
  some (tv5, th6)
noncomputable def f_X8_best_J134 (tv25 : Int32) (tv9 : Int32) (tv8 : Int32) (th24 : tr_H) (tv23 : Int32) (tv26 : Int32) : Option ((Int32 × Int32 × Int32 × tr_H) ⊕ (Int32 × tr_H)) :=
  if tv25 = 0 then
  (tr_bd (tv9 + 1) fun tv28 =>
  some (.inl (tv26, tv8, tv28, th24)))
  else
  (tr_bd (tv9 + 1) fun tv29 =>
  some (.inl (tv26, tv23, tv29, th24)))
noncomputable def f_X8_best_J109 (tv9 : Int32) (tv8 : Int32) (th24 : tr_H) (tv23 : Int32) (tv7 : Int32) (tv25 : Int32) : Option ((Int32 × Int32 × Int32 × tr_H) ⊕ (Int32 × tr_H)) :=
  if tv25 = 0 then
  (f_X8_best_J134 tv25 tv9 tv8 th24 tv23 tv7)
  else
  (f_X8_best_J134 tv25 tv9 tv8 th24 tv23 ((10 * (tv9 / 6)) + (tv9 - tv9 / 6 * 6)))
noncomputable def f_X8_best_J104 (tv9 : Int32) (tv8 : Int32) (th24 : tr_H) (tv23 : Int32) (tv7 : Int32) : Option ((Int32 × Int32 × Int32 × tr_H) ⊕ (Int32 × tr_H)) :=
  f_X8_best_J109 tv9 tv8 th24 tv23 tv7 1
noncomputable def f_X8_best_J79 (tv9 : Int32) (th17 : tr_H) (tv7 : Int32) (tv8 : Int32) (tv18 : Int32) : Option ((Int32 × Int32 × Int32 × tr_H) ⊕ (Int32 × tr_H)) :=
  tr_bd (1 + tv9) fun tv19 =>
  tr_gd tv19 37 <|
  tr_bd (tr_si th17 4 tv19.toNatClampNeg tv18) fun th21 =>
  tr_b2 (f_X8_sixtiethsOf 4 63 th21) fun tv23 th24 =>
  if tv7 = (-9) then
  (f_X8_best_J104 tv9 tv8 th24 tv23 tv7)
  else
  (if tv8 ≤ tv23 then
  (f_X8_best_J109 tv9 tv8 th24 tv23 tv7 0)
  else
  (f_X8_best_J104 tv9 tv8 th24 tv23 tv7))
noncomputable def f_X8_best_L26 (tv900 : Int32) (tv7 : Int32) (tv8 : Int32) (tv9 : Int32) (th10 : tr_H) : Option ((Int32 × Int32 × Int32 × tr_H) ⊕ (Int32 × tr_H)) :=
  if 36 ≤ tv9 then
  (some (.inr (tv7, th10)))
  else
  (tr_bd (1 + tv9) fun tv12 =>
  tr_gd tv12 37 <|
  if (th10.1 3 tv12.toNatClampNeg) ≤ (1 - tv900) then
  (tr_bd (tv9 + 1) fun tv15 =>
  some (.inl (tv7, tv8, tv15, th10)))
  else
  (tr_bn (f_X8_begin th10) fun th17 =>
  if tv900 = 0 then
  (tr_bd (1 + tv9) fun tv34 =>
  tr_gd tv34 37 <|
  f_X8_best_J79 tv9 th17 tv7 tv8 ((th17.1 4 tv34.toNatClampNeg) - 1))
  else
  (f_X8_best_J79 tv9 th17 tv7 tv8 0)))
noncomputable def f_X8_best (tv900 : Int32) (h : tr_H) : Option (Int32 × tr_H) :=
  tr_bd (tr_si h 0 0 0) fun th1 =>
  tr_bn (f_X8_in ((tv900 : Int32).toInt64) 0 1) fun tv3 =>
  if tv3 = 0 then
  (some ((-2), th1))
  else
  (tr_bn (tr_lp (fun q => f_X8_best_L26 tv900 q.1 q.2.1 q.2.2.1 q.2.2.2) ((-9), 0, 0, th1)) (fun q => f_X8_best_E153 q.1 q.2))
noncomputable def f_X8_longPower_E21 (tv1 : Int64) : Option Int64 :=
  some tv1
noncomputable def f_X8_longPower_L5 (tv901 : Int32) (tv900 : Int64) (tv2 : Int64) (tv3 : Int32) : Option ((Int64 × Int32) ⊕ Int64) :=
  if tv901 ≤ tv3 then
  (some (.inr tv2))
  else
  (tr_bd (tv2 * tv900) fun tv5 =>
  tr_bd (tv3 + 1) fun tv6 =>
  some (.inl (tv5, tv6)))
noncomputable def f_X8_longPower (tv900 : Int64) (tv901 : Int32) : Option Int64 :=
  tr_bn (tr_lp (fun q => f_X8_longPower_L5 tv901 tv900 q.1 q.2) (1, 0)) (fun q => f_X8_longPower_E21 q)
noncomputable def f_X8_sets_J38 (h : tr_H) (tv900 : Int32) (tv901 : Int32) (tv903 : Int32) (tv1 : Int32) : Option (Int32 × tr_H) :=
  if tv1 = 0 then
  (tr_zb tv1 <|
  some (tv1, h))
  else
  (tr_bd ((1 + (6 * tv900)) + tv901) fun tv4 =>
  tr_gd tv4 37 <|
  tr_bd (tr_si h 4 tv4.toNatClampNeg tv903) fun th6 =>
  tr_zb tv1 <|
  some (tv1, th6))
noncomputable def f_X8_sets_J37 (h : tr_H) (tv900 : Int32) (tv901 : Int32) (tv903 : Int32) : Option (Int32 × tr_H) :=
  f_X8_sets_J38 h tv900 tv901 tv903 0
noncomputable def f_X8_sets (tv900 : Int32) (tv901 : Int32) (tv902 : Int32) (tv903 : Int32) (h : tr_H) : Option (Int32 × tr_H) :=
  if (h.1 4 ((0 : Int32).toNatClampNeg)) ≤ tv900 then
  (f_X8_sets_J37 h tv900 tv901 tv903)
  else
  (if (h.1 4 ((0 : Int32).toNatClampNeg)) ≤ tv901 then
  (f_X8_sets_J37 h tv900 tv901 tv903)
  else
  (tr_bn (f_X8_isThere 4 tv900 tv901 h) fun tv11 =>
  if tv11 = tv902 then
  (f_X8_sets_J38 h tv900 tv901 tv903 1)
  else
  (f_X8_sets_J37 h tv900 tv901 tv903)))
noncomputable def f_X8_isCritical (tv900 : Int32) (tv901 : Int32) (h : tr_H) : Option (Int32 × tr_H) :=
  tr_bn (f_X8_find 4 h) fun th2 =>
  if (th2.1 4 ((0 : Int32).toNatClampNeg)) ≤ tv900 then
  (some (0, th2))
  else
  (if (th2.1 4 ((0 : Int32).toNatClampNeg)) ≤ tv901 then
  (some (0, th2))
  else
  (if (lg_cmp (((th2.2 0 20) >>> (((6 * tv900) + tv901 : Int32).toInt64 &&& 63)) &&& 1) 1) = 0 then
  (some (1, th2))
  else
  (some (0, th2))))
noncomputable def f_X8_isTime (tv900 : Int32) (tv901 : Int32) (h : tr_H) : Option (Int32 × tr_H) :=
  tr_bn (f_X8_layTimes 4 10 h) fun th2 =>
  if (th2.1 4 ((0 : Int32).toNatClampNeg)) ≤ tv900 then
  (some (0, th2))
  else
  (tr_gd tv900 6 <|
  if (th2.1 13 tv900.toNatClampNeg) = tv901 then
  (some (1, th2))
  else
  (some (0, th2)))
noncomputable def f_X8_does (tv900 : Int32) (h : tr_H) : Option (Int32 × tr_H) :=
  tr_bd ((tv900 / 100) - (tv900 / 100) / 10 * 10) fun tv1 =>
  tr_bd ((tv900 / 10) - (tv900 / 10) / 10 * 10) fun tv2 =>
  tr_bd (tv900 - tv900 / 10 * 10) fun tv3 =>
  tr_bd (tv900 - tv900 / 100 * 100) fun tv4 =>
  tr_bd (tv900 / 1000) fun tv5 =>
  if tv5 = 1 then
  (tr_b2 (f_X8_sets tv1 tv2 0 (tv3 + 1) h) fun tv8 th9 =>
  tr_zb tv8 <|
  some (tv8, th9))
  else
  if tv5 = 2 then
  (if tv3 = 0 then
  (tr_b2 (f_X8_sets tv1 tv2 1 0 h) fun tv14 th15 =>
  if tv14 = 0 then
  (some (0, th15))
  else
  (some (1, th15)))
  else
  (some (0, h)))
  else
  if tv5 = 3 then
  (tr_b2 (f_X8_sets tv1 tv2 1 (tv3 + 1) h) fun tv19 th20 =>
  tr_zb tv19 <|
  some (tv19, th20))
  else
  if tv5 = 4 then
  (if tv1 = 0 then
  (if 20 < tv4 then
  (some (0, h))
  else
  (tr_b2 (f_X8_isPeriod 4 tv4 h) fun tv26 th27 =>
  if tv26 = 0 then
  (some (0, th27))
  else
  (some (1, th27))))
  else
  (some (0, h)))
  else
  if tv5 = 5 then
  (if tv3 = 0 then
  (tr_b2 (f_X8_isCritical tv1 tv2 h) fun tv32 th33 =>
  if tv32 = 0 then
  (some (0, th33))
  else
  (some (1, th33)))
  else
  (some (0, h)))
  else
  if tv5 = 6 then
  (tr_b2 (f_X8_isTime tv1 tv4 h) fun tv37 th38 =>
  tr_zb tv37 <|
  some (tv37, th38))
  else
  if tv5 = 7 then
  (if (h.1 4 ((0 : Int32).toNatClampNeg)) ≤ tv1 then
  (some (0, h))
  else
  (tr_bn (f_X8_in ((tv4 : Int32).toInt64) 1 30) fun tv43 =>
  if tv43 = 0 then
  (some (0, h))
  else
  (tr_b2 (f_X8_diesOf 4 tv1 tv4 10 h) fun tv46 th47 =>
  if tv46 = (-9) then
  (some (0, th47))
  else
  (some (1, th47)))))
  else
  (some (0, h))
noncomputable def f_X8_judge_E85 (th12 : tr_H) : Option (Int32 × tr_H) :=
  some ((-9), th12)
noncomputable def f_X8_judge_L44 (tv900 : Int32) (tv901 : Int64) (tv13 : Int32) (th14 : tr_H) : Option ((Int32 × tr_H) ⊕ (tr_H ⊕ (Int32 × tr_H))) :=
  if tv900 ≤ tv13 then
  (some (.inr (.inl th14)))
  else
  (tr_bn (f_X8_longPower 10000 ((tv900 - 1) - tv13)) fun tv17 =>
  tr_nzl tv17 <|
  tr_b2 (f_X8_does (((tv901 / tv17) - (tv901 / tv17) / 10000 * 10000 : Int64).toInt32) th14) fun tv20 th21 =>
  if tv20 = 0 then
  (some (.inr (.inr (tv13, th21))))
  else
  (tr_bd (tv13 + 1) fun tv23 =>
  some (.inl (tv23, th21))))
noncomputable def f_X8_judge (tv900 : Int32) (tv901 : Int64) (h : tr_H) : Option (Int32 × tr_H) :=
  tr_bd (tr_si h 0 0 0) fun th1 =>
  tr_bn (f_X8_in ((tv900 : Int32).toInt64) 1 4) fun tv3 =>
  if tv3 = 0 then
  (some ((-2), th1))
  else
  (tr_bn (f_X8_longPower 10000 tv900) fun tv6 =>
  tr_bn (f_X8_in tv901 0 (tv6 - 1)) fun tv8 =>
  if tv8 = 0 then
  (some ((-2), th1))
  else
  (tr_bn (f_X8_begin th1) fun th11 =>
  tr_bn (tr_lp (fun q => f_X8_judge_L44 tv900 tv901 q.1 q.2) (0, th11)) (fun q => Sum.elim (fun x => f_X8_judge_E85 x) (fun x => some x) q)))
noncomputable def f_X8_orders_E40 (tv2 : Int32) : Option Int32 :=
  some tv2
noncomputable def f_X8_orders_L21 (tv900 : Int32) (tv901 : Int32) (tv3 : Int32) (tv4 : Int32) : Option ((Int32 × Int32) ⊕ Int32) :=
  if ((tv900 - 1) - tv901) < tv4 then
  (some (.inr tv3))
  else
  (tr_bd (tv3 * tv4) fun tv6 =>
  tr_bd (tv4 + 1) fun tv7 =>
  some (.inl (tv6, tv7)))
noncomputable def f_X8_orders_E19 (tv900 : Int32) (tv901 : Int32) (tv1 : Int32) : Option Int32 :=
  tr_bn (tr_lp (fun q => f_X8_orders_L21 tv900 tv901 q.1 q.2) (tv1, 2)) (fun q => f_X8_orders_E40 q)
noncomputable def f_X8_orders_L4 (tv901 : Int32) (tv8 : Int32) (tv9 : Int32) : Option ((Int32 × Int32) ⊕ Int32) :=
  if tv901 < tv9 then
  (some (.inr tv8))
  else
  (tr_bd (tv8 * tv9) fun tv11 =>
  tr_bd (tv9 + 1) fun tv12 =>
  some (.inl (tv11, tv12)))
noncomputable def f_X8_orders (tv900 : Int32) (tv901 : Int32) : Option Int32 :=
  tr_bn (tr_lp (fun q => f_X8_orders_L4 tv901 q.1 q.2) (1, 2)) (fun q => f_X8_orders_E19 tv900 tv901 q)
noncomputable def f_X8_share_E147 (tv901 : Int32) (th6 : tr_H) (tv7 : Int32) (tv8 : Int32) : Option (Int32 × tr_H) :=
  tr_bn (f_X8_fraction tv7 (60 * tv8) tv901) fun tv10 =>
  some (tv10, th6)
noncomputable def f_X8_share_L78 (tv2 : Int32) (tv900 : Int32) (th6 : tr_H) (tv11 : Int32) (tv12 : Int32) (tv13 : Int32) : Option ((Int32 × Int32 × Int32) ⊕ (Int32 × Int32)) :=
  if (1 <<< (tv2 &&& 31)) ≤ tv13 then
  (some (.inr (tv11, tv12)))
  else
  (tr_bn (f_X8_has tv13 tv900) fun tv16 =>
  if tv16 = 0 then
  (tr_bn (f_X8_many ((tv13 : Int32).toInt64)) fun tv20 =>
  tr_bn (f_X8_orders tv2 tv20) fun tv22 =>
  tr_bd (tv12 + tv22) fun tv23 =>
  tr_bd (tv13 ||| (1 <<< (tv900 &&& 31))) fun tv24 =>
  tr_gd tv24 64 <|
  tr_gd tv13 64 <|
  tr_bd (tv11 + (tv22 * ((th6.1 16 tv24.toNatClampNeg) - (th6.1 16 tv13.toNatClampNeg)))) fun tv27 =>
  tr_bd (tv13 + 1) fun tv28 =>
  some (.inl (tv27, tv23, tv28)))
  else
  (tr_bd (tv13 + 1) fun tv18 =>
  some (.inl (tv11, tv12, tv18))))
noncomputable def f_X8_share_E69 (tv2 : Int32) (tv900 : Int32) (tv901 : Int32) (th6 : tr_H) : Option (Int32 × tr_H) :=
  tr_bn (tr_lp (fun q => f_X8_share_L78 tv2 tv900 th6 q.1 q.2.1 q.2.2) (0, 0, 0)) (fun q => f_X8_share_E147 tv901 th6 q.1 q.2)
noncomputable def f_X8_share_L25 (tv2 : Int32) (tv29 : Int32) (th30 : tr_H) : Option ((Int32 × tr_H) ⊕ tr_H) :=
  if (1 <<< (tv2 &&& 31)) ≤ tv29 then
  (some (.inr th30))
  else
  (tr_b2 (f_X8_sixtiethsOf 3 tv29 th30) fun tv33 th34 =>
  if 0 ≤ tv33 then
  (tr_gd tv29 64 <|
  tr_bd (tr_si th34 16 tv29.toNatClampNeg tv33) fun th37 =>
  tr_bd (tv29 + 1) fun tv38 =>
  some (.inl (tv38, th37)))
  else
  (tr_gd tv29 64 <|
  tr_bd (tr_si th34 16 tv29.toNatClampNeg 0) fun th40 =>
  tr_bd (tv29 + 1) fun tv41 =>
  some (.inl (tv41, th40))))
noncomputable def f_X8_share (tv900 : Int32) (tv901 : Int32) (h : tr_H) : Option (Int32 × tr_H) :=
  tr_bd (tr_si h 0 0 0) fun th1 =>
  tr_bd (th1.1 3 ((0 : Int32).toNatClampNeg)) fun tv2 =>
  tr_bn (f_X8_noDeparture tv900 th1) fun tv4 =>
  if tv4 = 0 then
  (tr_bn (tr_lp (fun q => f_X8_share_L25 tv2 q.1 q.2) (0, th1)) (fun q => f_X8_share_E69 tv2 tv900 tv901 q))
  else
  (some ((-1), th1))
noncomputable def f_X8_see (tv900 : Int32) (tv901 : Int32) (tv902 : Int32) (h : tr_H) : Option (Int32 × tr_H) :=
  tr_bd (tr_si h 0 0 0) fun th1 =>
  tr_bn (f_X8_noDeparture tv900 th1) fun tv3 =>
  if tv3 = 0 then
  (tr_bn (f_X8_in ((tv901 : Int32).toInt64) 1 9) fun tv6 =>
  if tv6 = 0 then
  (some ((-2), th1))
  else
  (tr_bn (f_X8_in ((tv902 : Int32).toInt64) 0 1) fun tv9 =>
  if tv9 = 0 then
  (some ((-2), th1))
  else
  (if (th1.1 0 12) = 6 then
  (some ((-4), th1))
  else
  (tr_bd (th1.1 0 12) fun tv12 =>
  tr_gd tv12 6 <|
  tr_bd (tr_si th1 8 tv12.toNatClampNeg tv900) fun th14 =>
  tr_bd (th14.1 0 12) fun tv15 =>
  tr_gd tv15 6 <|
  tr_bd (tr_si th14 9 tv15.toNatClampNeg tv901) fun th17 =>
  tr_bd (th17.1 0 12) fun tv18 =>
  tr_gd tv18 6 <|
  tr_bd (tr_si th17 10 tv18.toNatClampNeg tv902) fun th20 =>
  tr_bd (tr_si th20 0 12 ((th20.1 0 12) + 1)) fun th21 =>
  some (th21.1 0 12, th21)))))
  else
  (some ((-1), th1))
noncomputable def f_X8_unsee (h : tr_H) : Option (Int32 × tr_H) :=
  tr_bd (tr_si h 0 0 0) fun th1 =>
  tr_bd (th1.1 0 12) fun tv2 =>
  tr_bd (tr_si th1 0 12 0) fun th3 =>
  some (tv2, th3)
noncomputable def f_X8_explains_E114 (tv3 : Int32) (th4 : tr_H) : Option (Int32 × tr_H) :=
  tr_zb tv3 <|
  some (tv3, th4)
noncomputable def f_X8_explains_E108 (tv7 : Int32) (th12 : tr_H) (tv13 : Int32) : Option ((Int32 × Int32 × tr_H) ⊕ (Int32 × tr_H)) :=
  tr_bd (tv7 + 1) fun tv14 =>
  some (.inl (tv13, tv14, th12))
noncomputable def f_X8_explains_J93 (tv26 : Int32) (tv16 : Int32) (tv28 : Int32) : Option ((Int32 × Int32) ⊕ Int32) :=
  if tv26 = tv28 then
  (tr_bd (tv16 + 1) fun tv31 =>
  some (.inl (1, tv31)))
  else
  (tr_bd (tv16 + 1) fun tv30 =>
  some (.inl (0, tv30)))
noncomputable def f_X8_explains_J77 (tv16 : Int32) (th12 : tr_H) (tv26 : Int32) : Option ((Int32 × Int32) ⊕ Int32) :=
  tr_gd tv16 6 <|
  if (th12.1 10 tv16.toNatClampNeg) = 1 then
  (f_X8_explains_J93 tv26 tv16 1)
  else
  (f_X8_explains_J93 tv26 tv16 0)
noncomputable def f_X8_explains_L32 (th12 : tr_H) (tv7 : Int32) (tv15 : Int32) (tv16 : Int32) : Option ((Int32 × Int32) ⊕ Int32) :=
  if (th12.1 0 12) ≤ tv16 then
  (some (.inr tv15))
  else
  (if tv15 = 0 then
  (tr_bd (tv16 + 1) fun tv19 =>
  some (.inl (0, tv19)))
  else
  (tr_gd tv16 6 <|
  if (th12.1 9 tv16.toNatClampNeg) = tv7 then
  (tr_gd tv16 6 <|
  tr_bd (th12.1 8 tv16.toNatClampNeg) fun tv24 =>
  tr_gd tv24 6 <|
  if (th12.1 14 tv24.toNatClampNeg) ≤ 0 then
  (f_X8_explains_J77 tv16 th12 0)
  else
  (f_X8_explains_J77 tv16 th12 1))
  else
  (tr_bd (tv16 + 1) fun tv22 =>
  some (.inl (1, tv22)))))
noncomputable def f_X8_explains_L11 (tv6 : Int32) (tv7 : Int32) (th8 : tr_H) : Option ((Int32 × Int32 × tr_H) ⊕ (Int32 × tr_H)) :=
  if 10 ≤ tv7 then
  (some (.inr (tv6, th8)))
  else
  (tr_b2 (f_X8_goRound 3 10 th8) fun tv11 th12 =>
  tr_bn (tr_lp (fun q => f_X8_explains_L32 th12 tv7 q.1 q.2) (tv6, 0)) (fun q => f_X8_explains_E108 tv7 th12 q))
noncomputable def f_X8_explains (tv900 : Int32) (tv901 : Int32) (h : tr_H) : Option (Int32 × tr_H) :=
  tr_bn (f_X8_beginLate tv900 tv901 h) fun th2 =>
  tr_bn (tr_lp (fun q => f_X8_explains_L11 q.1 q.2.1 q.2.2) (1, 1, th2)) (fun q => f_X8_explains_E114 q.1 q.2)
noncomputable def f_X8_began_E127 (tv900 : Int32) (th9 : tr_H) : Option (Int32 × tr_H) :=
  if tv900 = 0 then
  (some (th9.1 0 28, th9))
  else
  (some (th9.1 0 29, th9))
noncomputable def f_X8_began_E121 (tv11 : Int32) (th14 : tr_H) : Option ((Int32 × tr_H) ⊕ tr_H) :=
  tr_bd (tv11 + 1) fun tv15 =>
  some (.inl (tv15, th14))
noncomputable def f_X8_began_J93 (th21 : tr_H) (tv20 : Int32) (tv16 : Int32) (tv22 : Int32) : Option ((Int32 × tr_H) ⊕ tr_H) :=
  tr_bd (tr_si th21 0 29 tv22) fun th23 =>
  if tv20 = 0 then
  (tr_bd (tr_si th23 0 28 ((th23.1 0 28) + 0)) fun th25 =>
  tr_bd (tv16 + 1) fun tv26 =>
  some (.inl (tv26, th25)))
  else
  (tr_bd (tr_si th23 0 28 ((th23.1 0 28) + 1)) fun th27 =>
  tr_bd (tv16 + 1) fun tv28 =>
  some (.inl (tv28, th27)))
noncomputable def f_X8_began_J89 (th21 : tr_H) (tv20 : Int32) (tv16 : Int32) : Option ((Int32 × tr_H) ⊕ tr_H) :=
  f_X8_began_J93 th21 tv20 tv16 (th21.1 0 29)
noncomputable def f_X8_began_L53 (tv11 : Int32) (tv16 : Int32) (th17 : tr_H) : Option ((Int32 × tr_H) ⊕ tr_H) :=
  if 30 < tv16 then
  (some (.inr th17))
  else
  (tr_b2 (f_X8_explains tv11 tv16 th17) fun tv20 th21 =>
  if tv20 = 0 then
  (f_X8_began_J89 th21 tv20 tv16)
  else
  (if (th21.1 0 28) = 0 then
  (f_X8_began_J93 th21 tv20 tv16 ((100 * tv11) + tv16))
  else
  (f_X8_began_J89 th21 tv20 tv16)))
noncomputable def f_X8_began_L41 (tv11 : Int32) (th12 : tr_H) : Option ((Int32 × tr_H) ⊕ tr_H) :=
  if (th12.1 3 ((0 : Int32).toNatClampNeg)) ≤ tv11 then
  (some (.inr th12))
  else
  (tr_bn (tr_lp (fun q => f_X8_began_L53 tv11 q.1 q.2) (1, th12)) (fun q => f_X8_began_E121 tv11 q))
noncomputable def f_X8_began (tv900 : Int32) (h : tr_H) : Option (Int32 × tr_H) :=
  tr_bd (tr_si h 0 0 0) fun th1 =>
  tr_bn (f_X8_in ((tv900 : Int32).toInt64) 0 1) fun tv3 =>
  if tv3 = 0 then
  (some ((-2), th1))
  else
  (tr_bd (tr_si th1 0 28 0) fun th5 =>
  tr_bd (tr_si th5 0 29 (-9)) fun th6 =>
  tr_bn (f_X8_layTimes 3 10 th6) fun th8 =>
  tr_bn (tr_lp (fun q => f_X8_began_L41 q.1 q.2) (0, th8)) (fun q => f_X8_began_E127 tv900 q))
noncomputable def f_X8_drops_E82 (tv3 : Int32) (th4 : tr_H) : Option (Int32 × tr_H) :=
  some (tv3, th4)
noncomputable def f_X8_drops_L9 (tv900 : Int32) (tv901 : Int32) (tv5 : Int32) (tv6 : Int32) (th7 : tr_H) : Option ((Int32 × Int32 × tr_H) ⊕ (Int32 × tr_H)) :=
  if (th7.1 3 ((0 : Int32).toNatClampNeg)) ≤ tv6 then
  (some (.inr (tv5, th7)))
  else
  (tr_bn (f_X8_isThere 3 tv900 tv6 th7) fun tv10 =>
  if tv10 = 0 then
  (tr_bd (tv6 + 1) fun tv12 =>
  some (.inl (tv5, tv12, th7)))
  else
  (tr_bn (f_X8_has tv901 tv5) fun tv14 =>
  if tv14 = 0 then
  (tr_bd ((1 + (6 * tv900)) + tv6) fun tv16 =>
  tr_gd tv16 37 <|
  tr_bd ((1 + (6 * tv900)) + tv6) fun tv18 =>
  tr_gd tv18 37 <|
  tr_bd (tr_si th7 4 tv18.toNatClampNeg (th7.1 3 tv16.toNatClampNeg)) fun th20 =>
  tr_bd (tv5 + 1) fun tv21 =>
  tr_bd (tv6 + 1) fun tv22 =>
  some (.inl (tv21, tv22, th20)))
  else
  (tr_bd ((1 + (6 * tv900)) + tv6) fun tv23 =>
  tr_gd tv23 37 <|
  tr_bd (tr_si th7 4 tv23.toNatClampNeg 0) fun th25 =>
  tr_bd (tv5 + 1) fun tv26 =>
  tr_bd (tv6 + 1) fun tv27 =>
  some (.inl (tv26, tv27, th25)))))
noncomputable def f_X8_drops (tv900 : Int32) (tv901 : Int32) (h : tr_H) : Option (Int32 × tr_H) :=
  tr_bn (f_X8_begin h) fun th2 =>
  tr_bn (tr_lp (fun q => f_X8_drops_L9 tv900 tv901 q.1 q.2.1 q.2.2) (0, 0, th2)) (fun q => f_X8_drops_E82 q.1 q.2)
noncomputable def f_X8_dropped_E127 (tv12 : Int32) (tv903 : Int32) (tv14 : Int32) (th15 : tr_H) : Option (Int32 × tr_H) :=
  tr_bn (f_X8_power 10 tv12) fun tv17 =>
  tr_bn (f_X8_fraction tv14 tv17 tv903) fun tv19 =>
  some (tv19, th15)
noncomputable def f_X8_dropped_L56 (tv12 : Int32) (tv900 : Int32) (tv901 : Int32) (tv902 : Int32) (tv20 : Int32) (tv21 : Int32) (th22 : tr_H) : Option ((Int32 × Int32 × tr_H) ⊕ (Int32 × tr_H)) :=
  if (1 <<< (tv12 &&& 31)) ≤ tv21 then
  (some (.inr (tv20, th22)))
  else
  (tr_b2 (f_X8_drops tv900 tv21 th22) fun tv25 th26 =>
  tr_bn (f_X8_many ((tv21 : Int32).toInt64)) fun tv28 =>
  tr_b2 (f_X8_isPeriod 4 tv901 th26) fun tv30 th31 =>
  if tv30 = 0 then
  (tr_bd (tv20 + 0) fun tv33 =>
  tr_bd (tv21 + 1) fun tv34 =>
  some (.inl (tv33, tv34, th31)))
  else
  (tr_bn (f_X8_power tv902 tv28) fun tv36 =>
  tr_bn (f_X8_power (10 - tv902) (tv12 - tv28)) fun tv38 =>
  tr_bd (tv20 + (tv36 * tv38)) fun tv39 =>
  tr_bd (tv21 + 1) fun tv40 =>
  some (.inl (tv39, tv40, th31))))
noncomputable def f_X8_dropped (tv900 : Int32) (tv901 : Int32) (tv902 : Int32) (tv903 : Int32) (h : tr_H) : Option (Int32 × tr_H) :=
  tr_bd (tr_si h 0 0 0) fun th1 =>
  tr_bn (f_X8_noDeparture tv900 th1) fun tv3 =>
  if tv3 = 0 then
  (tr_bn (f_X8_in ((tv901 : Int32).toInt64) 0 20) fun tv6 =>
  if tv6 = 0 then
  (some ((-2), th1))
  else
  (tr_bn (f_X8_in ((tv902 : Int32).toInt64) 0 10) fun tv9 =>
  if tv9 = 0 then
  (some ((-2), th1))
  else
  (tr_b2 (f_X8_drops tv900 0 th1) fun tv12 th13 =>
  tr_bn (tr_lp (fun q => f_X8_dropped_L56 tv12 tv900 tv901 tv902 q.1 q.2.1 q.2.2) (0, 0, th13)) (fun q => f_X8_dropped_E127 tv12 tv903 q.1 q.2))))
  else
  (some ((-1), th1))
noncomputable def f_X8_seed (tv900 : Int64) (h : tr_H) : Option (Int64 × tr_H) :=
  tr_bd (tr_si h 0 0 0) fun th1 =>
  tr_bd (th1.2 0 16) fun tv2 =>
  tr_bd (tr_sl th1 0 16 tv900) fun th3 =>
  some (tv2, th3)
noncomputable def f_X8_draw (tv900 : Int32) (tv901 : Int32) (tv902 : Int32) (h : tr_H) : Option tr_H :=
  if (h.1 4 ((0 : Int32).toNatClampNeg)) ≤ tv900 then
  (some h)
  else
  (if (h.1 4 ((0 : Int32).toNatClampNeg)) ≤ tv901 then
  (some h)
  else
  (if tv902 = 10 then
  (tr_bd ((1 + (6 * tv900)) + tv901) fun tv7 =>
  tr_gd tv7 37 <|
  tr_bd (tr_si h 4 tv7.toNatClampNeg 0) fun th9 =>
  some th9)
  else
  (tr_bd ((1 + (6 * tv900)) + tv901) fun tv4 =>
  tr_gd tv4 37 <|
  tr_bd (tr_si h 4 tv4.toNatClampNeg (tv902 + 1)) fun th6 =>
  some th6)))
noncomputable def f_X8_drawn_E121 (tv7 : Int32) (th8 : tr_H) : Option (Int32 × tr_H) :=
  some (tv7, th8)
noncomputable def f_X8_drawn_L28 (tv900 : Int32) (tv9 : Int32) (tv10 : Int32) (th11 : tr_H) : Option ((Int32 × Int32 × tr_H) ⊕ (Int32 × tr_H)) :=
  if tv900 ≤ tv10 then
  (some (.inr (tv9, th11)))
  else
  (tr_bd (tr_sl th11 0 16 (((th11.2 0 16) * 6364136223846793005) + 1442695040888963407)) fun th13 =>
  tr_bd ((((th13.2 0 16).toUInt64 >>> ((33 : Int32).toInt64.toUInt64 &&& Int64.toUInt64 63)).toInt64 : Int64).toInt32) fun tv14 =>
  tr_bn (f_X8_draw (tv14 - tv14 / 6 * 6) ((tv14 / 8) - (tv14 / 8) / 6 * 6) ((tv14 / 64) - (tv14 / 64) / 11 * 11) th13) fun th16 =>
  tr_bn (f_X8_find 4 th16) fun th18 =>
  if (th18.1 0 19) = 0 then
  (tr_bd (tv9 + 0) fun tv24 =>
  tr_bd (tv10 + 1) fun tv25 =>
  some (.inl (tv24, tv25, th18)))
  else
  (tr_bd (th18.1 0 19) fun tv20 =>
  tr_nz tv20 <|
  tr_bd (tv9 + ((th18.1 0 18) / tv20)) fun tv22 =>
  tr_bd (tv10 + 1) fun tv23 =>
  some (.inl (tv22, tv23, th18))))
noncomputable def f_X8_drawn (tv900 : Int32) (h : tr_H) : Option (Int32 × tr_H) :=
  tr_bd (tr_si h 0 0 0) fun th1 =>
  tr_bn (f_X8_in ((tv900 : Int32).toInt64) 1 20) fun tv3 =>
  if tv3 = 0 then
  (some ((-2), th1))
  else
  (tr_bn (f_X8_begin th1) fun th6 =>
  tr_bn (tr_lp (fun q => f_X8_drawn_L28 tv900 q.1 q.2.1 q.2.2) (0, 0, th6)) (fun q => f_X8_drawn_E121 q.1 q.2))
noncomputable def f_X8_keep_E55 (th7 : tr_H) : Option (Int32 × tr_H) :=
  tr_bn (f_X8_waits 3 th7) fun tv9 =>
  some (tv9, th7)
noncomputable def f_X8_keep_L26 (tv900 : Int32) (tv10 : Int32) (th11 : tr_H) : Option ((Int32 × tr_H) ⊕ tr_H) :=
  if 37 ≤ tv10 then
  (some (.inr th11))
  else
  (tr_gd tv10 37 <|
  tr_bd ((37 * tv900) + tv10) fun tv14 =>
  tr_gd tv14 74 <|
  tr_bd (tr_si th11 6 tv14.toNatClampNeg (th11.1 3 tv10.toNatClampNeg)) fun th16 =>
  tr_bd (tv10 + 1) fun tv17 =>
  some (.inl (tv17, th16)))
noncomputable def f_X8_keep (tv900 : Int32) (h : tr_H) : Option (Int32 × tr_H) :=
  tr_bd (tr_si h 0 0 0) fun th1 =>
  tr_bn (f_X8_in ((tv900 : Int32).toInt64) 0 1) fun tv3 =>
  if tv3 = 0 then
  (some ((-1), th1))
  else
  (tr_gd tv900 2 <|
  tr_bd (tr_si th1 7 tv900.toNatClampNeg 1) fun th6 =>
  tr_bn (tr_lp (fun q => f_X8_keep_L26 tv900 q.1 q.2) (0, th6)) (fun q => f_X8_keep_E55 q))
noncomputable def f_X8_again_E60 (th7 : tr_H) : Option (Int32 × tr_H) :=
  tr_bd (tr_si th7 0 9 0) fun th8 =>
  tr_bn (f_X8_waits 3 th8) fun tv10 =>
  some (tv10, th8)
noncomputable def f_X8_again_L31 (tv900 : Int32) (tv11 : Int32) (th12 : tr_H) : Option ((Int32 × tr_H) ⊕ tr_H) :=
  if 37 ≤ tv11 then
  (some (.inr th12))
  else
  (tr_bd ((37 * tv900) + tv11) fun tv14 =>
  tr_gd tv14 74 <|
  tr_gd tv11 37 <|
  tr_bd (tr_si th12 3 tv11.toNatClampNeg (th12.1 6 tv14.toNatClampNeg)) fun th17 =>
  tr_bd (tv11 + 1) fun tv18 =>
  some (.inl (tv18, th17)))
noncomputable def f_X8_again (tv900 : Int32) (h : tr_H) : Option (Int32 × tr_H) :=
  tr_bd (tr_si h 0 0 0) fun th1 =>
  tr_bn (f_X8_in ((tv900 : Int32).toInt64) 0 1) fun tv3 =>
  if tv3 = 0 then
  (some ((-1), th1))
  else
  (tr_gd tv900 2 <|
  if (th1.1 7 tv900.toNatClampNeg) = 0 then
  (some ((-3), th1))
  else
  (tr_bn (tr_lp (fun q => f_X8_again_L31 tv900 q.1 q.2) (0, th1)) (fun q => f_X8_again_E60 q)))
