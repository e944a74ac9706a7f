theorem tr_appl {D : va_G} {cl : List vw_C} {a b : va_W} {H : Heap} (h : va_P D cl (a ++ b) H) : va_P D cl a H := fun k q hk => h k q (by rw [List.getElem?_append_left (List.getElem?_eq_some_iff.mp hk).1]; exact hk)
theorem tr_appr {D : va_G} {cl : List vw_C} {a b : va_W} {H : Heap} (h : va_P D cl (a ++ b) H) : va_P D cl b H := fun k q hk => h (a.length + k) q (by rw [List.getElem?_append_right (by omega), Nat.add_sub_cancel_left]; exact hk)
theorem tr_dis {A : Nat → Prop} {Y1 Y2 : tr_Y} {w1 w2 : tr_E} {h1 h2 : tr_H} (hD : va_D A (tr_cs Y1 w1 h1 ++ tr_cs Y2 w2 h2)) : (tr_I Y1 w1 ∧ tr_I Y2 w2) ∧ ((∀ i, i < Y1.1 → A (tr_ad w1 i)) ∧ (∀ i, i < Y2.1 → A (tr_ad w2 i))) ∧ ∀ i j, i < Y1.1 → j < Y2.1 → tr_ad w1 i ≠ tr_ad w2 j := by
  have e1 : ∀ i, i < Y1.1 → (tr_cs Y1 w1 h1 ++ tr_cs Y2 w2 h2)[i]? = some (tr_ad w1 i, Y1.2 (tr_ad w1) w1.2.1 i (h1.1 i) (h1.2 i)) := fun i hi => by rw [List.getElem?_append_left (by rw [tr_cs_len]; exact hi), tr_cs_at hi]
  have e2 : ∀ i, i < Y2.1 → (tr_cs Y1 w1 h1 ++ tr_cs Y2 w2 h2)[Y1.1 + i]? = some (tr_ad w2 i, Y2.2 (tr_ad w2) w2.2.1 i (h2.1 i) (h2.2 i)) := fun i hi => by rw [List.getElem?_append_right (by rw [tr_cs_len]; omega), tr_cs_len, Nat.add_sub_cancel_left, tr_cs_at hi]
  refine ⟨⟨fun i j hi hj he => hD.1 i j _ _ (e1 i hi) (e1 j hj) he, fun i j hi hj he => ?_⟩, ⟨fun i hi => hD.2 i _ (e1 i hi), fun i hi => hD.2 _ _ (e2 i hi)⟩, fun i j hi hj he => ?_⟩
  · have := hD.1 _ _ _ _ (e2 i hi) (e2 j hj) he
    omega
  · have := hD.1 _ _ _ _ (e1 i hi) (e2 j hj) he
    omega
theorem tr_evi {args : Array Value} {s : State} {tm : Term} {z : Int32} (h : (Cond.eq tm (.int z)).before args s = true) : tm.eval args s none [] s = some (.int z) := by
  cases hv : tm.eval args s none [] s with
  | none => simp [Cond.before, Cond.holds, Cond.value, hv] at h
  | some x =>
    have hz : (Term.int z).eval args s none [] s = some (.int z) := rfl
    simp only [Cond.before, Cond.holds, Cond.value, hv, hz] at h
    cases x <;> simp_all
theorem tr_evl {args : Array Value} {s : State} {tm : Term} {z : Int64} (h : (Cond.eq tm (.long z)).before args s = true) : tm.eval args s none [] s = some (.long z) := by
  cases hv : tm.eval args s none [] s with
  | none => simp [Cond.before, Cond.holds, Cond.value, hv] at h
  | some x =>
    have hz : (Term.long z).eval args s none [] s = some (.long z) := rfl
    simp only [Cond.before, Cond.holds, Cond.value, hv, hz] at h
    cases x <;> simp_all
theorem tr_sub6 {L i : Nat} (hL : L ≤ 3072) (hi : i ≤ 4000) : (Int32.ofNat L - 6 < nI i) ↔ L < i + 6 := by
  have e1 : (Int32.ofNat L - 6).toInt = (L : Int) - 6 := by
    have h6 : (6 : Int32).toInt = 6 := by decide
    have hl : (Int32.ofNat L).toInt = (L : Int) := nI_toInt (n := L) (by omega)
    rw [Int32.toInt_sub, hl, h6]
    simp only [Int.bmod]
    split <;> omega
  have e2 : (nI i).toInt = (i : Int) := nI_toInt (by omega)
  rw [Int32.lt_iff_toInt_lt, e1, e2]
  omega
set_option maxHeartbeats 4000000 in
set_option maxRecDepth 100000 in
theorem law_loop {p : Program} {l : Launch} {e : Env} {s : State} {m : MethodId} {below : List Frame} {meth : Method} {c : Code} {b L : Nat} {xs : Nat → Int32} {w : tr_E} {adx adm : Nat → Nat} {Rel : tr_H → tr_H → Prop} (hs : tr_Sim Rel) (hL : L ≤ 3072) (C : tr_LC p s m c b L xs w adx adm) (hr : meth.sig.returnType = ret) (hlocks : meth.locks = false) : ∀ (n i : Nat), L + 1 ≤ i + n → i ≤ L + 6 → ∀ hx hm, Rel hx hm → lw_W p l e s m below meth c b w adx adm 18 (nI i) hx hm := by
  intro n
  induction n with
  | zero =>
    intro i hin hi hx hm hrel H locs ls hPx hPm hS hl
    have h1 := C.1.1
    have h2 : c.code = cL_law := C.1.2.1
    have hbA : ¬ (fun q : Nat => s.heap.size ≤ q) b := Nat.not_le.mpr C.2.1.2
    refine lv_iload_n h1 h2 dL_law_18 rfl (lv_at hl 3 rfl) ?_
    refine lv_aload_n h1 h2 dL_law_19 rfl (lv_at hl 0 rfl) ?_
    refine va_slen h1 h2 C.2.1.1 C.2.1.2 hbA hS dL_law_20 ?_
    refine lv_bipush (v := 6) h1 h2 dL_law_21 (by decide) ?_
    refine lv_isub h1 h2 dL_law_23 ?_
    refine lv_icmp_gt (tgt := 1072) h1 h2 dL_law_24 (by decide) (fun c1 => ?_) (fun c1 => absurd ((tr_sub6 hL (by omega)).mpr (by omega)) c1)
    refine lv_iconst (v := 1) h1 h2 dL_law_1072 (by decide) ?_
    refine va_forget (fun q hq => hS.2.2 q hq) ?_
    exact lw_ret h1 h2 hr hlocks dL_law_1073
  | succ n ih =>
    intro i hin hi hx hm hrel H locs ls hPx hPm hS hl
    have h1 := C.1.1
    have h2 : c.code = cL_law := C.1.2.1
    have hbA : ¬ (fun q : Nat => s.heap.size ≤ q) b := Nat.not_le.mpr C.2.1.2
    refine lv_iload_n h1 h2 dL_law_18 rfl (lv_at hl 3 rfl) ?_
    refine lv_aload_n h1 h2 dL_law_19 rfl (lv_at hl 0 rfl) ?_
    refine va_slen h1 h2 C.2.1.1 C.2.1.2 hbA hS dL_law_20 ?_
    refine lv_bipush (v := 6) h1 h2 dL_law_21 (by decide) ?_
    refine lv_isub h1 h2 dL_law_23 ?_
    refine lv_icmp_gt (tgt := 1072) h1 h2 dL_law_24 (by decide) (fun c1 => ?_) (fun c1 => ?_)
    · refine lv_iconst (v := 1) h1 h2 dL_law_1072 (by decide) ?_
      refine va_forget (fun q hq => hS.2.2 q hq) ?_
      exact lw_ret h1 h2 hr hlocks dL_law_1073
    · have hi6 : i + 6 ≤ L := Nat.not_lt.mp (fun h => c1 ((tr_sub6 hL (by omega)).mpr h))
      have hv1 : vp_in (nI i + 1) L := by rw [show nI i + 1 = nI (i + 1) from nI_add i 1]; exact vp_in_nI (by omega) (by omega)
      have hv2 : vp_in (nI i + 2) L := by rw [show nI i + 2 = nI (i + 2) from nI_add i 2]; exact vp_in_nI (by omega) (by omega)
      have hv3 : vp_in (nI i + 3) L := by rw [show nI i + 3 = nI (i + 3) from nI_add i 3]; exact vp_in_nI (by omega) (by omega)
      have hv4 : vp_in (nI i + 4) L := by rw [show nI i + 4 = nI (i + 4) from nI_add i 4]; exact vp_in_nI (by omega) (by omega)
      have hv5 : vp_in (nI i + 5) L := by rw [show nI i + 5 = nI (i + 5) from nI_add i 5]; exact vp_in_nI (by omega) (by omega)
      have hv0 : vp_in (nI i) L := vp_in_nI (by omega) (by omega)
      have jn : ∀ hx hm, Rel hx hm → lw_W p l e s m below meth c b w adx adm 1066 (nI i) hx hm := by
        intro hx hm hrel H locs ls hPx hPm hS hl
        refine lv_iinc (v := nI (i + 6)) (lv' := [(3, .int (nI (i + 6))), (0, .ref b), (1, .ref (adx 0)), (2, .ref (adm 0))]) h1 h2 dL_law_1066 hl (k := 3) rfl (nI_add i 6) (by decide) rfl (fun ls hl => ?_)
        refine lv_goto (tgt := 18) h1 h2 dL_law_1069 (by decide) ?_
        exact ih (i + 6) (by omega) (by omega) hx hm hrel H locs ls hPx hPm hS (lv_sub hl [1, 2, 3, 0] rfl)
      refine lv_aload_n h1 h2 dL_law_27 rfl (lv_at hl 0 rfl) ?_
      refine lv_iload_n h1 h2 dL_law_28 rfl (lv_at hl 3 rfl) ?_
      refine va_sld h1 h2 C.2.1.1 C.2.1.2 hbA hS hv0 dL_law_29 ?_
      refine lv_bipush (v := 31) h1 h2 dL_law_30 (by decide) ?_
      refine lv_iand h1 h2 dL_law_32 ?_
      refine lv_topi (fun zz ez => ?_)
      rcases Decidable.em (zz = 0) with cz0 | cz0
      · refine lv_tableIn (tgt := 156) h1 h2 dL_law_33 (by rw [cz0]; decide) (by rw [cz0]; decide) (by rw [cz0]; rfl) (by decide) ?_
        exact lw_c0 (hs.1) C (nI i) hv1 hv2 hv3 hv4 hv5 jn hx hm hrel H locs ls hPx hPm hS hl
      rcases Decidable.em (zz = 1) with cz1 | cz1
      · refine lv_tableIn (tgt := 179) h1 h2 dL_law_33 (by rw [cz1]; decide) (by rw [cz1]; decide) (by rw [cz1]; rfl) (by decide) ?_
        exact lw_c1 (hs.2.1) C (nI i) hv1 hv2 hv3 hv4 hv5 jn hx hm hrel H locs ls hPx hPm hS hl
      rcases Decidable.em (zz = 2) with cz2 | cz2
      · refine lv_tableIn (tgt := 192) h1 h2 dL_law_33 (by rw [cz2]; decide) (by rw [cz2]; decide) (by rw [cz2]; rfl) (by decide) ?_
        exact lw_c2 (hs.2.2.1) C (nI i) hv1 hv2 hv3 hv4 hv5 jn hx hm hrel H locs ls hPx hPm hS hl
      rcases Decidable.em (zz = 3) with cz3 | cz3
      · refine lv_tableIn (tgt := 205) h1 h2 dL_law_33 (by rw [cz3]; decide) (by rw [cz3]; decide) (by rw [cz3]; rfl) (by decide) ?_
        exact lw_c3 (hs.2.2.2.1) C (nI i) hv1 hv2 hv3 hv4 hv5 jn hx hm hrel H locs ls hPx hPm hS hl
      rcases Decidable.em (zz = 4) with cz4 | cz4
      · refine lv_tableIn (tgt := 218) h1 h2 dL_law_33 (by rw [cz4]; decide) (by rw [cz4]; decide) (by rw [cz4]; rfl) (by decide) ?_
        exact lw_c4 (hs.2.2.2.2.1) C (nI i) hv1 hv2 hv3 hv4 hv5 jn hx hm hrel H locs ls hPx hPm hS hl
      rcases Decidable.em (zz = 5) with cz5 | cz5
      · refine lv_tableIn (tgt := 241) h1 h2 dL_law_33 (by rw [cz5]; decide) (by rw [cz5]; decide) (by rw [cz5]; rfl) (by decide) ?_
        exact lw_c5 (hs.2.2.2.2.2.1) C (nI i) hv1 hv2 hv3 hv4 hv5 jn hx hm hrel H locs ls hPx hPm hS hl
      rcases Decidable.em (zz = 6) with cz6 | cz6
      · refine lv_tableIn (tgt := 274) h1 h2 dL_law_33 (by rw [cz6]; decide) (by rw [cz6]; decide) (by rw [cz6]; rfl) (by decide) ?_
        exact lw_c6 (hs.2.2.2.2.2.2.1) C (nI i) hv1 hv2 hv3 hv4 hv5 jn hx hm hrel H locs ls hPx hPm hS hl
      rcases Decidable.em (zz = 7) with cz7 | cz7
      · refine lv_tableIn (tgt := 317) h1 h2 dL_law_33 (by rw [cz7]; decide) (by rw [cz7]; decide) (by rw [cz7]; rfl) (by decide) ?_
        exact lw_c7 (hs.2.2.2.2.2.2.2.1) C (nI i) hv1 hv2 hv3 hv4 hv5 jn hx hm hrel H locs ls hPx hPm hS hl
      rcases Decidable.em (zz = 8) with cz8 | cz8
      · refine lv_tableIn (tgt := 350) h1 h2 dL_law_33 (by rw [cz8]; decide) (by rw [cz8]; decide) (by rw [cz8]; rfl) (by decide) ?_
        exact lw_c8 (hs.2.2.2.2.2.2.2.2.1) C (nI i) hv1 hv2 hv3 hv4 hv5 jn hx hm hrel H locs ls hPx hPm hS hl
      rcases Decidable.em (zz = 9) with cz9 | cz9
      · refine lv_tableIn (tgt := 393) h1 h2 dL_law_33 (by rw [cz9]; decide) (by rw [cz9]; decide) (by rw [cz9]; rfl) (by decide) ?_
        exact lw_c9 (hs.2.2.2.2.2.2.2.2.2.1) C (nI i) hv1 hv2 hv3 hv4 hv5 jn hx hm hrel H locs ls hPx hPm hS hl
      rcases Decidable.em (zz = 10) with cz10 | cz10
      · refine lv_tableIn (tgt := 406) h1 h2 dL_law_33 (by rw [cz10]; decide) (by rw [cz10]; decide) (by rw [cz10]; rfl) (by decide) ?_
        exact lw_c10 (hs.2.2.2.2.2.2.2.2.2.2.1) C (nI i) hv1 hv2 hv3 hv4 hv5 jn hx hm hrel H locs ls hPx hPm hS hl
      rcases Decidable.em (zz = 11) with cz11 | cz11
      · refine lv_tableIn (tgt := 445) h1 h2 dL_law_33 (by rw [cz11]; decide) (by rw [cz11]; decide) (by rw [cz11]; rfl) (by decide) ?_
        exact lw_c11 (hs.2.2.2.2.2.2.2.2.2.2.2.1) C (nI i) hv1 hv2 hv3 hv4 hv5 jn hx hm hrel H locs ls hPx hPm hS hl
      rcases Decidable.em (zz = 12) with cz12 | cz12
      · refine lv_tableIn (tgt := 478) h1 h2 dL_law_33 (by rw [cz12]; decide) (by rw [cz12]; decide) (by rw [cz12]; rfl) (by decide) ?_
        exact lw_c12 (hs.2.2.2.2.2.2.2.2.2.2.2.2.1) C (nI i) hv1 hv2 hv3 hv4 hv5 jn hx hm hrel H locs ls hPx hPm hS hl
      rcases Decidable.em (zz = 13) with cz13 | cz13
      · refine lv_tableIn (tgt := 511) h1 h2 dL_law_33 (by rw [cz13]; decide) (by rw [cz13]; decide) (by rw [cz13]; rfl) (by decide) ?_
        exact lw_c13 (hs.2.2.2.2.2.2.2.2.2.2.2.2.2.1) C (nI i) hv1 hv2 hv3 hv4 hv5 jn hx hm hrel H locs ls hPx hPm hS hl
      rcases Decidable.em (zz = 14) with cz14 | cz14
      · refine lv_tableIn (tgt := 554) h1 h2 dL_law_33 (by rw [cz14]; decide) (by rw [cz14]; decide) (by rw [cz14]; rfl) (by decide) ?_
        exact lw_c14 (hs.2.2.2.2.2.2.2.2.2.2.2.2.2.2.1) C (nI i) hv1 hv2 hv3 hv4 hv5 jn hx hm hrel H locs ls hPx hPm hS hl
      rcases Decidable.em (zz = 15) with cz15 | cz15
      · refine lv_tableIn (tgt := 617) h1 h2 dL_law_33 (by rw [cz15]; decide) (by rw [cz15]; decide) (by rw [cz15]; rfl) (by decide) ?_
        exact lw_c15 (hs.2.2.2.2.2.2.2.2.2.2.2.2.2.2.2.1) C (nI i) hv1 hv2 hv3 hv4 hv5 jn hx hm hrel H locs ls hPx hPm hS hl
      rcases Decidable.em (zz = 16) with cz16 | cz16
      · refine lv_tableIn (tgt := 660) h1 h2 dL_law_33 (by rw [cz16]; decide) (by rw [cz16]; decide) (by rw [cz16]; rfl) (by decide) ?_
        exact lw_c16 (hs.2.2.2.2.2.2.2.2.2.2.2.2.2.2.2.2.1) C (nI i) hv1 hv2 hv3 hv4 hv5 jn hx hm hrel H locs ls hPx hPm hS hl
      rcases Decidable.em (zz = 17) with cz17 | cz17
      · refine lv_tableIn (tgt := 683) h1 h2 dL_law_33 (by rw [cz17]; decide) (by rw [cz17]; decide) (by rw [cz17]; rfl) (by decide) ?_
        exact lw_c17 (hs.2.2.2.2.2.2.2.2.2.2.2.2.2.2.2.2.2.1) C (nI i) hv1 hv2 hv3 hv4 hv5 jn hx hm hrel H locs ls hPx hPm hS hl
      rcases Decidable.em (zz = 18) with cz18 | cz18
      · refine lv_tableIn (tgt := 746) h1 h2 dL_law_33 (by rw [cz18]; decide) (by rw [cz18]; decide) (by rw [cz18]; rfl) (by decide) ?_
        exact lw_c18 (hs.2.2.2.2.2.2.2.2.2.2.2.2.2.2.2.2.2.2.1) C (nI i) hv1 hv2 hv3 hv4 hv5 jn hx hm hrel H locs ls hPx hPm hS hl
      rcases Decidable.em (zz = 19) with cz19 | cz19
      · refine lv_tableIn (tgt := 795) h1 h2 dL_law_33 (by rw [cz19]; decide) (by rw [cz19]; decide) (by rw [cz19]; rfl) (by decide) ?_
        exact lw_c19 (hs.2.2.2.2.2.2.2.2.2.2.2.2.2.2.2.2.2.2.2.1) C (nI i) hv1 hv2 hv3 hv4 hv5 jn hx hm hrel H locs ls hPx hPm hS hl
      rcases Decidable.em (zz = 20) with cz20 | cz20
      · refine lv_tableIn (tgt := 838) h1 h2 dL_law_33 (by rw [cz20]; decide) (by rw [cz20]; decide) (by rw [cz20]; rfl) (by decide) ?_
        exact lw_c20 (hs.2.2.2.2.2.2.2.2.2.2.2.2.2.2.2.2.2.2.2.2.1) C (nI i) hv1 hv2 hv3 hv4 hv5 jn hx hm hrel H locs ls hPx hPm hS hl
      rcases Decidable.em (zz = 21) with cz21 | cz21
      · refine lv_tableIn (tgt := 851) h1 h2 dL_law_33 (by rw [cz21]; decide) (by rw [cz21]; decide) (by rw [cz21]; rfl) (by decide) ?_
        exact lw_c21 (hs.2.2.2.2.2.2.2.2.2.2.2.2.2.2.2.2.2.2.2.2.2.1) C (nI i) hv1 hv2 hv3 hv4 hv5 jn hx hm hrel H locs ls hPx hPm hS hl
      rcases Decidable.em (zz = 22) with cz22 | cz22
      · refine lv_tableIn (tgt := 874) h1 h2 dL_law_33 (by rw [cz22]; decide) (by rw [cz22]; decide) (by rw [cz22]; rfl) (by decide) ?_
        exact lw_c22 (hs.2.2.2.2.2.2.2.2.2.2.2.2.2.2.2.2.2.2.2.2.2.2.1) C (nI i) hv1 hv2 hv3 hv4 hv5 jn hx hm hrel H locs ls hPx hPm hS hl
      rcases Decidable.em (zz = 23) with cz23 | cz23
      · refine lv_tableIn (tgt := 943) h1 h2 dL_law_33 (by rw [cz23]; decide) (by rw [cz23]; decide) (by rw [cz23]; rfl) (by decide) ?_
        exact lw_c23 (hs.2.2.2.2.2.2.2.2.2.2.2.2.2.2.2.2.2.2.2.2.2.2.2.1) C (nI i) hv1 hv2 hv3 hv4 hv5 jn hx hm hrel H locs ls hPx hPm hS hl
      rcases Decidable.em (zz = 24) with cz24 | cz24
      · refine lv_tableIn (tgt := 997) h1 h2 dL_law_33 (by rw [cz24]; decide) (by rw [cz24]; decide) (by rw [cz24]; rfl) (by decide) ?_
        exact lw_c24 (hs.2.2.2.2.2.2.2.2.2.2.2.2.2.2.2.2.2.2.2.2.2.2.2.2.1) C (nI i) hv1 hv2 hv3 hv4 hv5 jn hx hm hrel H locs ls hPx hPm hS hl
      rcases Decidable.em (zz = 25) with cz25 | cz25
      · refine lv_tableIn (tgt := 1020) h1 h2 dL_law_33 (by rw [cz25]; decide) (by rw [cz25]; decide) (by rw [cz25]; rfl) (by decide) ?_
        exact lw_c25 (hs.2.2.2.2.2.2.2.2.2.2.2.2.2.2.2.2.2.2.2.2.2.2.2.2.2.1) C (nI i) hv1 hv2 hv3 hv4 hv5 jn hx hm hrel H locs ls hPx hPm hS hl
      rcases Decidable.em (zz = 26) with cz26 | cz26
      · refine lv_tableIn (tgt := 1043) h1 h2 dL_law_33 (by rw [cz26]; decide) (by rw [cz26]; decide) (by rw [cz26]; rfl) (by decide) ?_
        exact lw_c26 (hs.2.2.2.2.2.2.2.2.2.2.2.2.2.2.2.2.2.2.2.2.2.2.2.2.2.2) C (nI i) hv1 hv2 hv3 hv4 hv5 jn hx hm hrel H locs ls hPx hPm hS hl
      refine lv_tableOut (tgt := 1066) h1 h2 dL_law_33 (tr_tso (fun k h1 h2 => by
        rcases (show k = 0 ∨ k = 1 ∨ k = 2 ∨ k = 3 ∨ k = 4 ∨ k = 5 ∨ k = 6 ∨ k = 7 ∨ k = 8 ∨ k = 9 ∨ k = 10 ∨ k = 11 ∨ k = 12 ∨ k = 13 ∨ k = 14 ∨ k = 15 ∨ k = 16 ∨ k = 17 ∨ k = 18 ∨ k = 19 ∨ k = 20 ∨ k = 21 ∨ k = 22 ∨ k = 23 ∨ k = 24 ∨ k = 25 ∨ k = 26 by omega) with rfl | rfl | rfl | rfl | rfl | rfl | rfl | rfl | rfl | rfl | rfl | rfl | rfl | rfl | rfl | rfl | rfl | rfl | rfl | rfl | rfl | rfl | rfl | rfl | rfl | rfl | rfl
        · exact cz0
        · exact cz1
        · exact cz2
        · exact cz3
        · exact cz4
        · exact cz5
        · exact cz6
        · exact cz7
        · exact cz8
        · exact cz9
        · exact cz10
        · exact cz11
        · exact cz12
        · exact cz13
        · exact cz14
        · exact cz15
        · exact cz16
        · exact cz17
        · exact cz18
        · exact cz19
        · exact cz20
        · exact cz21
        · exact cz22
        · exact cz23
        · exact cz24
        · exact cz25
        · exact cz26)) (by decide) ?_
      exact jn hx hm hrel H locs ls hPx hPm hS hl
set_option maxHeartbeats 8000000 in
set_option maxRecDepth 100000 in
theorem tr_statics {args : Array Value} {s : State} (hts : ∀ w ∈ lw_tbl, w.before args s = true) (hgv : (Jvm.Cond.and given_1 narrow_1).before args s = true) : ∃ t : Nat → Nat, tr_St (fun q => s.heap.size ≤ q) t s s.heap := by
  have hs := flat_of_before _ hgv
  have hA : ∀ a : Nat, a < s.heap.size → ¬ (fun q : Nat => s.heap.size ≤ q) a := fun a h => Nat.not_le.mpr h
  have hini := hts (.initialized "TurnRounds") (List.mem_of_getElem? (i := 42) (by decide +kernel))
  obtain ⟨t0, e0, T0⟩ := va_Tof (tm := (Term.static "TurnRounds" "SIXTIETHS" "[I")) (ty := .int) (N := 7) (f := fun j => .int (tr_f0 j)) (A := fun q => s.heap.size ≤ q) (by decide) (hs (Cond.arrayOf (Term.static "TurnRounds" "SIXTIETHS" "[I") .int) (by decide +kernel)) (tr_evi (hs (Cond.eq (.length (Term.static "TurnRounds" "SIXTIETHS" "[I")) (.int 7)) (by decide +kernel))) (fun j hj => by
    rcases (show j = 0 ∨ j = 1 ∨ j = 2 ∨ j = 3 ∨ j = 4 ∨ j = 5 ∨ j = 6 by omega) with rfl | rfl | rfl | rfl | rfl | rfl | rfl
    · exact tr_evi (hs (Cond.eq (.elem (Term.static "TurnRounds" "SIXTIETHS" "[I") (.int 0)) (.int 0)) (by decide +kernel))
    · exact tr_evi (hs (Cond.eq (.elem (Term.static "TurnRounds" "SIXTIETHS" "[I") (.int 1)) (.int 60)) (by decide +kernel))
    · exact tr_evi (hs (Cond.eq (.elem (Term.static "TurnRounds" "SIXTIETHS" "[I") (.int 2)) (.int 30)) (by decide +kernel))
    · exact tr_evi (hs (Cond.eq (.elem (Term.static "TurnRounds" "SIXTIETHS" "[I") (.int 3)) (.int 20)) (by decide +kernel))
    · exact tr_evi (hs (Cond.eq (.elem (Term.static "TurnRounds" "SIXTIETHS" "[I") (.int 4)) (.int 15)) (by decide +kernel))
    · exact tr_evi (hs (Cond.eq (.elem (Term.static "TurnRounds" "SIXTIETHS" "[I") (.int 5)) (.int 12)) (by decide +kernel))
    · exact tr_evi (hs (Cond.eq (.elem (Term.static "TurnRounds" "SIXTIETHS" "[I") (.int 6)) (.int 10)) (by decide +kernel))) hA
  have Z0 := va_Zref (A := fun q => s.heap.size ≤ q) (hts (.laysStatic "TurnRounds" "SIXTIETHS" "[I") (List.mem_of_getElem? (i := 316) (by decide +kernel))) hini e0 hA
  obtain ⟨t1, e1, T1⟩ := va_Tof (tm := (Term.static "TurnRounds" "FACTORIALS" "[I")) (ty := .int) (N := 7) (f := fun j => .int (tr_f1 j)) (A := fun q => s.heap.size ≤ q) (by decide) (hs (Cond.arrayOf (Term.static "TurnRounds" "FACTORIALS" "[I") .int) (by decide +kernel)) (tr_evi (hs (Cond.eq (.length (Term.static "TurnRounds" "FACTORIALS" "[I")) (.int 7)) (by decide +kernel))) (fun j hj => by
    rcases (show j = 0 ∨ j = 1 ∨ j = 2 ∨ j = 3 ∨ j = 4 ∨ j = 5 ∨ j = 6 by omega) with rfl | rfl | rfl | rfl | rfl | rfl | rfl
    · exact tr_evi (hs (Cond.eq (.elem (Term.static "TurnRounds" "FACTORIALS" "[I") (.int 0)) (.int 1)) (by decide +kernel))
    · exact tr_evi (hs (Cond.eq (.elem (Term.static "TurnRounds" "FACTORIALS" "[I") (.int 1)) (.int 1)) (by decide +kernel))
    · exact tr_evi (hs (Cond.eq (.elem (Term.static "TurnRounds" "FACTORIALS" "[I") (.int 2)) (.int 2)) (by decide +kernel))
    · exact tr_evi (hs (Cond.eq (.elem (Term.static "TurnRounds" "FACTORIALS" "[I") (.int 3)) (.int 6)) (by decide +kernel))
    · exact tr_evi (hs (Cond.eq (.elem (Term.static "TurnRounds" "FACTORIALS" "[I") (.int 4)) (.int 24)) (by decide +kernel))
    · exact tr_evi (hs (Cond.eq (.elem (Term.static "TurnRounds" "FACTORIALS" "[I") (.int 5)) (.int 120)) (by decide +kernel))
    · exact tr_evi (hs (Cond.eq (.elem (Term.static "TurnRounds" "FACTORIALS" "[I") (.int 6)) (.int 720)) (by decide +kernel))) hA
  have Z1 := va_Zref (A := fun q => s.heap.size ≤ q) (hts (.laysStatic "TurnRounds" "FACTORIALS" "[I") (List.mem_of_getElem? (i := 523) (by decide +kernel))) hini e1 hA
  obtain ⟨t2, e2, T2⟩ := va_Tof (tm := (Term.static "TurnRounds" "ROW_ENDS" "[J")) (ty := .long) (N := 5) (f := fun j => .long (tr_f2 j)) (A := fun q => s.heap.size ≤ q) (by decide) (hs (Cond.arrayOf (Term.static "TurnRounds" "ROW_ENDS" "[J") .long) (by decide +kernel)) (tr_evi (hs (Cond.eq (.length (Term.static "TurnRounds" "ROW_ENDS" "[J")) (.int 5)) (by decide +kernel))) (fun j hj => by
    rcases (show j = 0 ∨ j = 1 ∨ j = 2 ∨ j = 3 ∨ j = 4 by omega) with rfl | rfl | rfl | rfl | rfl
    · exact tr_evl (hs (Cond.eq (.elem (Term.static "TurnRounds" "ROW_ENDS" "[J") (.int 0)) (.long 1)) (by decide +kernel))
    · exact tr_evl (hs (Cond.eq (.elem (Term.static "TurnRounds" "ROW_ENDS" "[J") (.int 1)) (.long 10000)) (by decide +kernel))
    · exact tr_evl (hs (Cond.eq (.elem (Term.static "TurnRounds" "ROW_ENDS" "[J") (.int 2)) (.long 100000000)) (by decide +kernel))
    · exact tr_evl (hs (Cond.eq (.elem (Term.static "TurnRounds" "ROW_ENDS" "[J") (.int 3)) (.long 1000000000000)) (by decide +kernel))
    · exact tr_evl (hs (Cond.eq (.elem (Term.static "TurnRounds" "ROW_ENDS" "[J") (.int 4)) (.long 10000000000000000)) (by decide +kernel))) hA
  have Z2 := va_Zref (A := fun q => s.heap.size ≤ q) (hts (.laysStatic "TurnRounds" "ROW_ENDS" "[J") (List.mem_of_getElem? (i := 501) (by decide +kernel))) hini e2 hA
  exact ⟨fun k => if k = 0 then t0 else if k = 1 then t1 else t2, Z0, T0, Z1, T1, Z2, T2⟩
set_option maxHeartbeats 8000000 in
set_option maxRecDepth 100000 in
theorem tr_known {args : Array Value} {s : State} (hts : ∀ w ∈ lw_tbl, w.before args s = true) : ∃ (D : va_G) (cA : Nat → ClassId), ∀ ad t, va_K D vwCl (tr_ty (D, cA, ad, t)) s := by
  have htg : ∀ x ∈ tr_T, x.before args s = true := fun x hx => hts x (List.mem_filter.mp hx).1
  obtain ⟨c0, i0, hk0⟩ := u_known (C := RX0) (T := TX0) (N := 3) (n := 3) htg hinX0 (htg _ mn_X0)
  obtain ⟨c1, i1, hk1⟩ := u_known (C := RX1) (T := TX1) (N := 4) (n := 4) htg hinX1 (htg _ mn_X1)
  obtain ⟨c2, i2, hk2⟩ := u_known (C := RX2) (T := TX2) (N := 2) (n := 2) htg hinX2 (htg _ mn_X2)
  obtain ⟨c3, i3, hk3⟩ := u_known (C := RX3) (T := TX3) (N := 2) (n := 2) htg hinX3 (htg _ mn_X3)
  obtain ⟨c4, i4, hk4⟩ := u_known (C := RX4) (T := TX4) (N := 4) (n := 4) htg hinX4 (htg _ mn_X4)
  obtain ⟨c5, i5, hk5⟩ := u_known (C := RX5) (T := TX5) (N := 4) (n := 4) htg hinX5 (htg _ mn_X5)
  obtain ⟨c6, i6, hk6⟩ := u_known (C := RX6) (T := TX6) (N := 3) (n := 3) htg hinX6 (htg _ mn_X6)
  obtain ⟨c7, i7, hk7⟩ := u_known (C := RX7) (T := TX7) (N := 13) (n := 13) htg hinX7 (htg _ mn_X7)
  obtain ⟨c8, i8, hk8⟩ := u_known (C := RX8) (T := TX8) (N := 31) (n := 31) htg hinX8 (htg _ mn_X8)
  have key : ∀ k : Nat, ∃ ci : ClassId × (Nat → Nat), ∀ q : vw_C, vwCl[k]? = some q → u_Kn s q.1 q.2.1 q.2.2 ci.1 ci.2 := by
    intro k
    match k with
    | 0 => exact ⟨(c0, i0), fun q hq => by cases hq; exact hk0⟩
    | 1 => exact ⟨(c1, i1), fun q hq => by cases hq; exact hk1⟩
    | 2 => exact ⟨(c2, i2), fun q hq => by cases hq; exact hk2⟩
    | 3 => exact ⟨(c3, i3), fun q hq => by cases hq; exact hk3⟩
    | 4 => exact ⟨(c4, i4), fun q hq => by cases hq; exact hk4⟩
    | 5 => exact ⟨(c5, i5), fun q hq => by cases hq; exact hk5⟩
    | 6 => exact ⟨(c6, i6), fun q hq => by cases hq; exact hk6⟩
    | 7 => exact ⟨(c7, i7), fun q hq => by cases hq; exact hk7⟩
    | 8 => exact ⟨(c8, i8), fun q hq => by cases hq; exact hk8⟩
    | k + 9 => exact ⟨(c0, i0), fun q hq => by simp [vwCl] at hq⟩
  obtain ⟨f, hf⟩ := Classical.axiomOfChoice key
  obtain ⟨a0, k0, p0, f0, g0, d0⟩ := Cond.arrayClass_spec (hts (.arrayClass .int) (List.mem_of_getElem? (i := 83) (by decide +kernel)))
  obtain ⟨a1, k1, p1, f1, g1, d1⟩ := Cond.arrayClass_spec (hts (.arrayClass .boolean) (List.mem_of_getElem? (i := 98) (by decide +kernel)))
  obtain ⟨p2, a2, k2, m2, -, g2, d2, f2⟩ := Cond.arrayOver_spec (n := "TurnRounds$Net") (hts (.arrayOver (.object "TurnRounds$Net")) (List.mem_of_getElem? (i := 84) (by decide +kernel)))
  refine ⟨(fun k => (f k).1, fun k => (f k).2), fun k => if k = 0 then a0 else if k = 1 then a1 else a2, fun ad t => ⟨fun c q hq => hf c q hq, fun k q hk => ?_⟩⟩
  match k, hk with
  | 0, hk => cases hk; exact ⟨fun n z => ⟨fun k h => (by cases h), k0, g0, p0, d0⟩, f0⟩
  | 1, hk => cases hk; exact ⟨fun n z => ⟨fun k h => (by cases h), k1, g1, p1, d1⟩, f1⟩
  | 2, hk => cases hk; exact ⟨fun n z => ⟨fun k h => (by cases h), k2, g2, p2, d2⟩, k2, p2, g2, d2, m2, f2⟩
  | k + 3, hk => simp [tr_ty] at hk
theorem tr_nl_in : ∀ q ∈ tr_nl, tr_nw q ∈ lw_tbl := by
  intro q hq
  unfold tr_nl at hq
  simp only [List.mem_cons, List.not_mem_nil, or_false] at hq
  rcases hq with rfl | rfl | rfl | rfl | rfl | rfl | rfl | rfl | rfl | rfl
  · exact List.mem_of_getElem? (i := 74) (by decide +kernel)
  · exact List.mem_of_getElem? (i := 75) (by decide +kernel)
  · exact List.mem_of_getElem? (i := 76) (by decide +kernel)
  · exact List.mem_of_getElem? (i := 77) (by decide +kernel)
  · exact List.mem_of_getElem? (i := 109) (by decide +kernel)
  · exact List.mem_of_getElem? (i := 129) (by decide +kernel)
  · exact List.mem_of_getElem? (i := 181) (by decide +kernel)
  · exact List.mem_of_getElem? (i := 315) (by decide +kernel)
  · exact List.mem_of_getElem? (i := 351) (by decide +kernel)
  · exact List.mem_of_getElem? (i := 528) (by decide +kernel)
theorem tr_nm_in : ∀ q ∈ tr_nm, tr_nv q ∈ lw_tbl := by
  intro q hq
  unfold tr_nm at hq
  simp only [List.mem_cons, List.not_mem_nil, or_false] at hq
  rcases hq with rfl | rfl | rfl | rfl | rfl | rfl
  · exact List.mem_of_getElem? (i := 87) (by decide +kernel)
  · exact List.mem_of_getElem? (i := 101) (by decide +kernel)
  · exact List.mem_of_getElem? (i := 121) (by decide +kernel)
  · exact List.mem_of_getElem? (i := 141) (by decide +kernel)
  · exact List.mem_of_getElem? (i := 157) (by decide +kernel)
  · exact List.mem_of_getElem? (i := 173) (by decide +kernel)
set_option maxHeartbeats 16000000 in
set_option maxRecDepth 100000 in
theorem whole_open {p : Program} {l : Launch} {e : Env} {s : State} {m : MethodId} {below : List Frame} {meth : Method} {c : Code} {b L : Nat} {xs : Nat → Int32} {Rel : tr_H → tr_H → Prop} (hs : tr_Sim Rel) (h00 : Rel tr_x0 tr_m0) (hL : L ≤ 3072) (C0 : lw_At p s m meth c b L xs) : W p l e room_1 s m #[Value.ref b] below meth c s.heap [] 0 0 (lw_Z below #[Value.ref b] s) (entryFrame m ([Value.ref b] : List Value).toArray 4) := by
  obtain ⟨h1, h2, hr, hml, hown, hts, hX, hbl, hlocks, hgv⟩ := id C0
  replace h2 : c.code = cL_law := h2
  replace hown : s.vm.findClass RL = some m.cls := hown
  have htg : ∀ x ∈ tr_T, x.before #[Value.ref b] s = true := fun x hx => hts x (List.mem_filter.mp hx).1
  obtain ⟨D, cA, hK0⟩ := tr_known hts
  obtain ⟨t, hSt⟩ := tr_statics hts hgv
  obtain ⟨w, hwe⟩ : ∃ w : tr_E, w = (D, cA, (fun _ => 0), t) := ⟨_, rfl⟩
  have hK : va_K w.1 vwCl (tr_ty w) s := by rw [hwe]; exact hK0 _ _
  have hSt : tr_St (fun q : Nat => s.heap.size ≤ q) w.2.2.2 s s.heap := by rw [hwe]; exact hSt
  have hnl : ∀ q ∈ tr_nl, va_Nw (tr_nw q) s := fun q hq => va_Nw.of rfl (A := #[Value.ref b]) (hts _ (tr_nl_in q hq))
  have hnm : ∀ q ∈ tr_nm, va_Nw (tr_nv q) s := fun q hq => va_Nw.of rfl (A := #[Value.ref b]) (hts _ (tr_nm_in q hq))
  have hov : va_AO "TurnRounds$Net" s := va_AO.of (hts (.arrayOver (.object "TurnRounds$Net")) (List.mem_of_getElem? (i := 84) (by decide +kernel)))
  have hA : ∀ q : Nat, s.heap.size ≤ q → (fun q : Nat => s.heap.size ≤ q) q := fun _ h => h
  have hS : va_S (fun q : Nat => s.heap.size ≤ q) s.heap s.heap [] := va_S.rf
  have hP : va_P w.1 vwCl [] s.heap := fun k q h => by simp at h
  have hD : va_D (fun q : Nat => s.heap.size ≤ q) [] := ⟨fun i j p q h => by simp at h, fun k q h => by simp at h⟩
  have hl := lv_entry ([.ref b]) (n := 4) (Nat.le_of_ble_eq_true rfl)
  rw [lg_entry_eq]
  generalize (lg_sl ([.ref b]) ++ List.replicate (4 - (lg_sl ([.ref b])).length) Slot.unset).toArray = ls at hl ⊢
  have hl : lv_has ls 4 [(0, .ref b)] := hl
  refine va_new (ci := 7) (fs := [.null, .null, .null, .null, .null, .null, .null, .null, .null, .null, .null, .int 0, .long 0]) (C := RX7) (T := TX7) (N := 13) h1 h2 htg hinX7 tyX7 tyX7_ok hown (htg (.classLink RL 7 RX7) (tr_in 55 (by decide +kernel) rfl)) (htg _ mn_X7) (htg _ mi_X7_init.2) hK hP hD hS hA rfl (fun j hj => by rcases (show j = 0 ∨ j = 1 ∨ j = 2 ∨ j = 3 ∨ j = 4 ∨ j = 5 ∨ j = 6 ∨ j = 7 ∨ j = 8 ∨ j = 9 ∨ j = 10 ∨ j = 11 ∨ j = 12 by omega) with rfl | rfl | rfl | rfl | rfl | rfl | rfl | rfl | rfl | rfl | rfl | rfl | rfl <;> rfl) (Nat.le_of_ble_eq_true rfl) (Nat.le_of_ble_eq_true rfl) dL_law_0 (fun qx H hP hD hS => ?_)
  have hP : va_P w.1 vwCl [(qx, .inr (7, [.null, .null, .null, .null, .null, .null, .null, .null, .null, .null, .null, .int 0, .long 0]))] H := hP
  have hD : va_D (fun q : Nat => s.heap.size ≤ q) [(qx, .inr (7, [.null, .null, .null, .null, .null, .null, .null, .null, .null, .null, .null, .int 0, .long 0]))] := hD
  refine W.widen (k := 1) (n := 13) (Nat.le_of_ble_eq_true rfl) (Nat.le_of_ble_eq_true rfl) ?_
  refine lv_dup h1 h2 dL_law_3 rfl ?_
  have hPc := hP.sub (ws' := [(qx, .inr (7, [.null, .null, .null, .null, .null, .null, .null, .null, .null, .null, .null, .int 0, .long 0]))]) [0] rfl
  have hDc := hD.sub (ws' := [(qx, .inr (7, [.null, .null, .null, .null, .null, .null, .null, .null, .null, .null, .null, .int 0, .long 0]))]) [0] (by decide) rfl
  have hFc := va_free (wc := [(qx, .inr (7, [.null, .null, .null, .null, .null, .null, .null, .null, .null, .null, .null, .int 0, .long 0]))]) hD hS hA [0] rfl
  refine va_callv (va_runI (As := []) (rest := [.ref qx]) ⟨h1, h2, hml, hown, htg⟩ (k_X7 l w qx H.size) (cwI 0 htg (tr_gc mk_X7_init) rfl rfl rfl (htg _ mi_X7_init.2) (htg (.methodLink RL 9 yX7_init) (tr_in 57 (by decide +kernel) rfl)) (htg _ mi_X7_init.1) rfl (by decide +kernel) ⟨Nat.le_of_ble_eq_true rfl, Nat.le_of_ble_eq_true rfl⟩) ⟨tr_kp.blind, fun U hU hW => ⟨rfl, by rw [hU], by rw [hU]; exact hPc, va_K.moved hW.alike hK, hDc.weaken (fun _ _ _ _ => trivial), fun x hx => va_Nw.warmM hW (hnm x hx), va_AO.moved hW.alike hov⟩⟩ rfl rfl hl.1 rfl (lv_room (Nat.le_of_ble_eq_true rfl)) dL_law_4 ⟨Nat.le_of_ble_eq_true rfl, Nat.le_of_ble_eq_true rfl⟩) hS (fun q _ h => hFc q h) hFc (fun adx t H1 locs ht hvm hw hB hz1 hk1 hS => ?_)
  obtain ⟨hP1, hD1⟩ := hB
  rw [ht] at hP1
  obtain ⟨hP, hD⟩ := va_join (wr := []) (w1 := kw_X7 w qx adx) hP hD [0] [] rfl rfl (by decide) (by decide) hk1 hFc hP1 hD1
  generalize H1 = H at hP hS ⊢
  replace hw : adx 0 = qx := hw
  subst hw
  clear hP1 hD1
  have hP : va_P w.1 vwCl (tr_cs tr_X (tr_wa w adx) tr_x0) H := hP
  have hD : va_D (fun q : Nat => s.heap.size ≤ q) (tr_cs tr_X (tr_wa w adx) tr_x0) := hD
  refine W.widen (k := 31) (n := 1475) (Nat.le_of_ble_eq_true rfl) (Nat.le_of_ble_eq_true rfl) ?_
  refine lv_astore_n (lv' := [(1, .ref (adx 0)), (0, .ref b)]) h1 h2 dL_law_7 rfl hl (by decide) rfl (fun ls hl => ?_)
  refine va_new (ci := 8) (fs := [.int 0, .null, .int 0, .int 0, .int 0, .null, .null, .null, .null, .int 0, .null, .null, .int 0, .null, .null, .null, .long 0, .int 0, .int 0, .int 0, .long 0, .int 0, .long 0, .null, .null, .null, .null, .null, .int 0, .int 0, .null]) (C := RX8) (T := TX8) (N := 31) h1 h2 htg hinX8 tyX8 tyX8_ok hown (htg (.classLink RL 10 RX8) (tr_in 572 (by decide +kernel) rfl)) (htg _ mn_X8) (htg _ mi_X8_init.2) hK hP hD hS hA rfl (fun j hj => by rcases (show j = 0 ∨ j = 1 ∨ j = 2 ∨ j = 3 ∨ j = 4 ∨ j = 5 ∨ j = 6 ∨ j = 7 ∨ j = 8 ∨ j = 9 ∨ j = 10 ∨ j = 11 ∨ j = 12 ∨ j = 13 ∨ j = 14 ∨ j = 15 ∨ j = 16 ∨ j = 17 ∨ j = 18 ∨ j = 19 ∨ j = 20 ∨ j = 21 ∨ j = 22 ∨ j = 23 ∨ j = 24 ∨ j = 25 ∨ j = 26 ∨ j = 27 ∨ j = 28 ∨ j = 29 ∨ j = 30 by omega) with rfl | rfl | rfl | rfl | rfl | rfl | rfl | rfl | rfl | rfl | rfl | rfl | rfl | rfl | rfl | rfl | rfl | rfl | rfl | rfl | rfl | rfl | rfl | rfl | rfl | rfl | rfl | rfl | rfl | rfl | rfl <;> rfl) (Nat.le_of_ble_eq_true rfl) (Nat.le_of_ble_eq_true rfl) dL_law_8 (fun qm H hP hD hS => ?_)
  refine W.widen (k := 32) (n := 1506) (Nat.le_of_ble_eq_true rfl) (Nat.le_of_ble_eq_true rfl) ?_
  refine lv_dup h1 h2 dL_law_11 rfl ?_
  have hPc := hP.sub (ws' := [(qm, .inr (8, [.int 0, .null, .int 0, .int 0, .int 0, .null, .null, .null, .null, .int 0, .null, .null, .int 0, .null, .null, .null, .long 0, .int 0, .int 0, .int 0, .long 0, .int 0, .long 0, .null, .null, .null, .null, .null, .int 0, .int 0, .null]))]) [31] rfl
  have hDc := hD.sub (ws' := [(qm, .inr (8, [.int 0, .null, .int 0, .int 0, .int 0, .null, .null, .null, .null, .int 0, .null, .null, .int 0, .null, .null, .null, .long 0, .int 0, .int 0, .int 0, .long 0, .int 0, .long 0, .null, .null, .null, .null, .null, .int 0, .int 0, .null]))]) [31] (by decide) rfl
  have hFc := va_free (wc := [(qm, .inr (8, [.int 0, .null, .int 0, .int 0, .int 0, .null, .null, .null, .null, .int 0, .null, .null, .int 0, .null, .null, .null, .long 0, .int 0, .int 0, .int 0, .long 0, .int 0, .long 0, .null, .null, .null, .null, .null, .int 0, .int 0, .null]))]) hD hS hA [31] rfl
  refine va_callv (va_runI (As := []) (rest := [.ref qm]) ⟨h1, h2, hml, hown, htg⟩ (k_X8 l w qm H.size) (cwI 0 htg (tr_gc mk_X8_init) rfl rfl rfl (htg _ mi_X8_init.2) (htg (.methodLink RL 12 yX8_init) (tr_in 574 (by decide +kernel) rfl)) (htg _ mi_X8_init.1) rfl (by decide +kernel) ⟨Nat.le_of_ble_eq_true rfl, Nat.le_of_ble_eq_true rfl⟩) ⟨tr_kp.blind, fun U hU hW => ⟨rfl, by rw [hU], by rw [hU]; exact hPc, va_K.moved hW.alike hK, hDc.weaken (fun _ _ _ _ => trivial), fun x hx => va_Nw.warmM hW (hnm x hx), va_AO.moved hW.alike hov⟩⟩ rfl rfl hl.1 rfl (lv_room (Nat.le_of_ble_eq_true rfl)) dL_law_12 ⟨Nat.le_of_ble_eq_true rfl, Nat.le_of_ble_eq_true rfl⟩) hS (fun q _ h => hFc q h) hFc (fun adm t H1 locs ht hvm hw hB hz1 hk1 hS => ?_)
  obtain ⟨hP1, hD1⟩ := hB
  rw [ht] at hP1
  obtain ⟨hP, hD⟩ := va_join (wr := tr_cs tr_X (tr_wa w adx) tr_x0) (w1 := kw_X8 w qm adm) hP hD [31] (List.range 31) rfl rfl (by decide) (by decide) hk1 hFc hP1 hD1
  generalize H1 = H at hP hS ⊢
  replace hw : adm 0 = qm := hw
  subst hw
  have hP : va_P w.1 vwCl (tr_cs tr_X (tr_wa w adx) tr_x0 ++ tr_cs tr_M (tr_wa w adm) tr_m0) H := hP
  have hD : va_D (fun q : Nat => s.heap.size ≤ q) (tr_cs tr_X (tr_wa w adx) tr_x0 ++ tr_cs tr_M (tr_wa w adm) tr_m0) := hD
  refine W.widen (k := 48) (n := 2387) (Nat.le_of_ble_eq_true rfl) (Nat.le_of_ble_eq_true rfl) ?_
  refine lv_astore_n (lv' := [(2, .ref (adm 0)), (1, .ref (adx 0)), (0, .ref b)]) h1 h2 dL_law_15 rfl hl (by decide) rfl (fun ls hl => ?_)
  refine lv_iconst (v := 0) h1 h2 dL_law_16 (by decide) ?_
  refine lv_istore_n (lv' := [(3, .int 0), (2, .ref (adm 0)), (1, .ref (adx 0)), (0, .ref b)]) h1 h2 dL_law_17 rfl hl (by decide) rfl (fun ls hl => ?_)
  have C : tr_LC p s m c b L xs w adx adm := ⟨⟨h1, h2, hml, hown, htg⟩, ⟨hX, hbl⟩, ⟨hK, hnl, hSt⟩, tr_dis hD⟩
  have hz : nI 0 = 0 := nI_0
  exact law_loop hs hL C hr hlocks (L + 1) 0 (by omega) (by omega) tr_x0 tr_m0 h00 H locs ls (tr_appl hP) (tr_appr hP) hS (by rw [hz]; exact lv_sub hl [3, 2, 1, 0] rfl)
