/-! the law: rows with both sides in one heap, and a case for each call -/
abbrev tr_wa (w : tr_E) (ad : Nat → Nat) : tr_E := (w.1, w.2.1, ad, w.2.2.2)
theorem tr_St.nar {A B : Nat → Prop} {t : Nat → Nat} {U : State} {H : Heap} (h : tr_St A t U H) (hAB : ∀ q, B q → A q) : tr_St B t U H := by
  obtain ⟨a, b, c, d, e, f⟩ := h
  exact ⟨a.narrow hAB, b.narrow hAB, c.narrow hAB, d.narrow hAB, e.narrow hAB, f.narrow hAB⟩
def tr_LC (p : Program) (s : State) (m : MethodId) (c : Code) (b L : Nat) (xs : Nat → Int32) (w : tr_E) (adx adm : Nat → Nat) : Prop :=
  (p.tables.exec = Jvm.exec ∧ c.code = code ∧ c.maxLocals = 4 ∧ s.vm.findClass RL = some m.cls ∧ (∀ x ∈ tr_T, x.before #[Value.ref b] s = true)) ∧ (va_X b L xs s s.heap ∧ b < s.heap.size) ∧
  (va_K w.1 vwCl (tr_ty w) s ∧ (∀ q ∈ tr_nl, va_Nw (tr_nw q) s) ∧ tr_St (fun q => s.heap.size ≤ q) w.2.2.2 s s.heap) ∧
  ((tr_I tr_X (tr_wa w adx) ∧ tr_I tr_M (tr_wa w adm)) ∧ ((∀ i, i < tr_X.1 → s.heap.size ≤ adx i) ∧ (∀ i, i < tr_M.1 → s.heap.size ≤ adm i)) ∧ ∀ i j, i < tr_X.1 → j < tr_M.1 → adx i ≠ adm j)
def lw_W (p : Program) (l : Launch) (e : Env) (s : State) (m : MethodId) (below : List Frame) (meth : Method) (c : Code) (b : Nat) (w : tr_E) (adx adm : Nat → Nat) (pc : Nat) (x3 : Int32) (hx hm : tr_H) : Prop :=
  ∀ (H : Heap) (locs : List Loc) (ls : Array Slot), va_P w.1 vwCl (tr_cs tr_X (tr_wa w adx) hx) H → va_P w.1 vwCl (tr_cs tr_M (tr_wa w adm) hm) H → va_S (fun q => s.heap.size ≤ q) s.heap H locs → lv_has ls 4 [(0, .ref b), (1, .ref (adx 0)), (2, .ref (adm 0)), (3, .int x3)] →
    W p l e room_1 s m #[Value.ref b] below meth c H locs 48 2387 (lw_Z below #[Value.ref b] s) (F0 m pc ls [])
section TRL
variable {p : Program} {l : Launch} {e : Env} {R : Room} {s : State} {m : MethodId} {args : Array Value} {below : List Frame} {meth : Method} {c : Code} {H : Heap} {locs : List Loc} {cells slots : Nat} {Q : State → Prop}
variable {cc : ByteArray} {nL pc : Nat} {own : String} {ls : Array Slot} {rest : List Value}
variable {y : MethodName} {bytes : ByteArray} {maxL n idx : Nat} {ret : Option FieldType} {rm : Room} {As : List Value} {Y1 Y2 : tr_Y} {a1 a2 : Nat → Nat} {g1 g2 g3 : tr_H} {w : tr_E}
theorem tr_lpre (hK : va_K w.1 vwCl (tr_ty w) s) (hN : ∀ q ∈ tr_nl, va_Nw (tr_nw q) s) (hSt : tr_St (fun q => s.heap.size ≤ q) w.2.2.2 s s.heap) (hI : tr_I Y1 (tr_wa w a1)) (hA1 : ∀ i, i < Y1.1 → s.heap.size ≤ a1 i) (hP1 : va_P w.1 vwCl (tr_cs Y1 (tr_wa w a1) g1) H) (hS : va_S (fun q => s.heap.size ≤ q) s.heap H locs) (U : State) (hU : U.heap = H) (hW : s.WarmedH U.vm) : tr_Wo Y1 (tr_wa w a1) g1 U := by
  subst hU
  refine ⟨hP1, va_K.moved hW.alike hK, hI, fun q hq => va_Nw.warmF hW (hN q hq), (hSt.go hS hW.alike).nar ?_⟩
  rintro q ⟨i, hi, rfl⟩
  exact hA1 i hi
theorem tr_lcx (C : p.tables.exec = Jvm.exec ∧ c.code = cc ∧ c.maxLocals = nL ∧ s.vm.findClass own = some m.cls ∧ (∀ x ∈ tr_T, x.before args s = true)) (hK : va_K w.1 vwCl (tr_ty w) s) (hN : ∀ q ∈ tr_nl, va_Nw (tr_nw q) s) (hSt : tr_St (fun q => s.heap.size ≤ q) w.2.2.2 s s.heap) (hI : tr_I Y1 (tr_wa w a1)) (hA1 : ∀ i, i < Y1.1 → s.heap.size ≤ a1 i) : tr_Cx p s m args c cc nL own Y1 (tr_wa w a1) := by
  refine ⟨C.1, C.2.1, C.2.2.1, C.2.2.2.1, C.2.2.2.2, hK, hI, hN, hSt.nar ?_⟩
  rintro q ⟨i, hi, rfl⟩
  exact hA1 i hi
theorem tr_lci {K : String} {T : u_T} {i ci N : Nat} {fs st : List Value} {r0 : Int32} {lv : List (Nat × Value)} (C : p.tables.exec = Jvm.exec ∧ c.code = cc ∧ c.maxLocals = nL ∧ s.vm.findClass own = some m.cls ∧ (∀ x ∈ tr_T, x.before args s = true)) (hK : va_K w.1 vwCl (tr_ty w) s) (hN : ∀ q ∈ tr_nl, va_Nw (tr_nw q) s) (hSt : tr_St (fun q => s.heap.size ≤ q) w.2.2.2 s s.heap) (hI : tr_I Y1 (tr_wa w a1)) (hA1 : ∀ i, i < Y1.1 → s.heap.size ≤ a1 i) (hdj : ∀ i j, i < Y1.1 → j < Y2.1 → a1 i ≠ a2 j)
    (hP1 : va_P w.1 vwCl (tr_cs Y1 (tr_wa w a1) g1) H) (hP2 : va_P w.1 vwCl (tr_cs Y2 (tr_wa w a2) g2) H) (hS : va_S (fun q => s.heap.size ≤ q) s.heap H locs) (hl : lv_has ls nL lv)
    (hM : Met l y (Cond.code y bytes maxL ret :: tr_T) rm (va_Pc (.ref (a1 i) :: As) (tr_Wo Y1 (tr_wa w a1) g1)) (tr_Qi Y1 (tr_wa w a1) r0 g3) 0 0 (tr_R Y1 (tr_wa w a1))) (hz : tr_Mv K y bytes maxL ret n) (hlk : Cond.methodLink own idx y ∈ tr_T) (hi : i < Y1.1) (he : Y1.2 (tr_ad (tr_wa w a1)) (tr_wa w a1).2.1 i (g1.1 i) (g1.2 i) = .inr (ci, fs)) (hc : vwCl[ci]? = some (K, T, N))
    (hrc : rm.cells = 0) (hrs : rm.slots = 0) (hR : rm.frames + 1 ≤ R.frames ∧ 8 + (maxL + 11) + rm.locals ≤ R.locals) (hn : As.length = n) (hst : st = As.reverse ++ .ref (a1 i) :: rest) (hro : (rest.map fun v => v.category).sum ≤ 8) (hf : cells ≤ R.cells ∧ slots ≤ R.slots) (hdg : decode cc pc = .ok (.invokevirtual idx, 3))
    (kk : ∀ (H1 : Heap) (locs1 : List Loc), va_P w.1 vwCl (tr_cs Y1 (tr_wa w a1) g3) H1 → va_P w.1 vwCl (tr_cs Y2 (tr_wa w a2) g2) H1 → va_S (fun q => s.heap.size ≤ q) s.heap H1 locs1 → W p l e R s m args below meth c H1 locs1 cells slots Q (F0 m (pc + 3) ls (.int r0 :: rest))) : W p l e R s m args below meth c H locs cells slots Q (F0 m pc ls st) := by
  subst hst
  have hreg : ∀ q, tr_R Y1 (tr_wa w a1) q → s.heap.size ≤ q := by
    rintro q ⟨i, hi, rfl⟩
    exact hA1 i hi
  refine va_calli (va_runV (As := As) (rest := rest) C hM (tr_wv (tr_lcx C hK hN hSt hI hA1) hz hlk hrc hrs hR) ⟨tr_Wo.blind, va_recv hK hP1 hc (by rw [tr_cs_at hi, he]), fun U hU hW => ⟨rfl, tr_lpre hK hN hSt hI hA1 hP1 hS U hU hW⟩⟩ rfl hn hl.1 rfl (lv_room hro) hdg ⟨hf.1, hf.2⟩) hS (fun q _ h => hreg q h) hreg (fun r u t H1 locs1 ht hvm hw hB hz1 hk1 hS1 => ?_)
  obtain ⟨rfl, rfl⟩ := hw
  refine kk H1 locs1 (by rw [← ht]; exact hB.1) (hP2.kept (fun k q hk => ?_)) hS1
  obtain ⟨b1, b2⟩ := tr_cs_inv hk
  refine hk1 q.1 (hP2 k q hk).lt ?_
  rintro ⟨j, hj, e1⟩
  exact hdj j k hj b1 (e1.symm.trans b2)
theorem tr_lcl {K : String} {T : u_T} {i ci N : Nat} {fs st : List Value} {r0 : Int64} {lv : List (Nat × Value)} (C : p.tables.exec = Jvm.exec ∧ c.code = cc ∧ c.maxLocals = nL ∧ s.vm.findClass own = some m.cls ∧ (∀ x ∈ tr_T, x.before args s = true)) (hK : va_K w.1 vwCl (tr_ty w) s) (hN : ∀ q ∈ tr_nl, va_Nw (tr_nw q) s) (hSt : tr_St (fun q => s.heap.size ≤ q) w.2.2.2 s s.heap) (hI : tr_I Y1 (tr_wa w a1)) (hA1 : ∀ i, i < Y1.1 → s.heap.size ≤ a1 i) (hdj : ∀ i j, i < Y1.1 → j < Y2.1 → a1 i ≠ a2 j)
    (hP1 : va_P w.1 vwCl (tr_cs Y1 (tr_wa w a1) g1) H) (hP2 : va_P w.1 vwCl (tr_cs Y2 (tr_wa w a2) g2) H) (hS : va_S (fun q => s.heap.size ≤ q) s.heap H locs) (hl : lv_has ls nL lv)
    (hM : Met l y (Cond.code y bytes maxL ret :: tr_T) rm (va_Pc (.ref (a1 i) :: As) (tr_Wo Y1 (tr_wa w a1) g1)) (tr_Ql Y1 (tr_wa w a1) r0 g3) 0 0 (tr_R Y1 (tr_wa w a1))) (hz : tr_Mv K y bytes maxL ret n) (hlk : Cond.methodLink own idx y ∈ tr_T) (hi : i < Y1.1) (he : Y1.2 (tr_ad (tr_wa w a1)) (tr_wa w a1).2.1 i (g1.1 i) (g1.2 i) = .inr (ci, fs)) (hc : vwCl[ci]? = some (K, T, N))
    (hrc : rm.cells = 0) (hrs : rm.slots = 0) (hR : rm.frames + 1 ≤ R.frames ∧ 8 + (maxL + 11) + rm.locals ≤ R.locals) (hn : As.length = n) (hst : st = As.reverse ++ .ref (a1 i) :: rest) (hro : (rest.map fun v => v.category).sum ≤ 8) (hf : cells ≤ R.cells ∧ slots ≤ R.slots) (hdg : decode cc pc = .ok (.invokevirtual idx, 3))
    (kk : ∀ (H1 : Heap) (locs1 : List Loc), va_P w.1 vwCl (tr_cs Y1 (tr_wa w a1) g3) H1 → va_P w.1 vwCl (tr_cs Y2 (tr_wa w a2) g2) H1 → va_S (fun q => s.heap.size ≤ q) s.heap H1 locs1 → W p l e R s m args below meth c H1 locs1 cells slots Q (F0 m (pc + 3) ls (.long r0 :: rest))) : W p l e R s m args below meth c H locs cells slots Q (F0 m pc ls st) := by
  subst hst
  have hreg : ∀ q, tr_R Y1 (tr_wa w a1) q → s.heap.size ≤ q := by
    rintro q ⟨i, hi, rfl⟩
    exact hA1 i hi
  refine va_calll (va_runV (As := As) (rest := rest) C hM (tr_wv (tr_lcx C hK hN hSt hI hA1) hz hlk hrc hrs hR) ⟨tr_Wo.blind, va_recv hK hP1 hc (by rw [tr_cs_at hi, he]), fun U hU hW => ⟨rfl, tr_lpre hK hN hSt hI hA1 hP1 hS U hU hW⟩⟩ rfl hn hl.1 rfl (lv_room hro) hdg ⟨hf.1, hf.2⟩) hS (fun q _ h => hreg q h) hreg (fun r u t H1 locs1 ht hvm hw hB hz1 hk1 hS1 => ?_)
  obtain ⟨rfl, rfl⟩ := hw
  refine kk H1 locs1 (by rw [← ht]; exact hB.1) (hP2.kept (fun k q hk => ?_)) hS1
  obtain ⟨b1, b2⟩ := tr_cs_inv hk
  refine hk1 q.1 (hP2 k q hk).lt ?_
  rintro ⟨j, hj, e1⟩
  exact hdj j k hj b1 (e1.symm.trans b2)
end TRL
theorem mc_L_87 : Cond.constantLong RL 87 (4294967295) ∈ tr_T := tr_in 929 (by decide +kernel) rfl
theorem ml_L_13 : Cond.methodLink RL 13 yX7_write ∈ tr_T := tr_in 231 (by decide +kernel) rfl
theorem ml_L_17 : Cond.methodLink RL 17 yX8_write ∈ tr_T := tr_in 672 (by decide +kernel) rfl
/-- call 0: write -/
def sm_write (Rel : tr_H → tr_H → Prop) : Prop := ∀ (v0 : Int32) (hx hm : tr_H), Rel hx hm → ∃ (r0 : Int32) (gx gm : tr_H), f_X7_write v0 hx = some (r0, gx) ∧ f_X8_write v0 hm = some (r0, gm) ∧ Rel gx gm
set_option maxHeartbeats 4000000 in
set_option maxRecDepth 100000 in
theorem lw_c0 {p : Program} {l : Launch} {e : Env} {s : State} {m : MethodId} {below : List Frame} {meth : Method} {c : Code} {b L : Nat} {xs : Nat → Int32} {w : tr_E} {adx adm : Nat → Nat} {Rel : tr_H → tr_H → Prop} (hs : sm_write Rel) (C : tr_LC p s m c b L xs w adx adm) (x3 : Int32) (hv1 : vp_in (x3 + 1) L) (hv2 : vp_in (x3 + 2) L) (hv3 : vp_in (x3 + 3) L) (hv4 : vp_in (x3 + 4) L) (hv5 : vp_in (x3 + 5) L) (jn : ∀ hx hm, Rel hx hm → lw_W p l e s m below meth c b w adx adm 1066 x3 hx hm) : ∀ hx hm, Rel hx hm → lw_W p l e s m below meth c b w adx adm 156 x3 hx hm := by
  intro hx hm hrel H locs ls hPx hPm hS hl
  have h1 := C.1.1
  have h2 : c.code = cL_law := C.1.2.1
  have hbA : ¬ (fun q : Nat => s.heap.size ≤ q) b := Nat.not_le.mpr C.2.1.2
  refine lv_aload_n h1 h2 dL_law_156 rfl (lv_at hl 1 rfl) ?_
  refine lv_aload_n h1 h2 dL_law_157 rfl (lv_at hl 0 rfl) ?_
  refine lv_iload_n h1 h2 dL_law_158 rfl (lv_at hl 3 rfl) ?_
  refine lv_iconst (v := 1) h1 h2 dL_law_159 (by decide) ?_
  refine lv_iadd h1 h2 dL_law_160 ?_
  refine va_sld h1 h2 C.2.1.1 C.2.1.2 hbA hS hv1 dL_law_161 ?_
  obtain ⟨r0, gx, gm, hq1, hq2, hrel⟩ := hs (xs (x3 + 1).toNatClampNeg) hx hm hrel
  refine tr_lci (i := 0) (a1 := adx) (a2 := adm) (Y2 := tr_M) (g2 := hm) (As := [.int (xs (x3 + 1).toNatClampNeg)]) (rest := []) C.1 C.2.2.1.1 C.2.2.1.2.1 C.2.2.1.2.2 C.2.2.2.1.1 C.2.2.2.2.1.1 C.2.2.2.2.2 hPx hPm hS hl (c_X7_write l (tr_wa w adx) (xs (x3 + 1).toNatClampNeg) hx r0 gx hq1) mz_X7_write ml_L_13 (by decide) rfl rfl rfl rfl ⟨Nat.le_of_ble_eq_true rfl, Nat.le_of_ble_eq_true rfl⟩ rfl rfl (Nat.le_of_ble_eq_true rfl) ⟨Nat.le_of_ble_eq_true rfl, Nat.le_of_ble_eq_true rfl⟩ dL_law_162 (fun H locs hPx hPm hS => ?_)
  refine lv_aload_n h1 h2 dL_law_165 rfl (lv_at hl 2 rfl) ?_
  refine lv_aload_n h1 h2 dL_law_166 rfl (lv_at hl 0 rfl) ?_
  refine lv_iload_n h1 h2 dL_law_167 rfl (lv_at hl 3 rfl) ?_
  refine lv_iconst (v := 1) h1 h2 dL_law_168 (by decide) ?_
  refine lv_iadd h1 h2 dL_law_169 ?_
  refine va_sld h1 h2 C.2.1.1 C.2.1.2 hbA hS hv1 dL_law_170 ?_
  refine tr_lci (i := 0) (a1 := adm) (a2 := adx) (Y2 := tr_X) (g2 := gx) (As := [.int (xs (x3 + 1).toNatClampNeg)]) (rest := [.int r0]) C.1 C.2.2.1.1 C.2.2.1.2.1 C.2.2.1.2.2 C.2.2.2.1.2 C.2.2.2.2.1.2 (fun i j hi hj h => C.2.2.2.2.2 j i hj hi h.symm) hPm hPx hS hl (c_X8_write l (tr_wa w adm) (xs (x3 + 1).toNatClampNeg) hm r0 gm hq2) mz_X8_write ml_L_17 (by decide) rfl rfl rfl rfl ⟨Nat.le_of_ble_eq_true rfl, Nat.le_of_ble_eq_true rfl⟩ rfl rfl (Nat.le_of_ble_eq_true rfl) ⟨Nat.le_of_ble_eq_true rfl, Nat.le_of_ble_eq_true rfl⟩ dL_law_171 (fun H locs hPm hPx hS => ?_)
  refine lv_icmp_eq (tgt := 1066) h1 h2 dL_law_174 (by decide) (fun c9 => ?_) (fun c9 => absurd rfl c9)
  exact jn _ _ hrel H locs ls hPx hPm hS hl
theorem ml_L_18 : Cond.methodLink RL 18 yX7_wipe ∈ tr_T := tr_in 235 (by decide +kernel) rfl
theorem ml_L_22 : Cond.methodLink RL 22 yX8_wipe ∈ tr_T := tr_in 680 (by decide +kernel) rfl
/-- call 1: wipe -/
def sm_wipe (Rel : tr_H → tr_H → Prop) : Prop := ∀ (hx hm : tr_H), Rel hx hm → ∃ (r0 : Int32) (gx gm : tr_H), f_X7_wipe hx = some (r0, gx) ∧ f_X8_wipe hm = some (r0, gm) ∧ Rel gx gm
set_option maxHeartbeats 4000000 in
set_option maxRecDepth 100000 in
theorem lw_c1 {p : Program} {l : Launch} {e : Env} {s : State} {m : MethodId} {below : List Frame} {meth : Method} {c : Code} {b L : Nat} {xs : Nat → Int32} {w : tr_E} {adx adm : Nat → Nat} {Rel : tr_H → tr_H → Prop} (hs : sm_wipe Rel) (C : tr_LC p s m c b L xs w adx adm) (x3 : Int32) (hv1 : vp_in (x3 + 1) L) (hv2 : vp_in (x3 + 2) L) (hv3 : vp_in (x3 + 3) L) (hv4 : vp_in (x3 + 4) L) (hv5 : vp_in (x3 + 5) L) (jn : ∀ hx hm, Rel hx hm → lw_W p l e s m below meth c b w adx adm 1066 x3 hx hm) : ∀ hx hm, Rel hx hm → lw_W p l e s m below meth c b w adx adm 179 x3 hx hm := by
  intro hx hm hrel H locs ls hPx hPm hS hl
  have h1 := C.1.1
  have h2 : c.code = cL_law := C.1.2.1
  have hbA : ¬ (fun q : Nat => s.heap.size ≤ q) b := Nat.not_le.mpr C.2.1.2
  refine lv_aload_n h1 h2 dL_law_179 rfl (lv_at hl 1 rfl) ?_
  obtain ⟨r0, gx, gm, hq1, hq2, hrel⟩ := hs  hx hm hrel
  refine tr_lci (i := 0) (a1 := adx) (a2 := adm) (Y2 := tr_M) (g2 := hm) (As := []) (rest := []) C.1 C.2.2.1.1 C.2.2.1.2.1 C.2.2.1.2.2 C.2.2.2.1.1 C.2.2.2.2.1.1 C.2.2.2.2.2 hPx hPm hS hl (c_X7_wipe l (tr_wa w adx)  hx r0 gx hq1) mz_X7_wipe ml_L_18 (by decide) rfl rfl rfl rfl ⟨Nat.le_of_ble_eq_true rfl, Nat.le_of_ble_eq_true rfl⟩ rfl rfl (Nat.le_of_ble_eq_true rfl) ⟨Nat.le_of_ble_eq_true rfl, Nat.le_of_ble_eq_true rfl⟩ dL_law_180 (fun H locs hPx hPm hS => ?_)
  refine lv_aload_n h1 h2 dL_law_183 rfl (lv_at hl 2 rfl) ?_
  refine tr_lci (i := 0) (a1 := adm) (a2 := adx) (Y2 := tr_X) (g2 := gx) (As := []) (rest := [.int r0]) C.1 C.2.2.1.1 C.2.2.1.2.1 C.2.2.1.2.2 C.2.2.2.1.2 C.2.2.2.2.1.2 (fun i j hi hj h => C.2.2.2.2.2 j i hj hi h.symm) hPm hPx hS hl (c_X8_wipe l (tr_wa w adm)  hm r0 gm hq2) mz_X8_wipe ml_L_22 (by decide) rfl rfl rfl rfl ⟨Nat.le_of_ble_eq_true rfl, Nat.le_of_ble_eq_true rfl⟩ rfl rfl (Nat.le_of_ble_eq_true rfl) ⟨Nat.le_of_ble_eq_true rfl, Nat.le_of_ble_eq_true rfl⟩ dL_law_184 (fun H locs hPm hPx hS => ?_)
  refine lv_icmp_eq (tgt := 1066) h1 h2 dL_law_187 (by decide) (fun c9 => ?_) (fun c9 => absurd rfl c9)
  exact jn _ _ hrel H locs ls hPx hPm hS hl
theorem ml_L_23 : Cond.methodLink RL 23 yX7_fault ∈ tr_T := tr_in 239 (by decide +kernel) rfl
theorem ml_L_26 : Cond.methodLink RL 26 yX8_fault ∈ tr_T := tr_in 684 (by decide +kernel) rfl
/-- call 2: fault -/
def sm_fault (Rel : tr_H → tr_H → Prop) : Prop := ∀ (hx hm : tr_H), Rel hx hm → ∃ (r0 : Int32) (gx gm : tr_H), f_X7_fault hx = some (r0, gx) ∧ f_X8_fault hm = some (r0, gm) ∧ Rel gx gm
set_option maxHeartbeats 4000000 in
set_option maxRecDepth 100000 in
theorem lw_c2 {p : Program} {l : Launch} {e : Env} {s : State} {m : MethodId} {below : List Frame} {meth : Method} {c : Code} {b L : Nat} {xs : Nat → Int32} {w : tr_E} {adx adm : Nat → Nat} {Rel : tr_H → tr_H → Prop} (hs : sm_fault Rel) (C : tr_LC p s m c b L xs w adx adm) (x3 : Int32) (hv1 : vp_in (x3 + 1) L) (hv2 : vp_in (x3 + 2) L) (hv3 : vp_in (x3 + 3) L) (hv4 : vp_in (x3 + 4) L) (hv5 : vp_in (x3 + 5) L) (jn : ∀ hx hm, Rel hx hm → lw_W p l e s m below meth c b w adx adm 1066 x3 hx hm) : ∀ hx hm, Rel hx hm → lw_W p l e s m below meth c b w adx adm 192 x3 hx hm := by
  intro hx hm hrel H locs ls hPx hPm hS hl
  have h1 := C.1.1
  have h2 : c.code = cL_law := C.1.2.1
  have hbA : ¬ (fun q : Nat => s.heap.size ≤ q) b := Nat.not_le.mpr C.2.1.2
  refine lv_aload_n h1 h2 dL_law_192 rfl (lv_at hl 1 rfl) ?_
  obtain ⟨r0, gx, gm, hq1, hq2, hrel⟩ := hs  hx hm hrel
  refine tr_lci (i := 0) (a1 := adx) (a2 := adm) (Y2 := tr_M) (g2 := hm) (As := []) (rest := []) C.1 C.2.2.1.1 C.2.2.1.2.1 C.2.2.1.2.2 C.2.2.2.1.1 C.2.2.2.2.1.1 C.2.2.2.2.2 hPx hPm hS hl (c_X7_fault l (tr_wa w adx)  hx r0 gx hq1) mz_X7_fault ml_L_23 (by decide) rfl rfl rfl rfl ⟨Nat.le_of_ble_eq_true rfl, Nat.le_of_ble_eq_true rfl⟩ rfl rfl (Nat.le_of_ble_eq_true rfl) ⟨Nat.le_of_ble_eq_true rfl, Nat.le_of_ble_eq_true rfl⟩ dL_law_193 (fun H locs hPx hPm hS => ?_)
  refine lv_aload_n h1 h2 dL_law_196 rfl (lv_at hl 2 rfl) ?_
  refine tr_lci (i := 0) (a1 := adm) (a2 := adx) (Y2 := tr_X) (g2 := gx) (As := []) (rest := [.int r0]) C.1 C.2.2.1.1 C.2.2.1.2.1 C.2.2.1.2.2 C.2.2.2.1.2 C.2.2.2.2.1.2 (fun i j hi hj h => C.2.2.2.2.2 j i hj hi h.symm) hPm hPx hS hl (c_X8_fault l (tr_wa w adm)  hm r0 gm hq2) mz_X8_fault ml_L_26 (by decide) rfl rfl rfl rfl ⟨Nat.le_of_ble_eq_true rfl, Nat.le_of_ble_eq_true rfl⟩ rfl rfl (Nat.le_of_ble_eq_true rfl) ⟨Nat.le_of_ble_eq_true rfl, Nat.le_of_ble_eq_true rfl⟩ dL_law_197 (fun H locs hPm hPx hS => ?_)
  refine lv_icmp_eq (tgt := 1066) h1 h2 dL_law_200 (by decide) (fun c9 => ?_) (fun c9 => absurd rfl c9)
  exact jn _ _ hrel H locs ls hPx hPm hS hl
theorem ml_L_27 : Cond.methodLink RL 27 yX7_net ∈ tr_T := tr_in 279 (by decide +kernel) rfl
theorem ml_L_30 : Cond.methodLink RL 30 yX8_net ∈ tr_T := tr_in 709 (by decide +kernel) rfl
/-- call 3: net -/
def sm_net (Rel : tr_H → tr_H → Prop) : Prop := ∀ (hx hm : tr_H), Rel hx hm → ∃ (r0 : Int32) (gx gm : tr_H), f_X7_net hx = some (r0, gx) ∧ f_X8_net hm = some (r0, gm) ∧ Rel gx gm
set_option maxHeartbeats 4000000 in
set_option maxRecDepth 100000 in
theorem lw_c3 {p : Program} {l : Launch} {e : Env} {s : State} {m : MethodId} {below : List Frame} {meth : Method} {c : Code} {b L : Nat} {xs : Nat → Int32} {w : tr_E} {adx adm : Nat → Nat} {Rel : tr_H → tr_H → Prop} (hs : sm_net Rel) (C : tr_LC p s m c b L xs w adx adm) (x3 : Int32) (hv1 : vp_in (x3 + 1) L) (hv2 : vp_in (x3 + 2) L) (hv3 : vp_in (x3 + 3) L) (hv4 : vp_in (x3 + 4) L) (hv5 : vp_in (x3 + 5) L) (jn : ∀ hx hm, Rel hx hm → lw_W p l e s m below meth c b w adx adm 1066 x3 hx hm) : ∀ hx hm, Rel hx hm → lw_W p l e s m below meth c b w adx adm 205 x3 hx hm := by
  intro hx hm hrel H locs ls hPx hPm hS hl
  have h1 := C.1.1
  have h2 : c.code = cL_law := C.1.2.1
  have hbA : ¬ (fun q : Nat => s.heap.size ≤ q) b := Nat.not_le.mpr C.2.1.2
  refine lv_aload_n h1 h2 dL_law_205 rfl (lv_at hl 1 rfl) ?_
  obtain ⟨r0, gx, gm, hq1, hq2, hrel⟩ := hs  hx hm hrel
  refine tr_lci (i := 0) (a1 := adx) (a2 := adm) (Y2 := tr_M) (g2 := hm) (As := []) (rest := []) C.1 C.2.2.1.1 C.2.2.1.2.1 C.2.2.1.2.2 C.2.2.2.1.1 C.2.2.2.2.1.1 C.2.2.2.2.2 hPx hPm hS hl (c_X7_net l (tr_wa w adx)  hx r0 gx hq1) mz_X7_net ml_L_27 (by decide) rfl rfl rfl rfl ⟨Nat.le_of_ble_eq_true rfl, Nat.le_of_ble_eq_true rfl⟩ rfl rfl (Nat.le_of_ble_eq_true rfl) ⟨Nat.le_of_ble_eq_true rfl, Nat.le_of_ble_eq_true rfl⟩ dL_law_206 (fun H locs hPx hPm hS => ?_)
  refine lv_aload_n h1 h2 dL_law_209 rfl (lv_at hl 2 rfl) ?_
  refine tr_lci (i := 0) (a1 := adm) (a2 := adx) (Y2 := tr_X) (g2 := gx) (As := []) (rest := [.int r0]) C.1 C.2.2.1.1 C.2.2.1.2.1 C.2.2.1.2.2 C.2.2.2.1.2 C.2.2.2.2.1.2 (fun i j hi hj h => C.2.2.2.2.2 j i hj hi h.symm) hPm hPx hS hl (c_X8_net l (tr_wa w adm)  hm r0 gm hq2) mz_X8_net ml_L_30 (by decide) rfl rfl rfl rfl ⟨Nat.le_of_ble_eq_true rfl, Nat.le_of_ble_eq_true rfl⟩ rfl rfl (Nat.le_of_ble_eq_true rfl) ⟨Nat.le_of_ble_eq_true rfl, Nat.le_of_ble_eq_true rfl⟩ dL_law_210 (fun H locs hPm hPx hS => ?_)
  refine lv_icmp_eq (tgt := 1066) h1 h2 dL_law_213 (by decide) (fun c9 => ?_) (fun c9 => absurd rfl c9)
  exact jn _ _ hrel H locs ls hPx hPm hS hl
theorem ml_L_31 : Cond.methodLink RL 31 yX7_about ∈ tr_T := tr_in 298 (by decide +kernel) rfl
theorem ml_L_34 : Cond.methodLink RL 34 yX8_about ∈ tr_T := tr_in 716 (by decide +kernel) rfl
/-- call 4: about -/
def sm_about (Rel : tr_H → tr_H → Prop) : Prop := ∀ (v0 : Int32) (hx hm : tr_H), Rel hx hm → ∃ (r0 : Int32) (gx gm : tr_H), f_X7_about v0 hx = some (r0, gx) ∧ f_X8_about v0 hm = some (r0, gm) ∧ Rel gx gm
set_option maxHeartbeats 4000000 in
set_option maxRecDepth 100000 in
theorem lw_c4 {p : Program} {l : Launch} {e : Env} {s : State} {m : MethodId} {below : List Frame} {meth : Method} {c : Code} {b L : Nat} {xs : Nat → Int32} {w : tr_E} {adx adm : Nat → Nat} {Rel : tr_H → tr_H → Prop} (hs : sm_about Rel) (C : tr_LC p s m c b L xs w adx adm) (x3 : Int32) (hv1 : vp_in (x3 + 1) L) (hv2 : vp_in (x3 + 2) L) (hv3 : vp_in (x3 + 3) L) (hv4 : vp_in (x3 + 4) L) (hv5 : vp_in (x3 + 5) L) (jn : ∀ hx hm, Rel hx hm → lw_W p l e s m below meth c b w adx adm 1066 x3 hx hm) : ∀ hx hm, Rel hx hm → lw_W p l e s m below meth c b w adx adm 218 x3 hx hm := by
  intro hx hm hrel H locs ls hPx hPm hS hl
  have h1 := C.1.1
  have h2 : c.code = cL_law := C.1.2.1
  have hbA : ¬ (fun q : Nat => s.heap.size ≤ q) b := Nat.not_le.mpr C.2.1.2
  refine lv_aload_n h1 h2 dL_law_218 rfl (lv_at hl 1 rfl) ?_
  refine lv_aload_n h1 h2 dL_law_219 rfl (lv_at hl 0 rfl) ?_
  refine lv_iload_n h1 h2 dL_law_220 rfl (lv_at hl 3 rfl) ?_
  refine lv_iconst (v := 1) h1 h2 dL_law_221 (by decide) ?_
  refine lv_iadd h1 h2 dL_law_222 ?_
  refine va_sld h1 h2 C.2.1.1 C.2.1.2 hbA hS hv1 dL_law_223 ?_
  obtain ⟨r0, gx, gm, hq1, hq2, hrel⟩ := hs (xs (x3 + 1).toNatClampNeg) hx hm hrel
  refine tr_lci (i := 0) (a1 := adx) (a2 := adm) (Y2 := tr_M) (g2 := hm) (As := [.int (xs (x3 + 1).toNatClampNeg)]) (rest := []) C.1 C.2.2.1.1 C.2.2.1.2.1 C.2.2.1.2.2 C.2.2.2.1.1 C.2.2.2.2.1.1 C.2.2.2.2.2 hPx hPm hS hl (c_X7_about l (tr_wa w adx) (xs (x3 + 1).toNatClampNeg) hx r0 gx hq1) mz_X7_about ml_L_31 (by decide) rfl rfl rfl rfl ⟨Nat.le_of_ble_eq_true rfl, Nat.le_of_ble_eq_true rfl⟩ rfl rfl (Nat.le_of_ble_eq_true rfl) ⟨Nat.le_of_ble_eq_true rfl, Nat.le_of_ble_eq_true rfl⟩ dL_law_224 (fun H locs hPx hPm hS => ?_)
  refine lv_aload_n h1 h2 dL_law_227 rfl (lv_at hl 2 rfl) ?_
  refine lv_aload_n h1 h2 dL_law_228 rfl (lv_at hl 0 rfl) ?_
  refine lv_iload_n h1 h2 dL_law_229 rfl (lv_at hl 3 rfl) ?_
  refine lv_iconst (v := 1) h1 h2 dL_law_230 (by decide) ?_
  refine lv_iadd h1 h2 dL_law_231 ?_
  refine va_sld h1 h2 C.2.1.1 C.2.1.2 hbA hS hv1 dL_law_232 ?_
  refine tr_lci (i := 0) (a1 := adm) (a2 := adx) (Y2 := tr_X) (g2 := gx) (As := [.int (xs (x3 + 1).toNatClampNeg)]) (rest := [.int r0]) C.1 C.2.2.1.1 C.2.2.1.2.1 C.2.2.1.2.2 C.2.2.2.1.2 C.2.2.2.2.1.2 (fun i j hi hj h => C.2.2.2.2.2 j i hj hi h.symm) hPm hPx hS hl (c_X8_about l (tr_wa w adm) (xs (x3 + 1).toNatClampNeg) hm r0 gm hq2) mz_X8_about ml_L_34 (by decide) rfl rfl rfl rfl ⟨Nat.le_of_ble_eq_true rfl, Nat.le_of_ble_eq_true rfl⟩ rfl rfl (Nat.le_of_ble_eq_true rfl) ⟨Nat.le_of_ble_eq_true rfl, Nat.le_of_ble_eq_true rfl⟩ dL_law_233 (fun H locs hPm hPx hS => ?_)
  refine lv_icmp_eq (tgt := 1066) h1 h2 dL_law_236 (by decide) (fun c9 => ?_) (fun c9 => absurd rfl c9)
  exact jn _ _ hrel H locs ls hPx hPm hS hl
theorem ml_L_35 : Cond.methodLink RL 35 yX7_minutes ∈ tr_T := tr_in 378 (by decide +kernel) rfl
theorem ml_L_39 : Cond.methodLink RL 39 yX8_minutes ∈ tr_T := tr_in 753 (by decide +kernel) rfl
/-- call 5: minutes -/
def sm_minutes (Rel : tr_H → tr_H → Prop) : Prop := ∀ (v0 : Int32) (v1 : Int32) (hx hm : tr_H), Rel hx hm → ∃ (r0 : Int32) (_gx gm : tr_H), f_X7_minutes v0 v1 hx = some r0 ∧ f_X8_minutes v0 v1 hm = some (r0, gm) ∧ Rel hx gm
set_option maxHeartbeats 4000000 in
set_option maxRecDepth 100000 in
theorem lw_c5 {p : Program} {l : Launch} {e : Env} {s : State} {m : MethodId} {below : List Frame} {meth : Method} {c : Code} {b L : Nat} {xs : Nat → Int32} {w : tr_E} {adx adm : Nat → Nat} {Rel : tr_H → tr_H → Prop} (hs : sm_minutes Rel) (C : tr_LC p s m c b L xs w adx adm) (x3 : Int32) (hv1 : vp_in (x3 + 1) L) (hv2 : vp_in (x3 + 2) L) (hv3 : vp_in (x3 + 3) L) (hv4 : vp_in (x3 + 4) L) (hv5 : vp_in (x3 + 5) L) (jn : ∀ hx hm, Rel hx hm → lw_W p l e s m below meth c b w adx adm 1066 x3 hx hm) : ∀ hx hm, Rel hx hm → lw_W p l e s m below meth c b w adx adm 241 x3 hx hm := by
  intro hx hm hrel H locs ls hPx hPm hS hl
  have h1 := C.1.1
  have h2 : c.code = cL_law := C.1.2.1
  have hbA : ¬ (fun q : Nat => s.heap.size ≤ q) b := Nat.not_le.mpr C.2.1.2
  refine lv_aload_n h1 h2 dL_law_241 rfl (lv_at hl 1 rfl) ?_
  refine lv_aload_n h1 h2 dL_law_242 rfl (lv_at hl 0 rfl) ?_
  refine lv_iload_n h1 h2 dL_law_243 rfl (lv_at hl 3 rfl) ?_
  refine lv_iconst (v := 1) h1 h2 dL_law_244 (by decide) ?_
  refine lv_iadd h1 h2 dL_law_245 ?_
  refine va_sld h1 h2 C.2.1.1 C.2.1.2 hbA hS hv1 dL_law_246 ?_
  refine lv_aload_n h1 h2 dL_law_247 rfl (lv_at hl 0 rfl) ?_
  refine lv_iload_n h1 h2 dL_law_248 rfl (lv_at hl 3 rfl) ?_
  refine lv_iconst (v := 2) h1 h2 dL_law_249 (by decide) ?_
  refine lv_iadd h1 h2 dL_law_250 ?_
  refine va_sld h1 h2 C.2.1.1 C.2.1.2 hbA hS hv2 dL_law_251 ?_
  obtain ⟨r0, gx, gm, hq1, hq2, hrel⟩ := hs (xs (x3 + 1).toNatClampNeg) (xs (x3 + 2).toNatClampNeg) hx hm hrel
  refine tr_lci (i := 0) (a1 := adx) (a2 := adm) (Y2 := tr_M) (g2 := hm) (As := [.int (xs (x3 + 1).toNatClampNeg), .int (xs (x3 + 2).toNatClampNeg)]) (rest := []) C.1 C.2.2.1.1 C.2.2.1.2.1 C.2.2.1.2.2 C.2.2.2.1.1 C.2.2.2.2.1.1 C.2.2.2.2.2 hPx hPm hS hl (c_X7_minutes l (tr_wa w adx) (xs (x3 + 1).toNatClampNeg) (xs (x3 + 2).toNatClampNeg) hx r0 hq1) mz_X7_minutes ml_L_35 (by decide) rfl rfl rfl rfl ⟨Nat.le_of_ble_eq_true rfl, Nat.le_of_ble_eq_true rfl⟩ rfl rfl (Nat.le_of_ble_eq_true rfl) ⟨Nat.le_of_ble_eq_true rfl, Nat.le_of_ble_eq_true rfl⟩ dL_law_252 (fun H locs hPx hPm hS => ?_)
  refine lv_aload_n h1 h2 dL_law_255 rfl (lv_at hl 2 rfl) ?_
  refine lv_aload_n h1 h2 dL_law_256 rfl (lv_at hl 0 rfl) ?_
  refine lv_iload_n h1 h2 dL_law_257 rfl (lv_at hl 3 rfl) ?_
  refine lv_iconst (v := 1) h1 h2 dL_law_258 (by decide) ?_
  refine lv_iadd h1 h2 dL_law_259 ?_
  refine va_sld h1 h2 C.2.1.1 C.2.1.2 hbA hS hv1 dL_law_260 ?_
  refine lv_aload_n h1 h2 dL_law_261 rfl (lv_at hl 0 rfl) ?_
  refine lv_iload_n h1 h2 dL_law_262 rfl (lv_at hl 3 rfl) ?_
  refine lv_iconst (v := 2) h1 h2 dL_law_263 (by decide) ?_
  refine lv_iadd h1 h2 dL_law_264 ?_
  refine va_sld h1 h2 C.2.1.1 C.2.1.2 hbA hS hv2 dL_law_265 ?_
  refine tr_lci (i := 0) (a1 := adm) (a2 := adx) (Y2 := tr_X) (g2 := hx) (As := [.int (xs (x3 + 1).toNatClampNeg), .int (xs (x3 + 2).toNatClampNeg)]) (rest := [.int r0]) C.1 C.2.2.1.1 C.2.2.1.2.1 C.2.2.1.2.2 C.2.2.2.1.2 C.2.2.2.2.1.2 (fun i j hi hj h => C.2.2.2.2.2 j i hj hi h.symm) hPm hPx hS hl (c_X8_minutes l (tr_wa w adm) (xs (x3 + 1).toNatClampNeg) (xs (x3 + 2).toNatClampNeg) hm r0 gm hq2) mz_X8_minutes ml_L_39 (by decide) rfl rfl rfl rfl ⟨Nat.le_of_ble_eq_true rfl, Nat.le_of_ble_eq_true rfl⟩ rfl rfl (Nat.le_of_ble_eq_true rfl) ⟨Nat.le_of_ble_eq_true rfl, Nat.le_of_ble_eq_true rfl⟩ dL_law_266 (fun H locs hPm hPx hS => ?_)
  refine lv_icmp_eq (tgt := 1066) h1 h2 dL_law_269 (by decide) (fun c9 => ?_) (fun c9 => absurd rfl c9)
  exact jn _ _ hrel H locs ls hPx hPm hS hl
theorem ml_L_40 : Cond.methodLink RL 40 yX7_put ∈ tr_T := tr_in 383 (by decide +kernel) rfl
theorem ml_L_44 : Cond.methodLink RL 44 yX8_put ∈ tr_T := tr_in 761 (by decide +kernel) rfl
/-- call 6: put -/
def sm_put (Rel : tr_H → tr_H → Prop) : Prop := ∀ (v0 : Int32) (v1 : Int32) (v2 : Int32) (hx hm : tr_H), Rel hx hm → ∃ (r0 : Int32) (gx gm : tr_H), f_X7_put v0 v1 v2 hx = some (r0, gx) ∧ f_X8_put v0 v1 v2 hm = some (r0, gm) ∧ Rel gx gm
set_option maxHeartbeats 4000000 in
set_option maxRecDepth 100000 in
theorem lw_c6 {p : Program} {l : Launch} {e : Env} {s : State} {m : MethodId} {below : List Frame} {meth : Method} {c : Code} {b L : Nat} {xs : Nat → Int32} {w : tr_E} {adx adm : Nat → Nat} {Rel : tr_H → tr_H → Prop} (hs : sm_put Rel) (C : tr_LC p s m c b L xs w adx adm) (x3 : Int32) (hv1 : vp_in (x3 + 1) L) (hv2 : vp_in (x3 + 2) L) (hv3 : vp_in (x3 + 3) L) (hv4 : vp_in (x3 + 4) L) (hv5 : vp_in (x3 + 5) L) (jn : ∀ hx hm, Rel hx hm → lw_W p l e s m below meth c b w adx adm 1066 x3 hx hm) : ∀ hx hm, Rel hx hm → lw_W p l e s m below meth c b w adx adm 274 x3 hx hm := by
  intro hx hm hrel H locs ls hPx hPm hS hl
  have h1 := C.1.1
  have h2 : c.code = cL_law := C.1.2.1
  have hbA : ¬ (fun q : Nat => s.heap.size ≤ q) b := Nat.not_le.mpr C.2.1.2
  refine lv_aload_n h1 h2 dL_law_274 rfl (lv_at hl 1 rfl) ?_
  refine lv_aload_n h1 h2 dL_law_275 rfl (lv_at hl 0 rfl) ?_
  refine lv_iload_n h1 h2 dL_law_276 rfl (lv_at hl 3 rfl) ?_
  refine lv_iconst (v := 1) h1 h2 dL_law_277 (by decide) ?_
  refine lv_iadd h1 h2 dL_law_278 ?_
  refine va_sld h1 h2 C.2.1.1 C.2.1.2 hbA hS hv1 dL_law_279 ?_
  refine lv_aload_n h1 h2 dL_law_280 rfl (lv_at hl 0 rfl) ?_
  refine lv_iload_n h1 h2 dL_law_281 rfl (lv_at hl 3 rfl) ?_
  refine lv_iconst (v := 2) h1 h2 dL_law_282 (by decide) ?_
  refine lv_iadd h1 h2 dL_law_283 ?_
  refine va_sld h1 h2 C.2.1.1 C.2.1.2 hbA hS hv2 dL_law_284 ?_
  refine lv_aload_n h1 h2 dL_law_285 rfl (lv_at hl 0 rfl) ?_
  refine lv_iload_n h1 h2 dL_law_286 rfl (lv_at hl 3 rfl) ?_
  refine lv_iconst (v := 3) h1 h2 dL_law_287 (by decide) ?_
  refine lv_iadd h1 h2 dL_law_288 ?_
  refine va_sld h1 h2 C.2.1.1 C.2.1.2 hbA hS hv3 dL_law_289 ?_
  obtain ⟨r0, gx, gm, hq1, hq2, hrel⟩ := hs (xs (x3 + 1).toNatClampNeg) (xs (x3 + 2).toNatClampNeg) (xs (x3 + 3).toNatClampNeg) hx hm hrel
  refine tr_lci (i := 0) (a1 := adx) (a2 := adm) (Y2 := tr_M) (g2 := hm) (As := [.int (xs (x3 + 1).toNatClampNeg), .int (xs (x3 + 2).toNatClampNeg), .int (xs (x3 + 3).toNatClampNeg)]) (rest := []) C.1 C.2.2.1.1 C.2.2.1.2.1 C.2.2.1.2.2 C.2.2.2.1.1 C.2.2.2.2.1.1 C.2.2.2.2.2 hPx hPm hS hl (c_X7_put l (tr_wa w adx) (xs (x3 + 1).toNatClampNeg) (xs (x3 + 2).toNatClampNeg) (xs (x3 + 3).toNatClampNeg) hx r0 gx hq1) mz_X7_put ml_L_40 (by decide) rfl rfl rfl rfl ⟨Nat.le_of_ble_eq_true rfl, Nat.le_of_ble_eq_true rfl⟩ rfl rfl (Nat.le_of_ble_eq_true rfl) ⟨Nat.le_of_ble_eq_true rfl, Nat.le_of_ble_eq_true rfl⟩ dL_law_290 (fun H locs hPx hPm hS => ?_)
  refine lv_aload_n h1 h2 dL_law_293 rfl (lv_at hl 2 rfl) ?_
  refine lv_aload_n h1 h2 dL_law_294 rfl (lv_at hl 0 rfl) ?_
  refine lv_iload_n h1 h2 dL_law_295 rfl (lv_at hl 3 rfl) ?_
  refine lv_iconst (v := 1) h1 h2 dL_law_296 (by decide) ?_
  refine lv_iadd h1 h2 dL_law_297 ?_
  refine va_sld h1 h2 C.2.1.1 C.2.1.2 hbA hS hv1 dL_law_298 ?_
  refine lv_aload_n h1 h2 dL_law_299 rfl (lv_at hl 0 rfl) ?_
  refine lv_iload_n h1 h2 dL_law_300 rfl (lv_at hl 3 rfl) ?_
  refine lv_iconst (v := 2) h1 h2 dL_law_301 (by decide) ?_
  refine lv_iadd h1 h2 dL_law_302 ?_
  refine va_sld h1 h2 C.2.1.1 C.2.1.2 hbA hS hv2 dL_law_303 ?_
  refine lv_aload_n h1 h2 dL_law_304 rfl (lv_at hl 0 rfl) ?_
  refine lv_iload_n h1 h2 dL_law_305 rfl (lv_at hl 3 rfl) ?_
  refine lv_iconst (v := 3) h1 h2 dL_law_306 (by decide) ?_
  refine lv_iadd h1 h2 dL_law_307 ?_
  refine va_sld h1 h2 C.2.1.1 C.2.1.2 hbA hS hv3 dL_law_308 ?_
  refine tr_lci (i := 0) (a1 := adm) (a2 := adx) (Y2 := tr_X) (g2 := gx) (As := [.int (xs (x3 + 1).toNatClampNeg), .int (xs (x3 + 2).toNatClampNeg), .int (xs (x3 + 3).toNatClampNeg)]) (rest := [.int r0]) C.1 C.2.2.1.1 C.2.2.1.2.1 C.2.2.1.2.2 C.2.2.2.1.2 C.2.2.2.2.1.2 (fun i j hi hj h => C.2.2.2.2.2 j i hj hi h.symm) hPm hPx hS hl (c_X8_put l (tr_wa w adm) (xs (x3 + 1).toNatClampNeg) (xs (x3 + 2).toNatClampNeg) (xs (x3 + 3).toNatClampNeg) hm r0 gm hq2) mz_X8_put ml_L_44 (by decide) rfl rfl rfl rfl ⟨Nat.le_of_ble_eq_true rfl, Nat.le_of_ble_eq_true rfl⟩ rfl rfl (Nat.le_of_ble_eq_true rfl) ⟨Nat.le_of_ble_eq_true rfl, Nat.le_of_ble_eq_true rfl⟩ dL_law_309 (fun H locs hPm hPx hS => ?_)
  refine lv_icmp_eq (tgt := 1066) h1 h2 dL_law_312 (by decide) (fun c9 => ?_) (fun c9 => absurd rfl c9)
  exact jn _ _ hrel H locs ls hPx hPm hS hl
theorem ml_L_45 : Cond.methodLink RL 45 yX7_cut ∈ tr_T := tr_in 400 (by decide +kernel) rfl
theorem ml_L_48 : Cond.methodLink RL 48 yX8_cut ∈ tr_T := tr_in 770 (by decide +kernel) rfl
/-- call 7: cut -/
def sm_cut (Rel : tr_H → tr_H → Prop) : Prop := ∀ (v0 : Int32) (v1 : Int32) (hx hm : tr_H), Rel hx hm → ∃ (r0 : Int32) (gx gm : tr_H), f_X7_cut v0 v1 hx = some (r0, gx) ∧ f_X8_cut v0 v1 hm = some (r0, gm) ∧ Rel gx gm
set_option maxHeartbeats 4000000 in
set_option maxRecDepth 100000 in
theorem lw_c7 {p : Program} {l : Launch} {e : Env} {s : State} {m : MethodId} {below : List Frame} {meth : Method} {c : Code} {b L : Nat} {xs : Nat → Int32} {w : tr_E} {adx adm : Nat → Nat} {Rel : tr_H → tr_H → Prop} (hs : sm_cut Rel) (C : tr_LC p s m c b L xs w adx adm) (x3 : Int32) (hv1 : vp_in (x3 + 1) L) (hv2 : vp_in (x3 + 2) L) (hv3 : vp_in (x3 + 3) L) (hv4 : vp_in (x3 + 4) L) (hv5 : vp_in (x3 + 5) L) (jn : ∀ hx hm, Rel hx hm → lw_W p l e s m below meth c b w adx adm 1066 x3 hx hm) : ∀ hx hm, Rel hx hm → lw_W p l e s m below meth c b w adx adm 317 x3 hx hm := by
  intro hx hm hrel H locs ls hPx hPm hS hl
  have h1 := C.1.1
  have h2 : c.code = cL_law := C.1.2.1
  have hbA : ¬ (fun q : Nat => s.heap.size ≤ q) b := Nat.not_le.mpr C.2.1.2
  refine lv_aload_n h1 h2 dL_law_317 rfl (lv_at hl 1 rfl) ?_
  refine lv_aload_n h1 h2 dL_law_318 rfl (lv_at hl 0 rfl) ?_
  refine lv_iload_n h1 h2 dL_law_319 rfl (lv_at hl 3 rfl) ?_
  refine lv_iconst (v := 1) h1 h2 dL_law_320 (by decide) ?_
  refine lv_iadd h1 h2 dL_law_321 ?_
  refine va_sld h1 h2 C.2.1.1 C.2.1.2 hbA hS hv1 dL_law_322 ?_
  refine lv_aload_n h1 h2 dL_law_323 rfl (lv_at hl 0 rfl) ?_
  refine lv_iload_n h1 h2 dL_law_324 rfl (lv_at hl 3 rfl) ?_
  refine lv_iconst (v := 2) h1 h2 dL_law_325 (by decide) ?_
  refine lv_iadd h1 h2 dL_law_326 ?_
  refine va_sld h1 h2 C.2.1.1 C.2.1.2 hbA hS hv2 dL_law_327 ?_
  obtain ⟨r0, gx, gm, hq1, hq2, hrel⟩ := hs (xs (x3 + 1).toNatClampNeg) (xs (x3 + 2).toNatClampNeg) hx hm hrel
  refine tr_lci (i := 0) (a1 := adx) (a2 := adm) (Y2 := tr_M) (g2 := hm) (As := [.int (xs (x3 + 1).toNatClampNeg), .int (xs (x3 + 2).toNatClampNeg)]) (rest := []) C.1 C.2.2.1.1 C.2.2.1.2.1 C.2.2.1.2.2 C.2.2.2.1.1 C.2.2.2.2.1.1 C.2.2.2.2.2 hPx hPm hS hl (c_X7_cut l (tr_wa w adx) (xs (x3 + 1).toNatClampNeg) (xs (x3 + 2).toNatClampNeg) hx r0 gx hq1) mz_X7_cut ml_L_45 (by decide) rfl rfl rfl rfl ⟨Nat.le_of_ble_eq_true rfl, Nat.le_of_ble_eq_true rfl⟩ rfl rfl (Nat.le_of_ble_eq_true rfl) ⟨Nat.le_of_ble_eq_true rfl, Nat.le_of_ble_eq_true rfl⟩ dL_law_328 (fun H locs hPx hPm hS => ?_)
  refine lv_aload_n h1 h2 dL_law_331 rfl (lv_at hl 2 rfl) ?_
  refine lv_aload_n h1 h2 dL_law_332 rfl (lv_at hl 0 rfl) ?_
  refine lv_iload_n h1 h2 dL_law_333 rfl (lv_at hl 3 rfl) ?_
  refine lv_iconst (v := 1) h1 h2 dL_law_334 (by decide) ?_
  refine lv_iadd h1 h2 dL_law_335 ?_
  refine va_sld h1 h2 C.2.1.1 C.2.1.2 hbA hS hv1 dL_law_336 ?_
  refine lv_aload_n h1 h2 dL_law_337 rfl (lv_at hl 0 rfl) ?_
  refine lv_iload_n h1 h2 dL_law_338 rfl (lv_at hl 3 rfl) ?_
  refine lv_iconst (v := 2) h1 h2 dL_law_339 (by decide) ?_
  refine lv_iadd h1 h2 dL_law_340 ?_
  refine va_sld h1 h2 C.2.1.1 C.2.1.2 hbA hS hv2 dL_law_341 ?_
  refine tr_lci (i := 0) (a1 := adm) (a2 := adx) (Y2 := tr_X) (g2 := gx) (As := [.int (xs (x3 + 1).toNatClampNeg), .int (xs (x3 + 2).toNatClampNeg)]) (rest := [.int r0]) C.1 C.2.2.1.1 C.2.2.1.2.1 C.2.2.1.2.2 C.2.2.2.1.2 C.2.2.2.2.1.2 (fun i j hi hj h => C.2.2.2.2.2 j i hj hi h.symm) hPm hPx hS hl (c_X8_cut l (tr_wa w adm) (xs (x3 + 1).toNatClampNeg) (xs (x3 + 2).toNatClampNeg) hm r0 gm hq2) mz_X8_cut ml_L_48 (by decide) rfl rfl rfl rfl ⟨Nat.le_of_ble_eq_true rfl, Nat.le_of_ble_eq_true rfl⟩ rfl rfl (Nat.le_of_ble_eq_true rfl) ⟨Nat.le_of_ble_eq_true rfl, Nat.le_of_ble_eq_true rfl⟩ dL_law_342 (fun H locs hPm hPx hS => ?_)
  refine lv_icmp_eq (tgt := 1066) h1 h2 dL_law_345 (by decide) (fun c9 => ?_) (fun c9 => absurd rfl c9)
  exact jn _ _ hrel H locs ls hPx hPm hS hl
theorem ml_L_49 : Cond.methodLink RL 49 yX7_time ∈ tr_T := tr_in 404 (by decide +kernel) rfl
theorem ml_L_52 : Cond.methodLink RL 52 yX8_time ∈ tr_T := tr_in 774 (by decide +kernel) rfl
/-- call 8: time -/
def sm_time (Rel : tr_H → tr_H → Prop) : Prop := ∀ (v0 : Int32) (v1 : Int32) (v2 : Int32) (hx hm : tr_H), Rel hx hm → ∃ (r0 : Int32) (gx gm : tr_H), f_X7_time v0 v1 v2 hx = some (r0, gx) ∧ f_X8_time v0 v1 v2 hm = some (r0, gm) ∧ Rel gx gm
set_option maxHeartbeats 4000000 in
set_option maxRecDepth 100000 in
theorem lw_c8 {p : Program} {l : Launch} {e : Env} {s : State} {m : MethodId} {below : List Frame} {meth : Method} {c : Code} {b L : Nat} {xs : Nat → Int32} {w : tr_E} {adx adm : Nat → Nat} {Rel : tr_H → tr_H → Prop} (hs : sm_time Rel) (C : tr_LC p s m c b L xs w adx adm) (x3 : Int32) (hv1 : vp_in (x3 + 1) L) (hv2 : vp_in (x3 + 2) L) (hv3 : vp_in (x3 + 3) L) (hv4 : vp_in (x3 + 4) L) (hv5 : vp_in (x3 + 5) L) (jn : ∀ hx hm, Rel hx hm → lw_W p l e s m below meth c b w adx adm 1066 x3 hx hm) : ∀ hx hm, Rel hx hm → lw_W p l e s m below meth c b w adx adm 350 x3 hx hm := by
  intro hx hm hrel H locs ls hPx hPm hS hl
  have h1 := C.1.1
  have h2 : c.code = cL_law := C.1.2.1
  have hbA : ¬ (fun q : Nat => s.heap.size ≤ q) b := Nat.not_le.mpr C.2.1.2
  refine lv_aload_n h1 h2 dL_law_350 rfl (lv_at hl 1 rfl) ?_
  refine lv_aload_n h1 h2 dL_law_351 rfl (lv_at hl 0 rfl) ?_
  refine lv_iload_n h1 h2 dL_law_352 rfl (lv_at hl 3 rfl) ?_
  refine lv_iconst (v := 1) h1 h2 dL_law_353 (by decide) ?_
  refine lv_iadd h1 h2 dL_law_354 ?_
  refine va_sld h1 h2 C.2.1.1 C.2.1.2 hbA hS hv1 dL_law_355 ?_
  refine lv_aload_n h1 h2 dL_law_356 rfl (lv_at hl 0 rfl) ?_
  refine lv_iload_n h1 h2 dL_law_357 rfl (lv_at hl 3 rfl) ?_
  refine lv_iconst (v := 2) h1 h2 dL_law_358 (by decide) ?_
  refine lv_iadd h1 h2 dL_law_359 ?_
  refine va_sld h1 h2 C.2.1.1 C.2.1.2 hbA hS hv2 dL_law_360 ?_
  refine lv_aload_n h1 h2 dL_law_361 rfl (lv_at hl 0 rfl) ?_
  refine lv_iload_n h1 h2 dL_law_362 rfl (lv_at hl 3 rfl) ?_
  refine lv_iconst (v := 3) h1 h2 dL_law_363 (by decide) ?_
  refine lv_iadd h1 h2 dL_law_364 ?_
  refine va_sld h1 h2 C.2.1.1 C.2.1.2 hbA hS hv3 dL_law_365 ?_
  obtain ⟨r0, gx, gm, hq1, hq2, hrel⟩ := hs (xs (x3 + 1).toNatClampNeg) (xs (x3 + 2).toNatClampNeg) (xs (x3 + 3).toNatClampNeg) hx hm hrel
  refine tr_lci (i := 0) (a1 := adx) (a2 := adm) (Y2 := tr_M) (g2 := hm) (As := [.int (xs (x3 + 1).toNatClampNeg), .int (xs (x3 + 2).toNatClampNeg), .int (xs (x3 + 3).toNatClampNeg)]) (rest := []) C.1 C.2.2.1.1 C.2.2.1.2.1 C.2.2.1.2.2 C.2.2.2.1.1 C.2.2.2.2.1.1 C.2.2.2.2.2 hPx hPm hS hl (c_X7_time l (tr_wa w adx) (xs (x3 + 1).toNatClampNeg) (xs (x3 + 2).toNatClampNeg) (xs (x3 + 3).toNatClampNeg) hx r0 gx hq1) mz_X7_time ml_L_49 (by decide) rfl rfl rfl rfl ⟨Nat.le_of_ble_eq_true rfl, Nat.le_of_ble_eq_true rfl⟩ rfl rfl (Nat.le_of_ble_eq_true rfl) ⟨Nat.le_of_ble_eq_true rfl, Nat.le_of_ble_eq_true rfl⟩ dL_law_366 (fun H locs hPx hPm hS => ?_)
  refine lv_aload_n h1 h2 dL_law_369 rfl (lv_at hl 2 rfl) ?_
  refine lv_aload_n h1 h2 dL_law_370 rfl (lv_at hl 0 rfl) ?_
  refine lv_iload_n h1 h2 dL_law_371 rfl (lv_at hl 3 rfl) ?_
  refine lv_iconst (v := 1) h1 h2 dL_law_372 (by decide) ?_
  refine lv_iadd h1 h2 dL_law_373 ?_
  refine va_sld h1 h2 C.2.1.1 C.2.1.2 hbA hS hv1 dL_law_374 ?_
  refine lv_aload_n h1 h2 dL_law_375 rfl (lv_at hl 0 rfl) ?_
  refine lv_iload_n h1 h2 dL_law_376 rfl (lv_at hl 3 rfl) ?_
  refine lv_iconst (v := 2) h1 h2 dL_law_377 (by decide) ?_
  refine lv_iadd h1 h2 dL_law_378 ?_
  refine va_sld h1 h2 C.2.1.1 C.2.1.2 hbA hS hv2 dL_law_379 ?_
  refine lv_aload_n h1 h2 dL_law_380 rfl (lv_at hl 0 rfl) ?_
  refine lv_iload_n h1 h2 dL_law_381 rfl (lv_at hl 3 rfl) ?_
  refine lv_iconst (v := 3) h1 h2 dL_law_382 (by decide) ?_
  refine lv_iadd h1 h2 dL_law_383 ?_
  refine va_sld h1 h2 C.2.1.1 C.2.1.2 hbA hS hv3 dL_law_384 ?_
  refine tr_lci (i := 0) (a1 := adm) (a2 := adx) (Y2 := tr_X) (g2 := gx) (As := [.int (xs (x3 + 1).toNatClampNeg), .int (xs (x3 + 2).toNatClampNeg), .int (xs (x3 + 3).toNatClampNeg)]) (rest := [.int r0]) C.1 C.2.2.1.1 C.2.2.1.2.1 C.2.2.1.2.2 C.2.2.2.1.2 C.2.2.2.2.1.2 (fun i j hi hj h => C.2.2.2.2.2 j i hj hi h.symm) hPm hPx hS hl (c_X8_time l (tr_wa w adm) (xs (x3 + 1).toNatClampNeg) (xs (x3 + 2).toNatClampNeg) (xs (x3 + 3).toNatClampNeg) hm r0 gm hq2) mz_X8_time ml_L_52 (by decide) rfl rfl rfl rfl ⟨Nat.le_of_ble_eq_true rfl, Nat.le_of_ble_eq_true rfl⟩ rfl rfl (Nat.le_of_ble_eq_true rfl) ⟨Nat.le_of_ble_eq_true rfl, Nat.le_of_ble_eq_true rfl⟩ dL_law_385 (fun H locs hPm hPx hS => ?_)
  refine lv_icmp_eq (tgt := 1066) h1 h2 dL_law_388 (by decide) (fun c9 => ?_) (fun c9 => absurd rfl c9)
  exact jn _ _ hrel H locs ls hPx hPm hS hl
theorem ml_L_53 : Cond.methodLink RL 53 yX7_undo ∈ tr_T := tr_in 408 (by decide +kernel) rfl
theorem ml_L_56 : Cond.methodLink RL 56 yX8_undo ∈ tr_T := tr_in 778 (by decide +kernel) rfl
/-- call 9: undo -/
def sm_undo (Rel : tr_H → tr_H → Prop) : Prop := ∀ (hx hm : tr_H), Rel hx hm → ∃ (r0 : Int32) (gx gm : tr_H), f_X7_undo hx = some (r0, gx) ∧ f_X8_undo hm = some (r0, gm) ∧ Rel gx gm
set_option maxHeartbeats 4000000 in
set_option maxRecDepth 100000 in
theorem lw_c9 {p : Program} {l : Launch} {e : Env} {s : State} {m : MethodId} {below : List Frame} {meth : Method} {c : Code} {b L : Nat} {xs : Nat → Int32} {w : tr_E} {adx adm : Nat → Nat} {Rel : tr_H → tr_H → Prop} (hs : sm_undo Rel) (C : tr_LC p s m c b L xs w adx adm) (x3 : Int32) (hv1 : vp_in (x3 + 1) L) (hv2 : vp_in (x3 + 2) L) (hv3 : vp_in (x3 + 3) L) (hv4 : vp_in (x3 + 4) L) (hv5 : vp_in (x3 + 5) L) (jn : ∀ hx hm, Rel hx hm → lw_W p l e s m below meth c b w adx adm 1066 x3 hx hm) : ∀ hx hm, Rel hx hm → lw_W p l e s m below meth c b w adx adm 393 x3 hx hm := by
  intro hx hm hrel H locs ls hPx hPm hS hl
  have h1 := C.1.1
  have h2 : c.code = cL_law := C.1.2.1
  have hbA : ¬ (fun q : Nat => s.heap.size ≤ q) b := Nat.not_le.mpr C.2.1.2
  refine lv_aload_n h1 h2 dL_law_393 rfl (lv_at hl 1 rfl) ?_
  obtain ⟨r0, gx, gm, hq1, hq2, hrel⟩ := hs  hx hm hrel
  refine tr_lci (i := 0) (a1 := adx) (a2 := adm) (Y2 := tr_M) (g2 := hm) (As := []) (rest := []) C.1 C.2.2.1.1 C.2.2.1.2.1 C.2.2.1.2.2 C.2.2.2.1.1 C.2.2.2.2.1.1 C.2.2.2.2.2 hPx hPm hS hl (c_X7_undo l (tr_wa w adx)  hx r0 gx hq1) mz_X7_undo ml_L_53 (by decide) rfl rfl rfl rfl ⟨Nat.le_of_ble_eq_true rfl, Nat.le_of_ble_eq_true rfl⟩ rfl rfl (Nat.le_of_ble_eq_true rfl) ⟨Nat.le_of_ble_eq_true rfl, Nat.le_of_ble_eq_true rfl⟩ dL_law_394 (fun H locs hPx hPm hS => ?_)
  refine lv_aload_n h1 h2 dL_law_397 rfl (lv_at hl 2 rfl) ?_
  refine tr_lci (i := 0) (a1 := adm) (a2 := adx) (Y2 := tr_X) (g2 := gx) (As := []) (rest := [.int r0]) C.1 C.2.2.1.1 C.2.2.1.2.1 C.2.2.1.2.2 C.2.2.2.1.2 C.2.2.2.2.1.2 (fun i j hi hj h => C.2.2.2.2.2 j i hj hi h.symm) hPm hPx hS hl (c_X8_undo l (tr_wa w adm)  hm r0 gm hq2) mz_X8_undo ml_L_56 (by decide) rfl rfl rfl rfl ⟨Nat.le_of_ble_eq_true rfl, Nat.le_of_ble_eq_true rfl⟩ rfl rfl (Nat.le_of_ble_eq_true rfl) ⟨Nat.le_of_ble_eq_true rfl, Nat.le_of_ble_eq_true rfl⟩ dL_law_398 (fun H locs hPm hPx hS => ?_)
  refine lv_icmp_eq (tgt := 1066) h1 h2 dL_law_401 (by decide) (fun c9 => ?_) (fun c9 => absurd rfl c9)
  exact jn _ _ hrel H locs ls hPx hPm hS hl
theorem ml_L_57 : Cond.methodLink RL 57 yX7_pace ∈ tr_T := tr_in 417 (by decide +kernel) rfl
theorem ml_L_61 : Cond.methodLink RL 61 yX8_pace ∈ tr_T := tr_in 782 (by decide +kernel) rfl
/-- call 10: pace -/
def sm_pace (Rel : tr_H → tr_H → Prop) : Prop := ∀ (v0 : Int32) (hx hm : tr_H), Rel hx hm → ∃ (r0 : Int32) (gx gm : tr_H), f_X7_pace v0 hx = some (r0, gx) ∧ f_X8_pace v0 hm = some (r0, gm) ∧ Rel gx gm
set_option maxHeartbeats 4000000 in
set_option maxRecDepth 100000 in
theorem lw_c10 {p : Program} {l : Launch} {e : Env} {s : State} {m : MethodId} {below : List Frame} {meth : Method} {c : Code} {b L : Nat} {xs : Nat → Int32} {w : tr_E} {adx adm : Nat → Nat} {Rel : tr_H → tr_H → Prop} (hs : sm_pace Rel) (C : tr_LC p s m c b L xs w adx adm) (x3 : Int32) (hv1 : vp_in (x3 + 1) L) (hv2 : vp_in (x3 + 2) L) (hv3 : vp_in (x3 + 3) L) (hv4 : vp_in (x3 + 4) L) (hv5 : vp_in (x3 + 5) L) (jn : ∀ hx hm, Rel hx hm → lw_W p l e s m below meth c b w adx adm 1066 x3 hx hm) : ∀ hx hm, Rel hx hm → lw_W p l e s m below meth c b w adx adm 406 x3 hx hm := by
  intro hx hm hrel H locs ls hPx hPm hS hl
  have h1 := C.1.1
  have h2 : c.code = cL_law := C.1.2.1
  have hbA : ¬ (fun q : Nat => s.heap.size ≤ q) b := Nat.not_le.mpr C.2.1.2
  refine lv_aload_n h1 h2 dL_law_406 rfl (lv_at hl 1 rfl) ?_
  refine lv_aload_n h1 h2 dL_law_407 rfl (lv_at hl 0 rfl) ?_
  refine lv_iload_n h1 h2 dL_law_408 rfl (lv_at hl 3 rfl) ?_
  refine lv_iconst (v := 1) h1 h2 dL_law_409 (by decide) ?_
  refine lv_iadd h1 h2 dL_law_410 ?_
  refine va_sld h1 h2 C.2.1.1 C.2.1.2 hbA hS hv1 dL_law_411 ?_
  refine lv_if_eq (tgt := 419) h1 h2 dL_law_412 (by decide) (fun cb0 => ?_) (fun cb0 => ?_)
  · refine lv_iconst (v := 0) h1 h2 dL_law_419 (by decide) ?_
    obtain ⟨r0, gx, gm, hq1, hq2, hrel⟩ := hs (0) hx hm hrel
    refine tr_lci (i := 0) (a1 := adx) (a2 := adm) (Y2 := tr_M) (g2 := hm) (As := [.int 0]) (rest := []) C.1 C.2.2.1.1 C.2.2.1.2.1 C.2.2.1.2.2 C.2.2.2.1.1 C.2.2.2.2.1.1 C.2.2.2.2.2 hPx hPm hS hl (c_X7_pace l (tr_wa w adx) (0) hx r0 gx hq1) mz_X7_pace ml_L_57 (by decide) rfl rfl rfl rfl ⟨Nat.le_of_ble_eq_true rfl, Nat.le_of_ble_eq_true rfl⟩ rfl rfl (Nat.le_of_ble_eq_true rfl) ⟨Nat.le_of_ble_eq_true rfl, Nat.le_of_ble_eq_true rfl⟩ dL_law_420 (fun H locs hPx hPm hS => ?_)
    refine lv_aload_n h1 h2 dL_law_423 rfl (lv_at hl 2 rfl) ?_
    refine lv_aload_n h1 h2 dL_law_424 rfl (lv_at hl 0 rfl) ?_
    refine lv_iload_n h1 h2 dL_law_425 rfl (lv_at hl 3 rfl) ?_
    refine lv_iconst (v := 1) h1 h2 dL_law_426 (by decide) ?_
    refine lv_iadd h1 h2 dL_law_427 ?_
    refine va_sld h1 h2 C.2.1.1 C.2.1.2 hbA hS hv1 dL_law_428 ?_
    refine lv_if_eq (tgt := 436) h1 h2 dL_law_429 (by decide) (fun c9 => ?_) (fun c9 => ?_)
    · refine lv_iconst (v := 0) h1 h2 dL_law_436 (by decide) ?_
      refine tr_lci (i := 0) (a1 := adm) (a2 := adx) (Y2 := tr_X) (g2 := gx) (As := [.int 0]) (rest := [.int r0]) C.1 C.2.2.1.1 C.2.2.1.2.1 C.2.2.1.2.2 C.2.2.2.1.2 C.2.2.2.2.1.2 (fun i j hi hj h => C.2.2.2.2.2 j i hj hi h.symm) hPm hPx hS hl (c_X8_pace l (tr_wa w adm) (0) hm r0 gm hq2) mz_X8_pace ml_L_61 (by decide) rfl rfl rfl rfl ⟨Nat.le_of_ble_eq_true rfl, Nat.le_of_ble_eq_true rfl⟩ rfl rfl (Nat.le_of_ble_eq_true rfl) ⟨Nat.le_of_ble_eq_true rfl, Nat.le_of_ble_eq_true rfl⟩ dL_law_437 (fun H locs hPm hPx hS => ?_)
      refine lv_icmp_eq (tgt := 1066) h1 h2 dL_law_440 (by decide) (fun c9 => ?_) (fun c9 => absurd rfl c9)
      exact jn _ _ hrel H locs ls hPx hPm hS hl
    · exact absurd cb0 c9
  · refine lv_iconst (v := 1) h1 h2 dL_law_415 (by decide) ?_
    refine lv_goto (tgt := 420) h1 h2 dL_law_416 (by decide) ?_
    obtain ⟨r0, gx, gm, hq1, hq2, hrel⟩ := hs (1) hx hm hrel
    refine tr_lci (i := 0) (a1 := adx) (a2 := adm) (Y2 := tr_M) (g2 := hm) (As := [.int 1]) (rest := []) C.1 C.2.2.1.1 C.2.2.1.2.1 C.2.2.1.2.2 C.2.2.2.1.1 C.2.2.2.2.1.1 C.2.2.2.2.2 hPx hPm hS hl (c_X7_pace l (tr_wa w adx) (1) hx r0 gx hq1) mz_X7_pace ml_L_57 (by decide) rfl rfl rfl rfl ⟨Nat.le_of_ble_eq_true rfl, Nat.le_of_ble_eq_true rfl⟩ rfl rfl (Nat.le_of_ble_eq_true rfl) ⟨Nat.le_of_ble_eq_true rfl, Nat.le_of_ble_eq_true rfl⟩ dL_law_420 (fun H locs hPx hPm hS => ?_)
    refine lv_aload_n h1 h2 dL_law_423 rfl (lv_at hl 2 rfl) ?_
    refine lv_aload_n h1 h2 dL_law_424 rfl (lv_at hl 0 rfl) ?_
    refine lv_iload_n h1 h2 dL_law_425 rfl (lv_at hl 3 rfl) ?_
    refine lv_iconst (v := 1) h1 h2 dL_law_426 (by decide) ?_
    refine lv_iadd h1 h2 dL_law_427 ?_
    refine va_sld h1 h2 C.2.1.1 C.2.1.2 hbA hS hv1 dL_law_428 ?_
    refine lv_if_eq (tgt := 436) h1 h2 dL_law_429 (by decide) (fun c9 => ?_) (fun c9 => ?_)
    · exact absurd c9 cb0
    · refine lv_iconst (v := 1) h1 h2 dL_law_432 (by decide) ?_
      refine lv_goto (tgt := 437) h1 h2 dL_law_433 (by decide) ?_
      refine tr_lci (i := 0) (a1 := adm) (a2 := adx) (Y2 := tr_X) (g2 := gx) (As := [.int 1]) (rest := [.int r0]) C.1 C.2.2.1.1 C.2.2.1.2.1 C.2.2.1.2.2 C.2.2.2.1.2 C.2.2.2.2.1.2 (fun i j hi hj h => C.2.2.2.2.2 j i hj hi h.symm) hPm hPx hS hl (c_X8_pace l (tr_wa w adm) (1) hm r0 gm hq2) mz_X8_pace ml_L_61 (by decide) rfl rfl rfl rfl ⟨Nat.le_of_ble_eq_true rfl, Nat.le_of_ble_eq_true rfl⟩ rfl rfl (Nat.le_of_ble_eq_true rfl) ⟨Nat.le_of_ble_eq_true rfl, Nat.le_of_ble_eq_true rfl⟩ dL_law_437 (fun H locs hPm hPx hS => ?_)
      refine lv_icmp_eq (tgt := 1066) h1 h2 dL_law_440 (by decide) (fun c9 => ?_) (fun c9 => absurd rfl c9)
      exact jn _ _ hrel H locs ls hPx hPm hS hl
theorem ml_L_62 : Cond.methodLink RL 62 yX7_critical ∈ tr_T := tr_in 427 (by decide +kernel) rfl
theorem ml_L_65 : Cond.methodLink RL 65 yX8_critical ∈ tr_T := tr_in 792 (by decide +kernel) rfl
/-- call 11: critical -/
def sm_critical (Rel : tr_H → tr_H → Prop) : Prop := ∀ (v0 : Int32) (v1 : Int32) (hx hm : tr_H), Rel hx hm → ∃ (r0 : Int32) (gx gm : tr_H), f_X7_critical v0 v1 hx = some (r0, gx) ∧ f_X8_critical v0 v1 hm = some (r0, gm) ∧ Rel gx gm
set_option maxHeartbeats 4000000 in
set_option maxRecDepth 100000 in
theorem lw_c11 {p : Program} {l : Launch} {e : Env} {s : State} {m : MethodId} {below : List Frame} {meth : Method} {c : Code} {b L : Nat} {xs : Nat → Int32} {w : tr_E} {adx adm : Nat → Nat} {Rel : tr_H → tr_H → Prop} (hs : sm_critical Rel) (C : tr_LC p s m c b L xs w adx adm) (x3 : Int32) (hv1 : vp_in (x3 + 1) L) (hv2 : vp_in (x3 + 2) L) (hv3 : vp_in (x3 + 3) L) (hv4 : vp_in (x3 + 4) L) (hv5 : vp_in (x3 + 5) L) (jn : ∀ hx hm, Rel hx hm → lw_W p l e s m below meth c b w adx adm 1066 x3 hx hm) : ∀ hx hm, Rel hx hm → lw_W p l e s m below meth c b w adx adm 445 x3 hx hm := by
  intro hx hm hrel H locs ls hPx hPm hS hl
  have h1 := C.1.1
  have h2 : c.code = cL_law := C.1.2.1
  have hbA : ¬ (fun q : Nat => s.heap.size ≤ q) b := Nat.not_le.mpr C.2.1.2
  refine lv_aload_n h1 h2 dL_law_445 rfl (lv_at hl 1 rfl) ?_
  refine lv_aload_n h1 h2 dL_law_446 rfl (lv_at hl 0 rfl) ?_
  refine lv_iload_n h1 h2 dL_law_447 rfl (lv_at hl 3 rfl) ?_
  refine lv_iconst (v := 1) h1 h2 dL_law_448 (by decide) ?_
  refine lv_iadd h1 h2 dL_law_449 ?_
  refine va_sld h1 h2 C.2.1.1 C.2.1.2 hbA hS hv1 dL_law_450 ?_
  refine lv_aload_n h1 h2 dL_law_451 rfl (lv_at hl 0 rfl) ?_
  refine lv_iload_n h1 h2 dL_law_452 rfl (lv_at hl 3 rfl) ?_
  refine lv_iconst (v := 2) h1 h2 dL_law_453 (by decide) ?_
  refine lv_iadd h1 h2 dL_law_454 ?_
  refine va_sld h1 h2 C.2.1.1 C.2.1.2 hbA hS hv2 dL_law_455 ?_
  obtain ⟨r0, gx, gm, hq1, hq2, hrel⟩ := hs (xs (x3 + 1).toNatClampNeg) (xs (x3 + 2).toNatClampNeg) hx hm hrel
  refine tr_lci (i := 0) (a1 := adx) (a2 := adm) (Y2 := tr_M) (g2 := hm) (As := [.int (xs (x3 + 1).toNatClampNeg), .int (xs (x3 + 2).toNatClampNeg)]) (rest := []) C.1 C.2.2.1.1 C.2.2.1.2.1 C.2.2.1.2.2 C.2.2.2.1.1 C.2.2.2.2.1.1 C.2.2.2.2.2 hPx hPm hS hl (c_X7_critical l (tr_wa w adx) (xs (x3 + 1).toNatClampNeg) (xs (x3 + 2).toNatClampNeg) hx r0 gx hq1) mz_X7_critical ml_L_62 (by decide) rfl rfl rfl rfl ⟨Nat.le_of_ble_eq_true rfl, Nat.le_of_ble_eq_true rfl⟩ rfl rfl (Nat.le_of_ble_eq_true rfl) ⟨Nat.le_of_ble_eq_true rfl, Nat.le_of_ble_eq_true rfl⟩ dL_law_456 (fun H locs hPx hPm hS => ?_)
  refine lv_aload_n h1 h2 dL_law_459 rfl (lv_at hl 2 rfl) ?_
  refine lv_aload_n h1 h2 dL_law_460 rfl (lv_at hl 0 rfl) ?_
  refine lv_iload_n h1 h2 dL_law_461 rfl (lv_at hl 3 rfl) ?_
  refine lv_iconst (v := 1) h1 h2 dL_law_462 (by decide) ?_
  refine lv_iadd h1 h2 dL_law_463 ?_
  refine va_sld h1 h2 C.2.1.1 C.2.1.2 hbA hS hv1 dL_law_464 ?_
  refine lv_aload_n h1 h2 dL_law_465 rfl (lv_at hl 0 rfl) ?_
  refine lv_iload_n h1 h2 dL_law_466 rfl (lv_at hl 3 rfl) ?_
  refine lv_iconst (v := 2) h1 h2 dL_law_467 (by decide) ?_
  refine lv_iadd h1 h2 dL_law_468 ?_
  refine va_sld h1 h2 C.2.1.1 C.2.1.2 hbA hS hv2 dL_law_469 ?_
  refine tr_lci (i := 0) (a1 := adm) (a2 := adx) (Y2 := tr_X) (g2 := gx) (As := [.int (xs (x3 + 1).toNatClampNeg), .int (xs (x3 + 2).toNatClampNeg)]) (rest := [.int r0]) C.1 C.2.2.1.1 C.2.2.1.2.1 C.2.2.1.2.2 C.2.2.2.1.2 C.2.2.2.2.1.2 (fun i j hi hj h => C.2.2.2.2.2 j i hj hi h.symm) hPm hPx hS hl (c_X8_critical l (tr_wa w adm) (xs (x3 + 1).toNatClampNeg) (xs (x3 + 2).toNatClampNeg) hm r0 gm hq2) mz_X8_critical ml_L_65 (by decide) rfl rfl rfl rfl ⟨Nat.le_of_ble_eq_true rfl, Nat.le_of_ble_eq_true rfl⟩ rfl rfl (Nat.le_of_ble_eq_true rfl) ⟨Nat.le_of_ble_eq_true rfl, Nat.le_of_ble_eq_true rfl⟩ dL_law_470 (fun H locs hPm hPx hS => ?_)
  refine lv_icmp_eq (tgt := 1066) h1 h2 dL_law_473 (by decide) (fun c9 => ?_) (fun c9 => absurd rfl c9)
  exact jn _ _ hrel H locs ls hPx hPm hS hl
theorem ml_L_66 : Cond.methodLink RL 66 yX7_departs ∈ tr_T := tr_in 431 (by decide +kernel) rfl
theorem ml_L_69 : Cond.methodLink RL 69 yX8_departs ∈ tr_T := tr_in 796 (by decide +kernel) rfl
/-- call 12: departs -/
def sm_departs (Rel : tr_H → tr_H → Prop) : Prop := ∀ (v0 : Int32) (v1 : Int32) (hx hm : tr_H), Rel hx hm → ∃ (r0 : Int32) (gx gm : tr_H), f_X7_departs v0 v1 hx = some (r0, gx) ∧ f_X8_departs v0 v1 hm = some (r0, gm) ∧ Rel gx gm
set_option maxHeartbeats 4000000 in
set_option maxRecDepth 100000 in
theorem lw_c12 {p : Program} {l : Launch} {e : Env} {s : State} {m : MethodId} {below : List Frame} {meth : Method} {c : Code} {b L : Nat} {xs : Nat → Int32} {w : tr_E} {adx adm : Nat → Nat} {Rel : tr_H → tr_H → Prop} (hs : sm_departs Rel) (C : tr_LC p s m c b L xs w adx adm) (x3 : Int32) (hv1 : vp_in (x3 + 1) L) (hv2 : vp_in (x3 + 2) L) (hv3 : vp_in (x3 + 3) L) (hv4 : vp_in (x3 + 4) L) (hv5 : vp_in (x3 + 5) L) (jn : ∀ hx hm, Rel hx hm → lw_W p l e s m below meth c b w adx adm 1066 x3 hx hm) : ∀ hx hm, Rel hx hm → lw_W p l e s m below meth c b w adx adm 478 x3 hx hm := by
  intro hx hm hrel H locs ls hPx hPm hS hl
  have h1 := C.1.1
  have h2 : c.code = cL_law := C.1.2.1
  have hbA : ¬ (fun q : Nat => s.heap.size ≤ q) b := Nat.not_le.mpr C.2.1.2
  refine lv_aload_n h1 h2 dL_law_478 rfl (lv_at hl 1 rfl) ?_
  refine lv_aload_n h1 h2 dL_law_479 rfl (lv_at hl 0 rfl) ?_
  refine lv_iload_n h1 h2 dL_law_480 rfl (lv_at hl 3 rfl) ?_
  refine lv_iconst (v := 1) h1 h2 dL_law_481 (by decide) ?_
  refine lv_iadd h1 h2 dL_law_482 ?_
  refine va_sld h1 h2 C.2.1.1 C.2.1.2 hbA hS hv1 dL_law_483 ?_
  refine lv_aload_n h1 h2 dL_law_484 rfl (lv_at hl 0 rfl) ?_
  refine lv_iload_n h1 h2 dL_law_485 rfl (lv_at hl 3 rfl) ?_
  refine lv_iconst (v := 2) h1 h2 dL_law_486 (by decide) ?_
  refine lv_iadd h1 h2 dL_law_487 ?_
  refine va_sld h1 h2 C.2.1.1 C.2.1.2 hbA hS hv2 dL_law_488 ?_
  obtain ⟨r0, gx, gm, hq1, hq2, hrel⟩ := hs (xs (x3 + 1).toNatClampNeg) (xs (x3 + 2).toNatClampNeg) hx hm hrel
  refine tr_lci (i := 0) (a1 := adx) (a2 := adm) (Y2 := tr_M) (g2 := hm) (As := [.int (xs (x3 + 1).toNatClampNeg), .int (xs (x3 + 2).toNatClampNeg)]) (rest := []) C.1 C.2.2.1.1 C.2.2.1.2.1 C.2.2.1.2.2 C.2.2.2.1.1 C.2.2.2.2.1.1 C.2.2.2.2.2 hPx hPm hS hl (c_X7_departs l (tr_wa w adx) (xs (x3 + 1).toNatClampNeg) (xs (x3 + 2).toNatClampNeg) hx r0 gx hq1) mz_X7_departs ml_L_66 (by decide) rfl rfl rfl rfl ⟨Nat.le_of_ble_eq_true rfl, Nat.le_of_ble_eq_true rfl⟩ rfl rfl (Nat.le_of_ble_eq_true rfl) ⟨Nat.le_of_ble_eq_true rfl, Nat.le_of_ble_eq_true rfl⟩ dL_law_489 (fun H locs hPx hPm hS => ?_)
  refine lv_aload_n h1 h2 dL_law_492 rfl (lv_at hl 2 rfl) ?_
  refine lv_aload_n h1 h2 dL_law_493 rfl (lv_at hl 0 rfl) ?_
  refine lv_iload_n h1 h2 dL_law_494 rfl (lv_at hl 3 rfl) ?_
  refine lv_iconst (v := 1) h1 h2 dL_law_495 (by decide) ?_
  refine lv_iadd h1 h2 dL_law_496 ?_
  refine va_sld h1 h2 C.2.1.1 C.2.1.2 hbA hS hv1 dL_law_497 ?_
  refine lv_aload_n h1 h2 dL_law_498 rfl (lv_at hl 0 rfl) ?_
  refine lv_iload_n h1 h2 dL_law_499 rfl (lv_at hl 3 rfl) ?_
  refine lv_iconst (v := 2) h1 h2 dL_law_500 (by decide) ?_
  refine lv_iadd h1 h2 dL_law_501 ?_
  refine va_sld h1 h2 C.2.1.1 C.2.1.2 hbA hS hv2 dL_law_502 ?_
  refine tr_lci (i := 0) (a1 := adm) (a2 := adx) (Y2 := tr_X) (g2 := gx) (As := [.int (xs (x3 + 1).toNatClampNeg), .int (xs (x3 + 2).toNatClampNeg)]) (rest := [.int r0]) C.1 C.2.2.1.1 C.2.2.1.2.1 C.2.2.1.2.2 C.2.2.2.1.2 C.2.2.2.2.1.2 (fun i j hi hj h => C.2.2.2.2.2 j i hj hi h.symm) hPm hPx hS hl (c_X8_departs l (tr_wa w adm) (xs (x3 + 1).toNatClampNeg) (xs (x3 + 2).toNatClampNeg) hm r0 gm hq2) mz_X8_departs ml_L_69 (by decide) rfl rfl rfl rfl ⟨Nat.le_of_ble_eq_true rfl, Nat.le_of_ble_eq_true rfl⟩ rfl rfl (Nat.le_of_ble_eq_true rfl) ⟨Nat.le_of_ble_eq_true rfl, Nat.le_of_ble_eq_true rfl⟩ dL_law_503 (fun H locs hPm hPx hS => ?_)
  refine lv_icmp_eq (tgt := 1066) h1 h2 dL_law_506 (by decide) (fun c9 => ?_) (fun c9 => absurd rfl c9)
  exact jn _ _ hrel H locs ls hPx hPm hS hl
theorem ml_L_70 : Cond.methodLink RL 70 yX7_spare ∈ tr_T := tr_in 450 (by decide +kernel) rfl
theorem ml_L_73 : Cond.methodLink RL 73 yX8_spare ∈ tr_T := tr_in 805 (by decide +kernel) rfl
/-- call 13: spare -/
def sm_spare (Rel : tr_H → tr_H → Prop) : Prop := ∀ (v0 : Int32) (v1 : Int32) (v2 : Int32) (hx hm : tr_H), Rel hx hm → ∃ (r0 : Int32) (gx gm : tr_H), f_X7_spare v0 v1 v2 hx = some (r0, gx) ∧ f_X8_spare v0 v1 v2 hm = some (r0, gm) ∧ Rel gx gm
set_option maxHeartbeats 4000000 in
set_option maxRecDepth 100000 in
theorem lw_c13 {p : Program} {l : Launch} {e : Env} {s : State} {m : MethodId} {below : List Frame} {meth : Method} {c : Code} {b L : Nat} {xs : Nat → Int32} {w : tr_E} {adx adm : Nat → Nat} {Rel : tr_H → tr_H → Prop} (hs : sm_spare Rel) (C : tr_LC p s m c b L xs w adx adm) (x3 : Int32) (hv1 : vp_in (x3 + 1) L) (hv2 : vp_in (x3 + 2) L) (hv3 : vp_in (x3 + 3) L) (hv4 : vp_in (x3 + 4) L) (hv5 : vp_in (x3 + 5) L) (jn : ∀ hx hm, Rel hx hm → lw_W p l e s m below meth c b w adx adm 1066 x3 hx hm) : ∀ hx hm, Rel hx hm → lw_W p l e s m below meth c b w adx adm 511 x3 hx hm := by
  intro hx hm hrel H locs ls hPx hPm hS hl
  have h1 := C.1.1
  have h2 : c.code = cL_law := C.1.2.1
  have hbA : ¬ (fun q : Nat => s.heap.size ≤ q) b := Nat.not_le.mpr C.2.1.2
  refine lv_aload_n h1 h2 dL_law_511 rfl (lv_at hl 1 rfl) ?_
  refine lv_aload_n h1 h2 dL_law_512 rfl (lv_at hl 0 rfl) ?_
  refine lv_iload_n h1 h2 dL_law_513 rfl (lv_at hl 3 rfl) ?_
  refine lv_iconst (v := 1) h1 h2 dL_law_514 (by decide) ?_
  refine lv_iadd h1 h2 dL_law_515 ?_
  refine va_sld h1 h2 C.2.1.1 C.2.1.2 hbA hS hv1 dL_law_516 ?_
  refine lv_aload_n h1 h2 dL_law_517 rfl (lv_at hl 0 rfl) ?_
  refine lv_iload_n h1 h2 dL_law_518 rfl (lv_at hl 3 rfl) ?_
  refine lv_iconst (v := 2) h1 h2 dL_law_519 (by decide) ?_
  refine lv_iadd h1 h2 dL_law_520 ?_
  refine va_sld h1 h2 C.2.1.1 C.2.1.2 hbA hS hv2 dL_law_521 ?_
  refine lv_aload_n h1 h2 dL_law_522 rfl (lv_at hl 0 rfl) ?_
  refine lv_iload_n h1 h2 dL_law_523 rfl (lv_at hl 3 rfl) ?_
  refine lv_iconst (v := 3) h1 h2 dL_law_524 (by decide) ?_
  refine lv_iadd h1 h2 dL_law_525 ?_
  refine va_sld h1 h2 C.2.1.1 C.2.1.2 hbA hS hv3 dL_law_526 ?_
  obtain ⟨r0, gx, gm, hq1, hq2, hrel⟩ := hs (xs (x3 + 1).toNatClampNeg) (xs (x3 + 2).toNatClampNeg) (xs (x3 + 3).toNatClampNeg) hx hm hrel
  refine tr_lci (i := 0) (a1 := adx) (a2 := adm) (Y2 := tr_M) (g2 := hm) (As := [.int (xs (x3 + 1).toNatClampNeg), .int (xs (x3 + 2).toNatClampNeg), .int (xs (x3 + 3).toNatClampNeg)]) (rest := []) C.1 C.2.2.1.1 C.2.2.1.2.1 C.2.2.1.2.2 C.2.2.2.1.1 C.2.2.2.2.1.1 C.2.2.2.2.2 hPx hPm hS hl (c_X7_spare l (tr_wa w adx) (xs (x3 + 1).toNatClampNeg) (xs (x3 + 2).toNatClampNeg) (xs (x3 + 3).toNatClampNeg) hx r0 gx hq1) mz_X7_spare ml_L_70 (by decide) rfl rfl rfl rfl ⟨Nat.le_of_ble_eq_true rfl, Nat.le_of_ble_eq_true rfl⟩ rfl rfl (Nat.le_of_ble_eq_true rfl) ⟨Nat.le_of_ble_eq_true rfl, Nat.le_of_ble_eq_true rfl⟩ dL_law_527 (fun H locs hPx hPm hS => ?_)
  refine lv_aload_n h1 h2 dL_law_530 rfl (lv_at hl 2 rfl) ?_
  refine lv_aload_n h1 h2 dL_law_531 rfl (lv_at hl 0 rfl) ?_
  refine lv_iload_n h1 h2 dL_law_532 rfl (lv_at hl 3 rfl) ?_
  refine lv_iconst (v := 1) h1 h2 dL_law_533 (by decide) ?_
  refine lv_iadd h1 h2 dL_law_534 ?_
  refine va_sld h1 h2 C.2.1.1 C.2.1.2 hbA hS hv1 dL_law_535 ?_
  refine lv_aload_n h1 h2 dL_law_536 rfl (lv_at hl 0 rfl) ?_
  refine lv_iload_n h1 h2 dL_law_537 rfl (lv_at hl 3 rfl) ?_
  refine lv_iconst (v := 2) h1 h2 dL_law_538 (by decide) ?_
  refine lv_iadd h1 h2 dL_law_539 ?_
  refine va_sld h1 h2 C.2.1.1 C.2.1.2 hbA hS hv2 dL_law_540 ?_
  refine lv_aload_n h1 h2 dL_law_541 rfl (lv_at hl 0 rfl) ?_
  refine lv_iload_n h1 h2 dL_law_542 rfl (lv_at hl 3 rfl) ?_
  refine lv_iconst (v := 3) h1 h2 dL_law_543 (by decide) ?_
  refine lv_iadd h1 h2 dL_law_544 ?_
  refine va_sld h1 h2 C.2.1.1 C.2.1.2 hbA hS hv3 dL_law_545 ?_
  refine tr_lci (i := 0) (a1 := adm) (a2 := adx) (Y2 := tr_X) (g2 := gx) (As := [.int (xs (x3 + 1).toNatClampNeg), .int (xs (x3 + 2).toNatClampNeg), .int (xs (x3 + 3).toNatClampNeg)]) (rest := [.int r0]) C.1 C.2.2.1.1 C.2.2.1.2.1 C.2.2.1.2.2 C.2.2.2.1.2 C.2.2.2.2.1.2 (fun i j hi hj h => C.2.2.2.2.2 j i hj hi h.symm) hPm hPx hS hl (c_X8_spare l (tr_wa w adm) (xs (x3 + 1).toNatClampNeg) (xs (x3 + 2).toNatClampNeg) (xs (x3 + 3).toNatClampNeg) hm r0 gm hq2) mz_X8_spare ml_L_73 (by decide) rfl rfl rfl rfl ⟨Nat.le_of_ble_eq_true rfl, Nat.le_of_ble_eq_true rfl⟩ rfl rfl (Nat.le_of_ble_eq_true rfl) ⟨Nat.le_of_ble_eq_true rfl, Nat.le_of_ble_eq_true rfl⟩ dL_law_546 (fun H locs hPm hPx hS => ?_)
  refine lv_icmp_eq (tgt := 1066) h1 h2 dL_law_549 (by decide) (fun c9 => ?_) (fun c9 => absurd rfl c9)
  exact jn _ _ hrel H locs ls hPx hPm hS hl
theorem ml_L_74 : Cond.methodLink RL 74 yX7_late ∈ tr_T := tr_in 459 (by decide +kernel) rfl
theorem ml_L_78 : Cond.methodLink RL 78 yX8_late ∈ tr_T := tr_in 813 (by decide +kernel) rfl
/-- call 14: late -/
def sm_late (Rel : tr_H → tr_H → Prop) : Prop := ∀ (v0 : Int32) (v1 : Int32) (v2 : Int32) (v3 : Int32) (v4 : Int32) (hx hm : tr_H), Rel hx hm → ∃ (r0 : Int32) (gx gm : tr_H), f_X7_late v0 v1 v2 v3 v4 hx = some (r0, gx) ∧ f_X8_late v0 v1 v2 v3 v4 hm = some (r0, gm) ∧ Rel gx gm
set_option maxHeartbeats 4000000 in
set_option maxRecDepth 100000 in
theorem lw_c14 {p : Program} {l : Launch} {e : Env} {s : State} {m : MethodId} {below : List Frame} {meth : Method} {c : Code} {b L : Nat} {xs : Nat → Int32} {w : tr_E} {adx adm : Nat → Nat} {Rel : tr_H → tr_H → Prop} (hs : sm_late Rel) (C : tr_LC p s m c b L xs w adx adm) (x3 : Int32) (hv1 : vp_in (x3 + 1) L) (hv2 : vp_in (x3 + 2) L) (hv3 : vp_in (x3 + 3) L) (hv4 : vp_in (x3 + 4) L) (hv5 : vp_in (x3 + 5) L) (jn : ∀ hx hm, Rel hx hm → lw_W p l e s m below meth c b w adx adm 1066 x3 hx hm) : ∀ hx hm, Rel hx hm → lw_W p l e s m below meth c b w adx adm 554 x3 hx hm := by
  intro hx hm hrel H locs ls hPx hPm hS hl
  have h1 := C.1.1
  have h2 : c.code = cL_law := C.1.2.1
  have hbA : ¬ (fun q : Nat => s.heap.size ≤ q) b := Nat.not_le.mpr C.2.1.2
  refine lv_aload_n h1 h2 dL_law_554 rfl (lv_at hl 1 rfl) ?_
  refine lv_aload_n h1 h2 dL_law_555 rfl (lv_at hl 0 rfl) ?_
  refine lv_iload_n h1 h2 dL_law_556 rfl (lv_at hl 3 rfl) ?_
  refine lv_iconst (v := 1) h1 h2 dL_law_557 (by decide) ?_
  refine lv_iadd h1 h2 dL_law_558 ?_
  refine va_sld h1 h2 C.2.1.1 C.2.1.2 hbA hS hv1 dL_law_559 ?_
  refine lv_aload_n h1 h2 dL_law_560 rfl (lv_at hl 0 rfl) ?_
  refine lv_iload_n h1 h2 dL_law_561 rfl (lv_at hl 3 rfl) ?_
  refine lv_iconst (v := 2) h1 h2 dL_law_562 (by decide) ?_
  refine lv_iadd h1 h2 dL_law_563 ?_
  refine va_sld h1 h2 C.2.1.1 C.2.1.2 hbA hS hv2 dL_law_564 ?_
  refine lv_aload_n h1 h2 dL_law_565 rfl (lv_at hl 0 rfl) ?_
  refine lv_iload_n h1 h2 dL_law_566 rfl (lv_at hl 3 rfl) ?_
  refine lv_iconst (v := 3) h1 h2 dL_law_567 (by decide) ?_
  refine lv_iadd h1 h2 dL_law_568 ?_
  refine va_sld h1 h2 C.2.1.1 C.2.1.2 hbA hS hv3 dL_law_569 ?_
  refine lv_aload_n h1 h2 dL_law_570 rfl (lv_at hl 0 rfl) ?_
  refine lv_iload_n h1 h2 dL_law_571 rfl (lv_at hl 3 rfl) ?_
  refine lv_iconst (v := 4) h1 h2 dL_law_572 (by decide) ?_
  refine lv_iadd h1 h2 dL_law_573 ?_
  refine va_sld h1 h2 C.2.1.1 C.2.1.2 hbA hS hv4 dL_law_574 ?_
  refine lv_aload_n h1 h2 dL_law_575 rfl (lv_at hl 0 rfl) ?_
  refine lv_iload_n h1 h2 dL_law_576 rfl (lv_at hl 3 rfl) ?_
  refine lv_iconst (v := 5) h1 h2 dL_law_577 (by decide) ?_
  refine lv_iadd h1 h2 dL_law_578 ?_
  refine va_sld h1 h2 C.2.1.1 C.2.1.2 hbA hS hv5 dL_law_579 ?_
  obtain ⟨r0, gx, gm, hq1, hq2, hrel⟩ := hs (xs (x3 + 1).toNatClampNeg) (xs (x3 + 2).toNatClampNeg) (xs (x3 + 3).toNatClampNeg) (xs (x3 + 4).toNatClampNeg) (xs (x3 + 5).toNatClampNeg) hx hm hrel
  refine tr_lci (i := 0) (a1 := adx) (a2 := adm) (Y2 := tr_M) (g2 := hm) (As := [.int (xs (x3 + 1).toNatClampNeg), .int (xs (x3 + 2).toNatClampNeg), .int (xs (x3 + 3).toNatClampNeg), .int (xs (x3 + 4).toNatClampNeg), .int (xs (x3 + 5).toNatClampNeg)]) (rest := []) C.1 C.2.2.1.1 C.2.2.1.2.1 C.2.2.1.2.2 C.2.2.2.1.1 C.2.2.2.2.1.1 C.2.2.2.2.2 hPx hPm hS hl (c_X7_late l (tr_wa w adx) (xs (x3 + 1).toNatClampNeg) (xs (x3 + 2).toNatClampNeg) (xs (x3 + 3).toNatClampNeg) (xs (x3 + 4).toNatClampNeg) (xs (x3 + 5).toNatClampNeg) hx r0 gx hq1) mz_X7_late ml_L_74 (by decide) rfl rfl rfl rfl ⟨Nat.le_of_ble_eq_true rfl, Nat.le_of_ble_eq_true rfl⟩ rfl rfl (Nat.le_of_ble_eq_true rfl) ⟨Nat.le_of_ble_eq_true rfl, Nat.le_of_ble_eq_true rfl⟩ dL_law_580 (fun H locs hPx hPm hS => ?_)
  refine lv_aload_n h1 h2 dL_law_583 rfl (lv_at hl 2 rfl) ?_
  refine lv_aload_n h1 h2 dL_law_584 rfl (lv_at hl 0 rfl) ?_
  refine lv_iload_n h1 h2 dL_law_585 rfl (lv_at hl 3 rfl) ?_
  refine lv_iconst (v := 1) h1 h2 dL_law_586 (by decide) ?_
  refine lv_iadd h1 h2 dL_law_587 ?_
  refine va_sld h1 h2 C.2.1.1 C.2.1.2 hbA hS hv1 dL_law_588 ?_
  refine lv_aload_n h1 h2 dL_law_589 rfl (lv_at hl 0 rfl) ?_
  refine lv_iload_n h1 h2 dL_law_590 rfl (lv_at hl 3 rfl) ?_
  refine lv_iconst (v := 2) h1 h2 dL_law_591 (by decide) ?_
  refine lv_iadd h1 h2 dL_law_592 ?_
  refine va_sld h1 h2 C.2.1.1 C.2.1.2 hbA hS hv2 dL_law_593 ?_
  refine lv_aload_n h1 h2 dL_law_594 rfl (lv_at hl 0 rfl) ?_
  refine lv_iload_n h1 h2 dL_law_595 rfl (lv_at hl 3 rfl) ?_
  refine lv_iconst (v := 3) h1 h2 dL_law_596 (by decide) ?_
  refine lv_iadd h1 h2 dL_law_597 ?_
  refine va_sld h1 h2 C.2.1.1 C.2.1.2 hbA hS hv3 dL_law_598 ?_
  refine lv_aload_n h1 h2 dL_law_599 rfl (lv_at hl 0 rfl) ?_
  refine lv_iload_n h1 h2 dL_law_600 rfl (lv_at hl 3 rfl) ?_
  refine lv_iconst (v := 4) h1 h2 dL_law_601 (by decide) ?_
  refine lv_iadd h1 h2 dL_law_602 ?_
  refine va_sld h1 h2 C.2.1.1 C.2.1.2 hbA hS hv4 dL_law_603 ?_
  refine lv_aload_n h1 h2 dL_law_604 rfl (lv_at hl 0 rfl) ?_
  refine lv_iload_n h1 h2 dL_law_605 rfl (lv_at hl 3 rfl) ?_
  refine lv_iconst (v := 5) h1 h2 dL_law_606 (by decide) ?_
  refine lv_iadd h1 h2 dL_law_607 ?_
  refine va_sld h1 h2 C.2.1.1 C.2.1.2 hbA hS hv5 dL_law_608 ?_
  refine tr_lci (i := 0) (a1 := adm) (a2 := adx) (Y2 := tr_X) (g2 := gx) (As := [.int (xs (x3 + 1).toNatClampNeg), .int (xs (x3 + 2).toNatClampNeg), .int (xs (x3 + 3).toNatClampNeg), .int (xs (x3 + 4).toNatClampNeg), .int (xs (x3 + 5).toNatClampNeg)]) (rest := [.int r0]) C.1 C.2.2.1.1 C.2.2.1.2.1 C.2.2.1.2.2 C.2.2.2.1.2 C.2.2.2.2.1.2 (fun i j hi hj h => C.2.2.2.2.2 j i hj hi h.symm) hPm hPx hS hl (c_X8_late l (tr_wa w adm) (xs (x3 + 1).toNatClampNeg) (xs (x3 + 2).toNatClampNeg) (xs (x3 + 3).toNatClampNeg) (xs (x3 + 4).toNatClampNeg) (xs (x3 + 5).toNatClampNeg) hm r0 gm hq2) mz_X8_late ml_L_78 (by decide) rfl rfl rfl rfl ⟨Nat.le_of_ble_eq_true rfl, Nat.le_of_ble_eq_true rfl⟩ rfl rfl (Nat.le_of_ble_eq_true rfl) ⟨Nat.le_of_ble_eq_true rfl, Nat.le_of_ble_eq_true rfl⟩ dL_law_609 (fun H locs hPm hPx hS => ?_)
  refine lv_icmp_eq (tgt := 1066) h1 h2 dL_law_612 (by decide) (fun c9 => ?_) (fun c9 => absurd rfl c9)
  exact jn _ _ hrel H locs ls hPx hPm hS hl
theorem ml_L_79 : Cond.methodLink RL 79 yX7_dies ∈ tr_T := tr_in 478 (by decide +kernel) rfl
theorem ml_L_82 : Cond.methodLink RL 82 yX8_dies ∈ tr_T := tr_in 827 (by decide +kernel) rfl
/-- call 15: dies -/
def sm_dies (Rel : tr_H → tr_H → Prop) : Prop := ∀ (v0 : Int32) (v1 : Int32) (v2 : Int32) (hx hm : tr_H), Rel hx hm → ∃ (r0 : Int32) (gx gm : tr_H), f_X7_dies v0 v1 v2 hx = some (r0, gx) ∧ f_X8_dies v0 v1 v2 hm = some (r0, gm) ∧ Rel gx gm
set_option maxHeartbeats 4000000 in
set_option maxRecDepth 100000 in
theorem lw_c15 {p : Program} {l : Launch} {e : Env} {s : State} {m : MethodId} {below : List Frame} {meth : Method} {c : Code} {b L : Nat} {xs : Nat → Int32} {w : tr_E} {adx adm : Nat → Nat} {Rel : tr_H → tr_H → Prop} (hs : sm_dies Rel) (C : tr_LC p s m c b L xs w adx adm) (x3 : Int32) (hv1 : vp_in (x3 + 1) L) (hv2 : vp_in (x3 + 2) L) (hv3 : vp_in (x3 + 3) L) (hv4 : vp_in (x3 + 4) L) (hv5 : vp_in (x3 + 5) L) (jn : ∀ hx hm, Rel hx hm → lw_W p l e s m below meth c b w adx adm 1066 x3 hx hm) : ∀ hx hm, Rel hx hm → lw_W p l e s m below meth c b w adx adm 617 x3 hx hm := by
  intro hx hm hrel H locs ls hPx hPm hS hl
  have h1 := C.1.1
  have h2 : c.code = cL_law := C.1.2.1
  have hbA : ¬ (fun q : Nat => s.heap.size ≤ q) b := Nat.not_le.mpr C.2.1.2
  refine lv_aload_n h1 h2 dL_law_617 rfl (lv_at hl 1 rfl) ?_
  refine lv_aload_n h1 h2 dL_law_618 rfl (lv_at hl 0 rfl) ?_
  refine lv_iload_n h1 h2 dL_law_619 rfl (lv_at hl 3 rfl) ?_
  refine lv_iconst (v := 1) h1 h2 dL_law_620 (by decide) ?_
  refine lv_iadd h1 h2 dL_law_621 ?_
  refine va_sld h1 h2 C.2.1.1 C.2.1.2 hbA hS hv1 dL_law_622 ?_
  refine lv_aload_n h1 h2 dL_law_623 rfl (lv_at hl 0 rfl) ?_
  refine lv_iload_n h1 h2 dL_law_624 rfl (lv_at hl 3 rfl) ?_
  refine lv_iconst (v := 2) h1 h2 dL_law_625 (by decide) ?_
  refine lv_iadd h1 h2 dL_law_626 ?_
  refine va_sld h1 h2 C.2.1.1 C.2.1.2 hbA hS hv2 dL_law_627 ?_
  refine lv_aload_n h1 h2 dL_law_628 rfl (lv_at hl 0 rfl) ?_
  refine lv_iload_n h1 h2 dL_law_629 rfl (lv_at hl 3 rfl) ?_
  refine lv_iconst (v := 3) h1 h2 dL_law_630 (by decide) ?_
  refine lv_iadd h1 h2 dL_law_631 ?_
  refine va_sld h1 h2 C.2.1.1 C.2.1.2 hbA hS hv3 dL_law_632 ?_
  obtain ⟨r0, gx, gm, hq1, hq2, hrel⟩ := hs (xs (x3 + 1).toNatClampNeg) (xs (x3 + 2).toNatClampNeg) (xs (x3 + 3).toNatClampNeg) hx hm hrel
  refine tr_lci (i := 0) (a1 := adx) (a2 := adm) (Y2 := tr_M) (g2 := hm) (As := [.int (xs (x3 + 1).toNatClampNeg), .int (xs (x3 + 2).toNatClampNeg), .int (xs (x3 + 3).toNatClampNeg)]) (rest := []) C.1 C.2.2.1.1 C.2.2.1.2.1 C.2.2.1.2.2 C.2.2.2.1.1 C.2.2.2.2.1.1 C.2.2.2.2.2 hPx hPm hS hl (c_X7_dies l (tr_wa w adx) (xs (x3 + 1).toNatClampNeg) (xs (x3 + 2).toNatClampNeg) (xs (x3 + 3).toNatClampNeg) hx r0 gx hq1) mz_X7_dies ml_L_79 (by decide) rfl rfl rfl rfl ⟨Nat.le_of_ble_eq_true rfl, Nat.le_of_ble_eq_true rfl⟩ rfl rfl (Nat.le_of_ble_eq_true rfl) ⟨Nat.le_of_ble_eq_true rfl, Nat.le_of_ble_eq_true rfl⟩ dL_law_633 (fun H locs hPx hPm hS => ?_)
  refine lv_aload_n h1 h2 dL_law_636 rfl (lv_at hl 2 rfl) ?_
  refine lv_aload_n h1 h2 dL_law_637 rfl (lv_at hl 0 rfl) ?_
  refine lv_iload_n h1 h2 dL_law_638 rfl (lv_at hl 3 rfl) ?_
  refine lv_iconst (v := 1) h1 h2 dL_law_639 (by decide) ?_
  refine lv_iadd h1 h2 dL_law_640 ?_
  refine va_sld h1 h2 C.2.1.1 C.2.1.2 hbA hS hv1 dL_law_641 ?_
  refine lv_aload_n h1 h2 dL_law_642 rfl (lv_at hl 0 rfl) ?_
  refine lv_iload_n h1 h2 dL_law_643 rfl (lv_at hl 3 rfl) ?_
  refine lv_iconst (v := 2) h1 h2 dL_law_644 (by decide) ?_
  refine lv_iadd h1 h2 dL_law_645 ?_
  refine va_sld h1 h2 C.2.1.1 C.2.1.2 hbA hS hv2 dL_law_646 ?_
  refine lv_aload_n h1 h2 dL_law_647 rfl (lv_at hl 0 rfl) ?_
  refine lv_iload_n h1 h2 dL_law_648 rfl (lv_at hl 3 rfl) ?_
  refine lv_iconst (v := 3) h1 h2 dL_law_649 (by decide) ?_
  refine lv_iadd h1 h2 dL_law_650 ?_
  refine va_sld h1 h2 C.2.1.1 C.2.1.2 hbA hS hv3 dL_law_651 ?_
  refine tr_lci (i := 0) (a1 := adm) (a2 := adx) (Y2 := tr_X) (g2 := gx) (As := [.int (xs (x3 + 1).toNatClampNeg), .int (xs (x3 + 2).toNatClampNeg), .int (xs (x3 + 3).toNatClampNeg)]) (rest := [.int r0]) C.1 C.2.2.1.1 C.2.2.1.2.1 C.2.2.1.2.2 C.2.2.2.1.2 C.2.2.2.2.1.2 (fun i j hi hj h => C.2.2.2.2.2 j i hj hi h.symm) hPm hPx hS hl (c_X8_dies l (tr_wa w adm) (xs (x3 + 1).toNatClampNeg) (xs (x3 + 2).toNatClampNeg) (xs (x3 + 3).toNatClampNeg) hm r0 gm hq2) mz_X8_dies ml_L_82 (by decide) rfl rfl rfl rfl ⟨Nat.le_of_ble_eq_true rfl, Nat.le_of_ble_eq_true rfl⟩ rfl rfl (Nat.le_of_ble_eq_true rfl) ⟨Nat.le_of_ble_eq_true rfl, Nat.le_of_ble_eq_true rfl⟩ dL_law_652 (fun H locs hPm hPx hS => ?_)
  refine lv_icmp_eq (tgt := 1066) h1 h2 dL_law_655 (by decide) (fun c9 => ?_) (fun c9 => absurd rfl c9)
  exact jn _ _ hrel H locs ls hPx hPm hS hl
theorem ml_L_83 : Cond.methodLink RL 83 yX7_best ∈ tr_T := tr_in 491 (by decide +kernel) rfl
theorem ml_L_86 : Cond.methodLink RL 86 yX8_best ∈ tr_T := tr_in 835 (by decide +kernel) rfl
/-- call 16: best -/
def sm_best (Rel : tr_H → tr_H → Prop) : Prop := ∀ (v0 : Int32) (hx hm : tr_H), Rel hx hm → ∃ (r0 : Int32) (gx gm : tr_H), f_X7_best v0 hx = some (r0, gx) ∧ f_X8_best v0 hm = some (r0, gm) ∧ Rel gx gm
set_option maxHeartbeats 4000000 in
set_option maxRecDepth 100000 in
theorem lw_c16 {p : Program} {l : Launch} {e : Env} {s : State} {m : MethodId} {below : List Frame} {meth : Method} {c : Code} {b L : Nat} {xs : Nat → Int32} {w : tr_E} {adx adm : Nat → Nat} {Rel : tr_H → tr_H → Prop} (hs : sm_best Rel) (C : tr_LC p s m c b L xs w adx adm) (x3 : Int32) (hv1 : vp_in (x3 + 1) L) (hv2 : vp_in (x3 + 2) L) (hv3 : vp_in (x3 + 3) L) (hv4 : vp_in (x3 + 4) L) (hv5 : vp_in (x3 + 5) L) (jn : ∀ hx hm, Rel hx hm → lw_W p l e s m below meth c b w adx adm 1066 x3 hx hm) : ∀ hx hm, Rel hx hm → lw_W p l e s m below meth c b w adx adm 660 x3 hx hm := by
  intro hx hm hrel H locs ls hPx hPm hS hl
  have h1 := C.1.1
  have h2 : c.code = cL_law := C.1.2.1
  have hbA : ¬ (fun q : Nat => s.heap.size ≤ q) b := Nat.not_le.mpr C.2.1.2
  refine lv_aload_n h1 h2 dL_law_660 rfl (lv_at hl 1 rfl) ?_
  refine lv_aload_n h1 h2 dL_law_661 rfl (lv_at hl 0 rfl) ?_
  refine lv_iload_n h1 h2 dL_law_662 rfl (lv_at hl 3 rfl) ?_
  refine lv_iconst (v := 1) h1 h2 dL_law_663 (by decide) ?_
  refine lv_iadd h1 h2 dL_law_664 ?_
  refine va_sld h1 h2 C.2.1.1 C.2.1.2 hbA hS hv1 dL_law_665 ?_
  obtain ⟨r0, gx, gm, hq1, hq2, hrel⟩ := hs (xs (x3 + 1).toNatClampNeg) hx hm hrel
  refine tr_lci (i := 0) (a1 := adx) (a2 := adm) (Y2 := tr_M) (g2 := hm) (As := [.int (xs (x3 + 1).toNatClampNeg)]) (rest := []) C.1 C.2.2.1.1 C.2.2.1.2.1 C.2.2.1.2.2 C.2.2.2.1.1 C.2.2.2.2.1.1 C.2.2.2.2.2 hPx hPm hS hl (c_X7_best l (tr_wa w adx) (xs (x3 + 1).toNatClampNeg) hx r0 gx hq1) mz_X7_best ml_L_83 (by decide) rfl rfl rfl rfl ⟨Nat.le_of_ble_eq_true rfl, Nat.le_of_ble_eq_true rfl⟩ rfl rfl (Nat.le_of_ble_eq_true rfl) ⟨Nat.le_of_ble_eq_true rfl, Nat.le_of_ble_eq_true rfl⟩ dL_law_666 (fun H locs hPx hPm hS => ?_)
  refine lv_aload_n h1 h2 dL_law_669 rfl (lv_at hl 2 rfl) ?_
  refine lv_aload_n h1 h2 dL_law_670 rfl (lv_at hl 0 rfl) ?_
  refine lv_iload_n h1 h2 dL_law_671 rfl (lv_at hl 3 rfl) ?_
  refine lv_iconst (v := 1) h1 h2 dL_law_672 (by decide) ?_
  refine lv_iadd h1 h2 dL_law_673 ?_
  refine va_sld h1 h2 C.2.1.1 C.2.1.2 hbA hS hv1 dL_law_674 ?_
  refine tr_lci (i := 0) (a1 := adm) (a2 := adx) (Y2 := tr_X) (g2 := gx) (As := [.int (xs (x3 + 1).toNatClampNeg)]) (rest := [.int r0]) C.1 C.2.2.1.1 C.2.2.1.2.1 C.2.2.1.2.2 C.2.2.2.1.2 C.2.2.2.2.1.2 (fun i j hi hj h => C.2.2.2.2.2 j i hj hi h.symm) hPm hPx hS hl (c_X8_best l (tr_wa w adm) (xs (x3 + 1).toNatClampNeg) hm r0 gm hq2) mz_X8_best ml_L_86 (by decide) rfl rfl rfl rfl ⟨Nat.le_of_ble_eq_true rfl, Nat.le_of_ble_eq_true rfl⟩ rfl rfl (Nat.le_of_ble_eq_true rfl) ⟨Nat.le_of_ble_eq_true rfl, Nat.le_of_ble_eq_true rfl⟩ dL_law_675 (fun H locs hPm hPx hS => ?_)
  refine lv_icmp_eq (tgt := 1066) h1 h2 dL_law_678 (by decide) (fun c9 => ?_) (fun c9 => absurd rfl c9)
  exact jn _ _ hrel H locs ls hPx hPm hS hl
theorem ml_L_89 : Cond.methodLink RL 89 yX7_judge ∈ tr_T := tr_in 496 (by decide +kernel) rfl
theorem ml_L_93 : Cond.methodLink RL 93 yX8_judge ∈ tr_T := tr_in 847 (by decide +kernel) rfl
/-- call 17: judge -/
def sm_judge (Rel : tr_H → tr_H → Prop) : Prop := ∀ (v0 : Int32) (v1 : Int64) (hx hm : tr_H), Rel hx hm → ∃ (r0 : Int32) (gx gm : tr_H), f_X7_judge v0 v1 hx = some (r0, gx) ∧ f_X8_judge v0 v1 hm = some (r0, gm) ∧ Rel gx gm
set_option maxHeartbeats 4000000 in
set_option maxRecDepth 100000 in
theorem lw_c17 {p : Program} {l : Launch} {e : Env} {s : State} {m : MethodId} {below : List Frame} {meth : Method} {c : Code} {b L : Nat} {xs : Nat → Int32} {w : tr_E} {adx adm : Nat → Nat} {Rel : tr_H → tr_H → Prop} (hs : sm_judge Rel) (C : tr_LC p s m c b L xs w adx adm) (x3 : Int32) (hv1 : vp_in (x3 + 1) L) (hv2 : vp_in (x3 + 2) L) (hv3 : vp_in (x3 + 3) L) (hv4 : vp_in (x3 + 4) L) (hv5 : vp_in (x3 + 5) L) (jn : ∀ hx hm, Rel hx hm → lw_W p l e s m below meth c b w adx adm 1066 x3 hx hm) : ∀ hx hm, Rel hx hm → lw_W p l e s m below meth c b w adx adm 683 x3 hx hm := by
  intro hx hm hrel H locs ls hPx hPm hS hl
  have h1 := C.1.1
  have h2 : c.code = cL_law := C.1.2.1
  have hbA : ¬ (fun q : Nat => s.heap.size ≤ q) b := Nat.not_le.mpr C.2.1.2
  refine lv_aload_n h1 h2 dL_law_683 rfl (lv_at hl 1 rfl) ?_
  refine lv_aload_n h1 h2 dL_law_684 rfl (lv_at hl 0 rfl) ?_
  refine lv_iload_n h1 h2 dL_law_685 rfl (lv_at hl 3 rfl) ?_
  refine lv_iconst (v := 1) h1 h2 dL_law_686 (by decide) ?_
  refine lv_iadd h1 h2 dL_law_687 ?_
  refine va_sld h1 h2 C.2.1.1 C.2.1.2 hbA hS hv1 dL_law_688 ?_
  refine lv_aload_n h1 h2 dL_law_689 rfl (lv_at hl 0 rfl) ?_
  refine lv_iload_n h1 h2 dL_law_690 rfl (lv_at hl 3 rfl) ?_
  refine lv_iconst (v := 2) h1 h2 dL_law_691 (by decide) ?_
  refine lv_iadd h1 h2 dL_law_692 ?_
  refine va_sld h1 h2 C.2.1.1 C.2.1.2 hbA hS hv2 dL_law_693 ?_
  refine lv_i2l h1 h2 dL_law_694 rfl ?_
  refine lv_bipush (v := 32) h1 h2 dL_law_695 (by decide) ?_
  refine lv_lshl h1 h2 dL_law_697 rfl ?_
  refine lv_aload_n h1 h2 dL_law_698 rfl (lv_at hl 0 rfl) ?_
  refine lv_iload_n h1 h2 dL_law_699 rfl (lv_at hl 3 rfl) ?_
  refine lv_iconst (v := 3) h1 h2 dL_law_700 (by decide) ?_
  refine lv_iadd h1 h2 dL_law_701 ?_
  refine va_sld h1 h2 C.2.1.1 C.2.1.2 hbA hS hv3 dL_law_702 ?_
  refine lv_i2l h1 h2 dL_law_703 rfl ?_
  refine lv_ldc2 (v := 4294967295) h1 h2 C.1.2.2.2.1 (C.1.2.2.2.2 _ mc_L_87) dL_law_704 ?_
  refine lv_land h1 h2 dL_law_707 ?_
  refine lv_lor h1 h2 dL_law_708 ?_
  obtain ⟨r0, gx, gm, hq1, hq2, hrel⟩ := hs (xs (x3 + 1).toNatClampNeg) (((xs (x3 + 2).toNatClampNeg).toInt64 <<< ((32 : Int32).toInt64 &&& 63)) ||| (((xs (x3 + 3).toNatClampNeg).toInt64) &&& (4294967295))) hx hm hrel
  refine tr_lci (i := 0) (a1 := adx) (a2 := adm) (Y2 := tr_M) (g2 := hm) (As := [.int (xs (x3 + 1).toNatClampNeg), .long (((xs (x3 + 2).toNatClampNeg).toInt64 <<< ((32 : Int32).toInt64 &&& 63)) ||| (((xs (x3 + 3).toNatClampNeg).toInt64) &&& (4294967295)))]) (rest := []) C.1 C.2.2.1.1 C.2.2.1.2.1 C.2.2.1.2.2 C.2.2.2.1.1 C.2.2.2.2.1.1 C.2.2.2.2.2 hPx hPm hS hl (c_X7_judge l (tr_wa w adx) (xs (x3 + 1).toNatClampNeg) (((xs (x3 + 2).toNatClampNeg).toInt64 <<< ((32 : Int32).toInt64 &&& 63)) ||| (((xs (x3 + 3).toNatClampNeg).toInt64) &&& (4294967295))) hx r0 gx hq1) mz_X7_judge ml_L_89 (by decide) rfl rfl rfl rfl ⟨Nat.le_of_ble_eq_true rfl, Nat.le_of_ble_eq_true rfl⟩ rfl rfl (Nat.le_of_ble_eq_true rfl) ⟨Nat.le_of_ble_eq_true rfl, Nat.le_of_ble_eq_true rfl⟩ dL_law_709 (fun H locs hPx hPm hS => ?_)
  refine lv_aload_n h1 h2 dL_law_712 rfl (lv_at hl 2 rfl) ?_
  refine lv_aload_n h1 h2 dL_law_713 rfl (lv_at hl 0 rfl) ?_
  refine lv_iload_n h1 h2 dL_law_714 rfl (lv_at hl 3 rfl) ?_
  refine lv_iconst (v := 1) h1 h2 dL_law_715 (by decide) ?_
  refine lv_iadd h1 h2 dL_law_716 ?_
  refine va_sld h1 h2 C.2.1.1 C.2.1.2 hbA hS hv1 dL_law_717 ?_
  refine lv_aload_n h1 h2 dL_law_718 rfl (lv_at hl 0 rfl) ?_
  refine lv_iload_n h1 h2 dL_law_719 rfl (lv_at hl 3 rfl) ?_
  refine lv_iconst (v := 2) h1 h2 dL_law_720 (by decide) ?_
  refine lv_iadd h1 h2 dL_law_721 ?_
  refine va_sld h1 h2 C.2.1.1 C.2.1.2 hbA hS hv2 dL_law_722 ?_
  refine lv_i2l h1 h2 dL_law_723 rfl ?_
  refine lv_bipush (v := 32) h1 h2 dL_law_724 (by decide) ?_
  refine lv_lshl h1 h2 dL_law_726 rfl ?_
  refine lv_aload_n h1 h2 dL_law_727 rfl (lv_at hl 0 rfl) ?_
  refine lv_iload_n h1 h2 dL_law_728 rfl (lv_at hl 3 rfl) ?_
  refine lv_iconst (v := 3) h1 h2 dL_law_729 (by decide) ?_
  refine lv_iadd h1 h2 dL_law_730 ?_
  refine va_sld h1 h2 C.2.1.1 C.2.1.2 hbA hS hv3 dL_law_731 ?_
  refine lv_i2l h1 h2 dL_law_732 rfl ?_
  refine lv_ldc2 (v := 4294967295) h1 h2 C.1.2.2.2.1 (C.1.2.2.2.2 _ mc_L_87) dL_law_733 ?_
  refine lv_land h1 h2 dL_law_736 ?_
  refine lv_lor h1 h2 dL_law_737 ?_
  refine tr_lci (i := 0) (a1 := adm) (a2 := adx) (Y2 := tr_X) (g2 := gx) (As := [.int (xs (x3 + 1).toNatClampNeg), .long (((xs (x3 + 2).toNatClampNeg).toInt64 <<< ((32 : Int32).toInt64 &&& 63)) ||| (((xs (x3 + 3).toNatClampNeg).toInt64) &&& (4294967295)))]) (rest := [.int r0]) C.1 C.2.2.1.1 C.2.2.1.2.1 C.2.2.1.2.2 C.2.2.2.1.2 C.2.2.2.2.1.2 (fun i j hi hj h => C.2.2.2.2.2 j i hj hi h.symm) hPm hPx hS hl (c_X8_judge l (tr_wa w adm) (xs (x3 + 1).toNatClampNeg) (((xs (x3 + 2).toNatClampNeg).toInt64 <<< ((32 : Int32).toInt64 &&& 63)) ||| (((xs (x3 + 3).toNatClampNeg).toInt64) &&& (4294967295))) hm r0 gm hq2) mz_X8_judge ml_L_93 (by decide) rfl rfl rfl rfl ⟨Nat.le_of_ble_eq_true rfl, Nat.le_of_ble_eq_true rfl⟩ rfl rfl (Nat.le_of_ble_eq_true rfl) ⟨Nat.le_of_ble_eq_true rfl, Nat.le_of_ble_eq_true rfl⟩ dL_law_738 (fun H locs hPm hPx hS => ?_)
  refine lv_icmp_eq (tgt := 1066) h1 h2 dL_law_741 (by decide) (fun c9 => ?_) (fun c9 => absurd rfl c9)
  exact jn _ _ hrel H locs ls hPx hPm hS hl
theorem ml_L_94 : Cond.methodLink RL 94 yX7_share ∈ tr_T := tr_in 518 (by decide +kernel) rfl
theorem ml_L_98 : Cond.methodLink RL 98 yX8_share ∈ tr_T := tr_in 872 (by decide +kernel) rfl
/-- call 18: share -/
def sm_share (Rel : tr_H → tr_H → Prop) : Prop := ∀ (v0 : Int32) (v1 : Int32) (hx hm : tr_H), Rel hx hm → ∃ (r0 : Int32) (gx gm : tr_H), f_X7_share v0 v1 hx = some (r0, gx) ∧ f_X8_share v0 v1 hm = some (r0, gm) ∧ Rel gx gm
set_option maxHeartbeats 4000000 in
set_option maxRecDepth 100000 in
theorem lw_c18 {p : Program} {l : Launch} {e : Env} {s : State} {m : MethodId} {below : List Frame} {meth : Method} {c : Code} {b L : Nat} {xs : Nat → Int32} {w : tr_E} {adx adm : Nat → Nat} {Rel : tr_H → tr_H → Prop} (hs : sm_share Rel) (C : tr_LC p s m c b L xs w adx adm) (x3 : Int32) (hv1 : vp_in (x3 + 1) L) (hv2 : vp_in (x3 + 2) L) (hv3 : vp_in (x3 + 3) L) (hv4 : vp_in (x3 + 4) L) (hv5 : vp_in (x3 + 5) L) (jn : ∀ hx hm, Rel hx hm → lw_W p l e s m below meth c b w adx adm 1066 x3 hx hm) : ∀ hx hm, Rel hx hm → lw_W p l e s m below meth c b w adx adm 746 x3 hx hm := by
  intro hx hm hrel H locs ls hPx hPm hS hl
  have h1 := C.1.1
  have h2 : c.code = cL_law := C.1.2.1
  have hbA : ¬ (fun q : Nat => s.heap.size ≤ q) b := Nat.not_le.mpr C.2.1.2
  refine lv_aload_n h1 h2 dL_law_746 rfl (lv_at hl 1 rfl) ?_
  refine lv_aload_n h1 h2 dL_law_747 rfl (lv_at hl 0 rfl) ?_
  refine lv_iload_n h1 h2 dL_law_748 rfl (lv_at hl 3 rfl) ?_
  refine lv_iconst (v := 1) h1 h2 dL_law_749 (by decide) ?_
  refine lv_iadd h1 h2 dL_law_750 ?_
  refine va_sld h1 h2 C.2.1.1 C.2.1.2 hbA hS hv1 dL_law_751 ?_
  refine lv_aload_n h1 h2 dL_law_752 rfl (lv_at hl 0 rfl) ?_
  refine lv_iload_n h1 h2 dL_law_753 rfl (lv_at hl 3 rfl) ?_
  refine lv_iconst (v := 2) h1 h2 dL_law_754 (by decide) ?_
  refine lv_iadd h1 h2 dL_law_755 ?_
  refine va_sld h1 h2 C.2.1.1 C.2.1.2 hbA hS hv2 dL_law_756 ?_
  refine lv_if_eq (tgt := 764) h1 h2 dL_law_757 (by decide) (fun cb0 => ?_) (fun cb0 => ?_)
  · refine lv_iconst (v := 0) h1 h2 dL_law_764 (by decide) ?_
    obtain ⟨r0, gx, gm, hq1, hq2, hrel⟩ := hs (xs (x3 + 1).toNatClampNeg) (0) hx hm hrel
    refine tr_lci (i := 0) (a1 := adx) (a2 := adm) (Y2 := tr_M) (g2 := hm) (As := [.int (xs (x3 + 1).toNatClampNeg), .int 0]) (rest := []) C.1 C.2.2.1.1 C.2.2.1.2.1 C.2.2.1.2.2 C.2.2.2.1.1 C.2.2.2.2.1.1 C.2.2.2.2.2 hPx hPm hS hl (c_X7_share l (tr_wa w adx) (xs (x3 + 1).toNatClampNeg) (0) hx r0 gx hq1) mz_X7_share ml_L_94 (by decide) rfl rfl rfl rfl ⟨Nat.le_of_ble_eq_true rfl, Nat.le_of_ble_eq_true rfl⟩ rfl rfl (Nat.le_of_ble_eq_true rfl) ⟨Nat.le_of_ble_eq_true rfl, Nat.le_of_ble_eq_true rfl⟩ dL_law_765 (fun H locs hPx hPm hS => ?_)
    refine lv_aload_n h1 h2 dL_law_768 rfl (lv_at hl 2 rfl) ?_
    refine lv_aload_n h1 h2 dL_law_769 rfl (lv_at hl 0 rfl) ?_
    refine lv_iload_n h1 h2 dL_law_770 rfl (lv_at hl 3 rfl) ?_
    refine lv_iconst (v := 1) h1 h2 dL_law_771 (by decide) ?_
    refine lv_iadd h1 h2 dL_law_772 ?_
    refine va_sld h1 h2 C.2.1.1 C.2.1.2 hbA hS hv1 dL_law_773 ?_
    refine lv_aload_n h1 h2 dL_law_774 rfl (lv_at hl 0 rfl) ?_
    refine lv_iload_n h1 h2 dL_law_775 rfl (lv_at hl 3 rfl) ?_
    refine lv_iconst (v := 2) h1 h2 dL_law_776 (by decide) ?_
    refine lv_iadd h1 h2 dL_law_777 ?_
    refine va_sld h1 h2 C.2.1.1 C.2.1.2 hbA hS hv2 dL_law_778 ?_
    refine lv_if_eq (tgt := 786) h1 h2 dL_law_779 (by decide) (fun c9 => ?_) (fun c9 => ?_)
    · refine lv_iconst (v := 0) h1 h2 dL_law_786 (by decide) ?_
      refine tr_lci (i := 0) (a1 := adm) (a2 := adx) (Y2 := tr_X) (g2 := gx) (As := [.int (xs (x3 + 1).toNatClampNeg), .int 0]) (rest := [.int r0]) C.1 C.2.2.1.1 C.2.2.1.2.1 C.2.2.1.2.2 C.2.2.2.1.2 C.2.2.2.2.1.2 (fun i j hi hj h => C.2.2.2.2.2 j i hj hi h.symm) hPm hPx hS hl (c_X8_share l (tr_wa w adm) (xs (x3 + 1).toNatClampNeg) (0) hm r0 gm hq2) mz_X8_share ml_L_98 (by decide) rfl rfl rfl rfl ⟨Nat.le_of_ble_eq_true rfl, Nat.le_of_ble_eq_true rfl⟩ rfl rfl (Nat.le_of_ble_eq_true rfl) ⟨Nat.le_of_ble_eq_true rfl, Nat.le_of_ble_eq_true rfl⟩ dL_law_787 (fun H locs hPm hPx hS => ?_)
      refine lv_icmp_eq (tgt := 1066) h1 h2 dL_law_790 (by decide) (fun c9 => ?_) (fun c9 => absurd rfl c9)
      exact jn _ _ hrel H locs ls hPx hPm hS hl
    · exact absurd cb0 c9
  · refine lv_iconst (v := 1) h1 h2 dL_law_760 (by decide) ?_
    refine lv_goto (tgt := 765) h1 h2 dL_law_761 (by decide) ?_
    obtain ⟨r0, gx, gm, hq1, hq2, hrel⟩ := hs (xs (x3 + 1).toNatClampNeg) (1) hx hm hrel
    refine tr_lci (i := 0) (a1 := adx) (a2 := adm) (Y2 := tr_M) (g2 := hm) (As := [.int (xs (x3 + 1).toNatClampNeg), .int 1]) (rest := []) C.1 C.2.2.1.1 C.2.2.1.2.1 C.2.2.1.2.2 C.2.2.2.1.1 C.2.2.2.2.1.1 C.2.2.2.2.2 hPx hPm hS hl (c_X7_share l (tr_wa w adx) (xs (x3 + 1).toNatClampNeg) (1) hx r0 gx hq1) mz_X7_share ml_L_94 (by decide) rfl rfl rfl rfl ⟨Nat.le_of_ble_eq_true rfl, Nat.le_of_ble_eq_true rfl⟩ rfl rfl (Nat.le_of_ble_eq_true rfl) ⟨Nat.le_of_ble_eq_true rfl, Nat.le_of_ble_eq_true rfl⟩ dL_law_765 (fun H locs hPx hPm hS => ?_)
    refine lv_aload_n h1 h2 dL_law_768 rfl (lv_at hl 2 rfl) ?_
    refine lv_aload_n h1 h2 dL_law_769 rfl (lv_at hl 0 rfl) ?_
    refine lv_iload_n h1 h2 dL_law_770 rfl (lv_at hl 3 rfl) ?_
    refine lv_iconst (v := 1) h1 h2 dL_law_771 (by decide) ?_
    refine lv_iadd h1 h2 dL_law_772 ?_
    refine va_sld h1 h2 C.2.1.1 C.2.1.2 hbA hS hv1 dL_law_773 ?_
    refine lv_aload_n h1 h2 dL_law_774 rfl (lv_at hl 0 rfl) ?_
    refine lv_iload_n h1 h2 dL_law_775 rfl (lv_at hl 3 rfl) ?_
    refine lv_iconst (v := 2) h1 h2 dL_law_776 (by decide) ?_
    refine lv_iadd h1 h2 dL_law_777 ?_
    refine va_sld h1 h2 C.2.1.1 C.2.1.2 hbA hS hv2 dL_law_778 ?_
    refine lv_if_eq (tgt := 786) h1 h2 dL_law_779 (by decide) (fun c9 => ?_) (fun c9 => ?_)
    · exact absurd c9 cb0
    · refine lv_iconst (v := 1) h1 h2 dL_law_782 (by decide) ?_
      refine lv_goto (tgt := 787) h1 h2 dL_law_783 (by decide) ?_
      refine tr_lci (i := 0) (a1 := adm) (a2 := adx) (Y2 := tr_X) (g2 := gx) (As := [.int (xs (x3 + 1).toNatClampNeg), .int 1]) (rest := [.int r0]) C.1 C.2.2.1.1 C.2.2.1.2.1 C.2.2.1.2.2 C.2.2.2.1.2 C.2.2.2.2.1.2 (fun i j hi hj h => C.2.2.2.2.2 j i hj hi h.symm) hPm hPx hS hl (c_X8_share l (tr_wa w adm) (xs (x3 + 1).toNatClampNeg) (1) hm r0 gm hq2) mz_X8_share ml_L_98 (by decide) rfl rfl rfl rfl ⟨Nat.le_of_ble_eq_true rfl, Nat.le_of_ble_eq_true rfl⟩ rfl rfl (Nat.le_of_ble_eq_true rfl) ⟨Nat.le_of_ble_eq_true rfl, Nat.le_of_ble_eq_true rfl⟩ dL_law_787 (fun H locs hPm hPx hS => ?_)
      refine lv_icmp_eq (tgt := 1066) h1 h2 dL_law_790 (by decide) (fun c9 => ?_) (fun c9 => absurd rfl c9)
      exact jn _ _ hrel H locs ls hPx hPm hS hl
theorem ml_L_99 : Cond.methodLink RL 99 yX7_see ∈ tr_T := tr_in 529 (by decide +kernel) rfl
theorem ml_L_102 : Cond.methodLink RL 102 yX8_see ∈ tr_T := tr_in 879 (by decide +kernel) rfl
/-- call 19: see -/
def sm_see (Rel : tr_H → tr_H → Prop) : Prop := ∀ (v0 : Int32) (v1 : Int32) (v2 : Int32) (hx hm : tr_H), Rel hx hm → ∃ (r0 : Int32) (gx gm : tr_H), f_X7_see v0 v1 v2 hx = some (r0, gx) ∧ f_X8_see v0 v1 v2 hm = some (r0, gm) ∧ Rel gx gm
set_option maxHeartbeats 4000000 in
set_option maxRecDepth 100000 in
theorem lw_c19 {p : Program} {l : Launch} {e : Env} {s : State} {m : MethodId} {below : List Frame} {meth : Method} {c : Code} {b L : Nat} {xs : Nat → Int32} {w : tr_E} {adx adm : Nat → Nat} {Rel : tr_H → tr_H → Prop} (hs : sm_see Rel) (C : tr_LC p s m c b L xs w adx adm) (x3 : Int32) (hv1 : vp_in (x3 + 1) L) (hv2 : vp_in (x3 + 2) L) (hv3 : vp_in (x3 + 3) L) (hv4 : vp_in (x3 + 4) L) (hv5 : vp_in (x3 + 5) L) (jn : ∀ hx hm, Rel hx hm → lw_W p l e s m below meth c b w adx adm 1066 x3 hx hm) : ∀ hx hm, Rel hx hm → lw_W p l e s m below meth c b w adx adm 795 x3 hx hm := by
  intro hx hm hrel H locs ls hPx hPm hS hl
  have h1 := C.1.1
  have h2 : c.code = cL_law := C.1.2.1
  have hbA : ¬ (fun q : Nat => s.heap.size ≤ q) b := Nat.not_le.mpr C.2.1.2
  refine lv_aload_n h1 h2 dL_law_795 rfl (lv_at hl 1 rfl) ?_
  refine lv_aload_n h1 h2 dL_law_796 rfl (lv_at hl 0 rfl) ?_
  refine lv_iload_n h1 h2 dL_law_797 rfl (lv_at hl 3 rfl) ?_
  refine lv_iconst (v := 1) h1 h2 dL_law_798 (by decide) ?_
  refine lv_iadd h1 h2 dL_law_799 ?_
  refine va_sld h1 h2 C.2.1.1 C.2.1.2 hbA hS hv1 dL_law_800 ?_
  refine lv_aload_n h1 h2 dL_law_801 rfl (lv_at hl 0 rfl) ?_
  refine lv_iload_n h1 h2 dL_law_802 rfl (lv_at hl 3 rfl) ?_
  refine lv_iconst (v := 2) h1 h2 dL_law_803 (by decide) ?_
  refine lv_iadd h1 h2 dL_law_804 ?_
  refine va_sld h1 h2 C.2.1.1 C.2.1.2 hbA hS hv2 dL_law_805 ?_
  refine lv_aload_n h1 h2 dL_law_806 rfl (lv_at hl 0 rfl) ?_
  refine lv_iload_n h1 h2 dL_law_807 rfl (lv_at hl 3 rfl) ?_
  refine lv_iconst (v := 3) h1 h2 dL_law_808 (by decide) ?_
  refine lv_iadd h1 h2 dL_law_809 ?_
  refine va_sld h1 h2 C.2.1.1 C.2.1.2 hbA hS hv3 dL_law_810 ?_
  obtain ⟨r0, gx, gm, hq1, hq2, hrel⟩ := hs (xs (x3 + 1).toNatClampNeg) (xs (x3 + 2).toNatClampNeg) (xs (x3 + 3).toNatClampNeg) hx hm hrel
  refine tr_lci (i := 0) (a1 := adx) (a2 := adm) (Y2 := tr_M) (g2 := hm) (As := [.int (xs (x3 + 1).toNatClampNeg), .int (xs (x3 + 2).toNatClampNeg), .int (xs (x3 + 3).toNatClampNeg)]) (rest := []) C.1 C.2.2.1.1 C.2.2.1.2.1 C.2.2.1.2.2 C.2.2.2.1.1 C.2.2.2.2.1.1 C.2.2.2.2.2 hPx hPm hS hl (c_X7_see l (tr_wa w adx) (xs (x3 + 1).toNatClampNeg) (xs (x3 + 2).toNatClampNeg) (xs (x3 + 3).toNatClampNeg) hx r0 gx hq1) mz_X7_see ml_L_99 (by decide) rfl rfl rfl rfl ⟨Nat.le_of_ble_eq_true rfl, Nat.le_of_ble_eq_true rfl⟩ rfl rfl (Nat.le_of_ble_eq_true rfl) ⟨Nat.le_of_ble_eq_true rfl, Nat.le_of_ble_eq_true rfl⟩ dL_law_811 (fun H locs hPx hPm hS => ?_)
  refine lv_aload_n h1 h2 dL_law_814 rfl (lv_at hl 2 rfl) ?_
  refine lv_aload_n h1 h2 dL_law_815 rfl (lv_at hl 0 rfl) ?_
  refine lv_iload_n h1 h2 dL_law_816 rfl (lv_at hl 3 rfl) ?_
  refine lv_iconst (v := 1) h1 h2 dL_law_817 (by decide) ?_
  refine lv_iadd h1 h2 dL_law_818 ?_
  refine va_sld h1 h2 C.2.1.1 C.2.1.2 hbA hS hv1 dL_law_819 ?_
  refine lv_aload_n h1 h2 dL_law_820 rfl (lv_at hl 0 rfl) ?_
  refine lv_iload_n h1 h2 dL_law_821 rfl (lv_at hl 3 rfl) ?_
  refine lv_iconst (v := 2) h1 h2 dL_law_822 (by decide) ?_
  refine lv_iadd h1 h2 dL_law_823 ?_
  refine va_sld h1 h2 C.2.1.1 C.2.1.2 hbA hS hv2 dL_law_824 ?_
  refine lv_aload_n h1 h2 dL_law_825 rfl (lv_at hl 0 rfl) ?_
  refine lv_iload_n h1 h2 dL_law_826 rfl (lv_at hl 3 rfl) ?_
  refine lv_iconst (v := 3) h1 h2 dL_law_827 (by decide) ?_
  refine lv_iadd h1 h2 dL_law_828 ?_
  refine va_sld h1 h2 C.2.1.1 C.2.1.2 hbA hS hv3 dL_law_829 ?_
  refine tr_lci (i := 0) (a1 := adm) (a2 := adx) (Y2 := tr_X) (g2 := gx) (As := [.int (xs (x3 + 1).toNatClampNeg), .int (xs (x3 + 2).toNatClampNeg), .int (xs (x3 + 3).toNatClampNeg)]) (rest := [.int r0]) C.1 C.2.2.1.1 C.2.2.1.2.1 C.2.2.1.2.2 C.2.2.2.1.2 C.2.2.2.2.1.2 (fun i j hi hj h => C.2.2.2.2.2 j i hj hi h.symm) hPm hPx hS hl (c_X8_see l (tr_wa w adm) (xs (x3 + 1).toNatClampNeg) (xs (x3 + 2).toNatClampNeg) (xs (x3 + 3).toNatClampNeg) hm r0 gm hq2) mz_X8_see ml_L_102 (by decide) rfl rfl rfl rfl ⟨Nat.le_of_ble_eq_true rfl, Nat.le_of_ble_eq_true rfl⟩ rfl rfl (Nat.le_of_ble_eq_true rfl) ⟨Nat.le_of_ble_eq_true rfl, Nat.le_of_ble_eq_true rfl⟩ dL_law_830 (fun H locs hPm hPx hS => ?_)
  refine lv_icmp_eq (tgt := 1066) h1 h2 dL_law_833 (by decide) (fun c9 => ?_) (fun c9 => absurd rfl c9)
  exact jn _ _ hrel H locs ls hPx hPm hS hl
theorem ml_L_103 : Cond.methodLink RL 103 yX7_unsee ∈ tr_T := tr_in 537 (by decide +kernel) rfl
theorem ml_L_106 : Cond.methodLink RL 106 yX8_unsee ∈ tr_T := tr_in 883 (by decide +kernel) rfl
/-- call 20: unsee -/
def sm_unsee (Rel : tr_H → tr_H → Prop) : Prop := ∀ (hx hm : tr_H), Rel hx hm → ∃ (r0 : Int32) (gx gm : tr_H), f_X7_unsee hx = some (r0, gx) ∧ f_X8_unsee hm = some (r0, gm) ∧ Rel gx gm
set_option maxHeartbeats 4000000 in
set_option maxRecDepth 100000 in
theorem lw_c20 {p : Program} {l : Launch} {e : Env} {s : State} {m : MethodId} {below : List Frame} {meth : Method} {c : Code} {b L : Nat} {xs : Nat → Int32} {w : tr_E} {adx adm : Nat → Nat} {Rel : tr_H → tr_H → Prop} (hs : sm_unsee Rel) (C : tr_LC p s m c b L xs w adx adm) (x3 : Int32) (hv1 : vp_in (x3 + 1) L) (hv2 : vp_in (x3 + 2) L) (hv3 : vp_in (x3 + 3) L) (hv4 : vp_in (x3 + 4) L) (hv5 : vp_in (x3 + 5) L) (jn : ∀ hx hm, Rel hx hm → lw_W p l e s m below meth c b w adx adm 1066 x3 hx hm) : ∀ hx hm, Rel hx hm → lw_W p l e s m below meth c b w adx adm 838 x3 hx hm := by
  intro hx hm hrel H locs ls hPx hPm hS hl
  have h1 := C.1.1
  have h2 : c.code = cL_law := C.1.2.1
  have hbA : ¬ (fun q : Nat => s.heap.size ≤ q) b := Nat.not_le.mpr C.2.1.2
  refine lv_aload_n h1 h2 dL_law_838 rfl (lv_at hl 1 rfl) ?_
  obtain ⟨r0, gx, gm, hq1, hq2, hrel⟩ := hs  hx hm hrel
  refine tr_lci (i := 0) (a1 := adx) (a2 := adm) (Y2 := tr_M) (g2 := hm) (As := []) (rest := []) C.1 C.2.2.1.1 C.2.2.1.2.1 C.2.2.1.2.2 C.2.2.2.1.1 C.2.2.2.2.1.1 C.2.2.2.2.2 hPx hPm hS hl (c_X7_unsee l (tr_wa w adx)  hx r0 gx hq1) mz_X7_unsee ml_L_103 (by decide) rfl rfl rfl rfl ⟨Nat.le_of_ble_eq_true rfl, Nat.le_of_ble_eq_true rfl⟩ rfl rfl (Nat.le_of_ble_eq_true rfl) ⟨Nat.le_of_ble_eq_true rfl, Nat.le_of_ble_eq_true rfl⟩ dL_law_839 (fun H locs hPx hPm hS => ?_)
  refine lv_aload_n h1 h2 dL_law_842 rfl (lv_at hl 2 rfl) ?_
  refine tr_lci (i := 0) (a1 := adm) (a2 := adx) (Y2 := tr_X) (g2 := gx) (As := []) (rest := [.int r0]) C.1 C.2.2.1.1 C.2.2.1.2.1 C.2.2.1.2.2 C.2.2.2.1.2 C.2.2.2.2.1.2 (fun i j hi hj h => C.2.2.2.2.2 j i hj hi h.symm) hPm hPx hS hl (c_X8_unsee l (tr_wa w adm)  hm r0 gm hq2) mz_X8_unsee ml_L_106 (by decide) rfl rfl rfl rfl ⟨Nat.le_of_ble_eq_true rfl, Nat.le_of_ble_eq_true rfl⟩ rfl rfl (Nat.le_of_ble_eq_true rfl) ⟨Nat.le_of_ble_eq_true rfl, Nat.le_of_ble_eq_true rfl⟩ dL_law_843 (fun H locs hPm hPx hS => ?_)
  refine lv_icmp_eq (tgt := 1066) h1 h2 dL_law_846 (by decide) (fun c9 => ?_) (fun c9 => absurd rfl c9)
  exact jn _ _ hrel H locs ls hPx hPm hS hl
theorem ml_L_107 : Cond.methodLink RL 107 yX7_began ∈ tr_T := tr_in 541 (by decide +kernel) rfl
theorem ml_L_110 : Cond.methodLink RL 110 yX8_began ∈ tr_T := tr_in 887 (by decide +kernel) rfl
/-- call 21: began -/
def sm_began (Rel : tr_H → tr_H → Prop) : Prop := ∀ (v0 : Int32) (hx hm : tr_H), Rel hx hm → ∃ (r0 : Int32) (gx gm : tr_H), f_X7_began v0 hx = some (r0, gx) ∧ f_X8_began v0 hm = some (r0, gm) ∧ Rel gx gm
set_option maxHeartbeats 4000000 in
set_option maxRecDepth 100000 in
theorem lw_c21 {p : Program} {l : Launch} {e : Env} {s : State} {m : MethodId} {below : List Frame} {meth : Method} {c : Code} {b L : Nat} {xs : Nat → Int32} {w : tr_E} {adx adm : Nat → Nat} {Rel : tr_H → tr_H → Prop} (hs : sm_began Rel) (C : tr_LC p s m c b L xs w adx adm) (x3 : Int32) (hv1 : vp_in (x3 + 1) L) (hv2 : vp_in (x3 + 2) L) (hv3 : vp_in (x3 + 3) L) (hv4 : vp_in (x3 + 4) L) (hv5 : vp_in (x3 + 5) L) (jn : ∀ hx hm, Rel hx hm → lw_W p l e s m below meth c b w adx adm 1066 x3 hx hm) : ∀ hx hm, Rel hx hm → lw_W p l e s m below meth c b w adx adm 851 x3 hx hm := by
  intro hx hm hrel H locs ls hPx hPm hS hl
  have h1 := C.1.1
  have h2 : c.code = cL_law := C.1.2.1
  have hbA : ¬ (fun q : Nat => s.heap.size ≤ q) b := Nat.not_le.mpr C.2.1.2
  refine lv_aload_n h1 h2 dL_law_851 rfl (lv_at hl 1 rfl) ?_
  refine lv_aload_n h1 h2 dL_law_852 rfl (lv_at hl 0 rfl) ?_
  refine lv_iload_n h1 h2 dL_law_853 rfl (lv_at hl 3 rfl) ?_
  refine lv_iconst (v := 1) h1 h2 dL_law_854 (by decide) ?_
  refine lv_iadd h1 h2 dL_law_855 ?_
  refine va_sld h1 h2 C.2.1.1 C.2.1.2 hbA hS hv1 dL_law_856 ?_
  obtain ⟨r0, gx, gm, hq1, hq2, hrel⟩ := hs (xs (x3 + 1).toNatClampNeg) hx hm hrel
  refine tr_lci (i := 0) (a1 := adx) (a2 := adm) (Y2 := tr_M) (g2 := hm) (As := [.int (xs (x3 + 1).toNatClampNeg)]) (rest := []) C.1 C.2.2.1.1 C.2.2.1.2.1 C.2.2.1.2.2 C.2.2.2.1.1 C.2.2.2.2.1.1 C.2.2.2.2.2 hPx hPm hS hl (c_X7_began l (tr_wa w adx) (xs (x3 + 1).toNatClampNeg) hx r0 gx hq1) mz_X7_began ml_L_107 (by decide) rfl rfl rfl rfl ⟨Nat.le_of_ble_eq_true rfl, Nat.le_of_ble_eq_true rfl⟩ rfl rfl (Nat.le_of_ble_eq_true rfl) ⟨Nat.le_of_ble_eq_true rfl, Nat.le_of_ble_eq_true rfl⟩ dL_law_857 (fun H locs hPx hPm hS => ?_)
  refine lv_aload_n h1 h2 dL_law_860 rfl (lv_at hl 2 rfl) ?_
  refine lv_aload_n h1 h2 dL_law_861 rfl (lv_at hl 0 rfl) ?_
  refine lv_iload_n h1 h2 dL_law_862 rfl (lv_at hl 3 rfl) ?_
  refine lv_iconst (v := 1) h1 h2 dL_law_863 (by decide) ?_
  refine lv_iadd h1 h2 dL_law_864 ?_
  refine va_sld h1 h2 C.2.1.1 C.2.1.2 hbA hS hv1 dL_law_865 ?_
  refine tr_lci (i := 0) (a1 := adm) (a2 := adx) (Y2 := tr_X) (g2 := gx) (As := [.int (xs (x3 + 1).toNatClampNeg)]) (rest := [.int r0]) C.1 C.2.2.1.1 C.2.2.1.2.1 C.2.2.1.2.2 C.2.2.2.1.2 C.2.2.2.2.1.2 (fun i j hi hj h => C.2.2.2.2.2 j i hj hi h.symm) hPm hPx hS hl (c_X8_began l (tr_wa w adm) (xs (x3 + 1).toNatClampNeg) hm r0 gm hq2) mz_X8_began ml_L_110 (by decide) rfl rfl rfl rfl ⟨Nat.le_of_ble_eq_true rfl, Nat.le_of_ble_eq_true rfl⟩ rfl rfl (Nat.le_of_ble_eq_true rfl) ⟨Nat.le_of_ble_eq_true rfl, Nat.le_of_ble_eq_true rfl⟩ dL_law_866 (fun H locs hPm hPx hS => ?_)
  refine lv_icmp_eq (tgt := 1066) h1 h2 dL_law_869 (by decide) (fun c9 => ?_) (fun c9 => absurd rfl c9)
  exact jn _ _ hrel H locs ls hPx hPm hS hl
theorem ml_L_111 : Cond.methodLink RL 111 yX7_dropped ∈ tr_T := tr_in 550 (by decide +kernel) rfl
theorem ml_L_115 : Cond.methodLink RL 115 yX8_dropped ∈ tr_T := tr_in 895 (by decide +kernel) rfl
/-- call 22: dropped -/
def sm_dropped (Rel : tr_H → tr_H → Prop) : Prop := ∀ (v0 : Int32) (v1 : Int32) (v2 : Int32) (v3 : Int32) (hx hm : tr_H), Rel hx hm → ∃ (r0 : Int32) (gx gm : tr_H), f_X7_dropped v0 v1 v2 v3 hx = some (r0, gx) ∧ f_X8_dropped v0 v1 v2 v3 hm = some (r0, gm) ∧ Rel gx gm
set_option maxHeartbeats 4000000 in
set_option maxRecDepth 100000 in
theorem lw_c22 {p : Program} {l : Launch} {e : Env} {s : State} {m : MethodId} {below : List Frame} {meth : Method} {c : Code} {b L : Nat} {xs : Nat → Int32} {w : tr_E} {adx adm : Nat → Nat} {Rel : tr_H → tr_H → Prop} (hs : sm_dropped Rel) (C : tr_LC p s m c b L xs w adx adm) (x3 : Int32) (hv1 : vp_in (x3 + 1) L) (hv2 : vp_in (x3 + 2) L) (hv3 : vp_in (x3 + 3) L) (hv4 : vp_in (x3 + 4) L) (hv5 : vp_in (x3 + 5) L) (jn : ∀ hx hm, Rel hx hm → lw_W p l e s m below meth c b w adx adm 1066 x3 hx hm) : ∀ hx hm, Rel hx hm → lw_W p l e s m below meth c b w adx adm 874 x3 hx hm := by
  intro hx hm hrel H locs ls hPx hPm hS hl
  have h1 := C.1.1
  have h2 : c.code = cL_law := C.1.2.1
  have hbA : ¬ (fun q : Nat => s.heap.size ≤ q) b := Nat.not_le.mpr C.2.1.2
  refine lv_aload_n h1 h2 dL_law_874 rfl (lv_at hl 1 rfl) ?_
  refine lv_aload_n h1 h2 dL_law_875 rfl (lv_at hl 0 rfl) ?_
  refine lv_iload_n h1 h2 dL_law_876 rfl (lv_at hl 3 rfl) ?_
  refine lv_iconst (v := 1) h1 h2 dL_law_877 (by decide) ?_
  refine lv_iadd h1 h2 dL_law_878 ?_
  refine va_sld h1 h2 C.2.1.1 C.2.1.2 hbA hS hv1 dL_law_879 ?_
  refine lv_aload_n h1 h2 dL_law_880 rfl (lv_at hl 0 rfl) ?_
  refine lv_iload_n h1 h2 dL_law_881 rfl (lv_at hl 3 rfl) ?_
  refine lv_iconst (v := 2) h1 h2 dL_law_882 (by decide) ?_
  refine lv_iadd h1 h2 dL_law_883 ?_
  refine va_sld h1 h2 C.2.1.1 C.2.1.2 hbA hS hv2 dL_law_884 ?_
  refine lv_aload_n h1 h2 dL_law_885 rfl (lv_at hl 0 rfl) ?_
  refine lv_iload_n h1 h2 dL_law_886 rfl (lv_at hl 3 rfl) ?_
  refine lv_iconst (v := 3) h1 h2 dL_law_887 (by decide) ?_
  refine lv_iadd h1 h2 dL_law_888 ?_
  refine va_sld h1 h2 C.2.1.1 C.2.1.2 hbA hS hv3 dL_law_889 ?_
  refine lv_aload_n h1 h2 dL_law_890 rfl (lv_at hl 0 rfl) ?_
  refine lv_iload_n h1 h2 dL_law_891 rfl (lv_at hl 3 rfl) ?_
  refine lv_iconst (v := 4) h1 h2 dL_law_892 (by decide) ?_
  refine lv_iadd h1 h2 dL_law_893 ?_
  refine va_sld h1 h2 C.2.1.1 C.2.1.2 hbA hS hv4 dL_law_894 ?_
  refine lv_if_eq (tgt := 902) h1 h2 dL_law_895 (by decide) (fun cb0 => ?_) (fun cb0 => ?_)
  · refine lv_iconst (v := 0) h1 h2 dL_law_902 (by decide) ?_
    obtain ⟨r0, gx, gm, hq1, hq2, hrel⟩ := hs (xs (x3 + 1).toNatClampNeg) (xs (x3 + 2).toNatClampNeg) (xs (x3 + 3).toNatClampNeg) (0) hx hm hrel
    refine tr_lci (i := 0) (a1 := adx) (a2 := adm) (Y2 := tr_M) (g2 := hm) (As := [.int (xs (x3 + 1).toNatClampNeg), .int (xs (x3 + 2).toNatClampNeg), .int (xs (x3 + 3).toNatClampNeg), .int 0]) (rest := []) C.1 C.2.2.1.1 C.2.2.1.2.1 C.2.2.1.2.2 C.2.2.2.1.1 C.2.2.2.2.1.1 C.2.2.2.2.2 hPx hPm hS hl (c_X7_dropped l (tr_wa w adx) (xs (x3 + 1).toNatClampNeg) (xs (x3 + 2).toNatClampNeg) (xs (x3 + 3).toNatClampNeg) (0) hx r0 gx hq1) mz_X7_dropped ml_L_111 (by decide) rfl rfl rfl rfl ⟨Nat.le_of_ble_eq_true rfl, Nat.le_of_ble_eq_true rfl⟩ rfl rfl (Nat.le_of_ble_eq_true rfl) ⟨Nat.le_of_ble_eq_true rfl, Nat.le_of_ble_eq_true rfl⟩ dL_law_903 (fun H locs hPx hPm hS => ?_)
    refine lv_aload_n h1 h2 dL_law_906 rfl (lv_at hl 2 rfl) ?_
    refine lv_aload_n h1 h2 dL_law_907 rfl (lv_at hl 0 rfl) ?_
    refine lv_iload_n h1 h2 dL_law_908 rfl (lv_at hl 3 rfl) ?_
    refine lv_iconst (v := 1) h1 h2 dL_law_909 (by decide) ?_
    refine lv_iadd h1 h2 dL_law_910 ?_
    refine va_sld h1 h2 C.2.1.1 C.2.1.2 hbA hS hv1 dL_law_911 ?_
    refine lv_aload_n h1 h2 dL_law_912 rfl (lv_at hl 0 rfl) ?_
    refine lv_iload_n h1 h2 dL_law_913 rfl (lv_at hl 3 rfl) ?_
    refine lv_iconst (v := 2) h1 h2 dL_law_914 (by decide) ?_
    refine lv_iadd h1 h2 dL_law_915 ?_
    refine va_sld h1 h2 C.2.1.1 C.2.1.2 hbA hS hv2 dL_law_916 ?_
    refine lv_aload_n h1 h2 dL_law_917 rfl (lv_at hl 0 rfl) ?_
    refine lv_iload_n h1 h2 dL_law_918 rfl (lv_at hl 3 rfl) ?_
    refine lv_iconst (v := 3) h1 h2 dL_law_919 (by decide) ?_
    refine lv_iadd h1 h2 dL_law_920 ?_
    refine va_sld h1 h2 C.2.1.1 C.2.1.2 hbA hS hv3 dL_law_921 ?_
    refine lv_aload_n h1 h2 dL_law_922 rfl (lv_at hl 0 rfl) ?_
    refine lv_iload_n h1 h2 dL_law_923 rfl (lv_at hl 3 rfl) ?_
    refine lv_iconst (v := 4) h1 h2 dL_law_924 (by decide) ?_
    refine lv_iadd h1 h2 dL_law_925 ?_
    refine va_sld h1 h2 C.2.1.1 C.2.1.2 hbA hS hv4 dL_law_926 ?_
    refine lv_if_eq (tgt := 934) h1 h2 dL_law_927 (by decide) (fun c9 => ?_) (fun c9 => ?_)
    · refine lv_iconst (v := 0) h1 h2 dL_law_934 (by decide) ?_
      refine tr_lci (i := 0) (a1 := adm) (a2 := adx) (Y2 := tr_X) (g2 := gx) (As := [.int (xs (x3 + 1).toNatClampNeg), .int (xs (x3 + 2).toNatClampNeg), .int (xs (x3 + 3).toNatClampNeg), .int 0]) (rest := [.int r0]) C.1 C.2.2.1.1 C.2.2.1.2.1 C.2.2.1.2.2 C.2.2.2.1.2 C.2.2.2.2.1.2 (fun i j hi hj h => C.2.2.2.2.2 j i hj hi h.symm) hPm hPx hS hl (c_X8_dropped l (tr_wa w adm) (xs (x3 + 1).toNatClampNeg) (xs (x3 + 2).toNatClampNeg) (xs (x3 + 3).toNatClampNeg) (0) hm r0 gm hq2) mz_X8_dropped ml_L_115 (by decide) rfl rfl rfl rfl ⟨Nat.le_of_ble_eq_true rfl, Nat.le_of_ble_eq_true rfl⟩ rfl rfl (Nat.le_of_ble_eq_true rfl) ⟨Nat.le_of_ble_eq_true rfl, Nat.le_of_ble_eq_true rfl⟩ dL_law_935 (fun H locs hPm hPx hS => ?_)
      refine lv_icmp_eq (tgt := 1066) h1 h2 dL_law_938 (by decide) (fun c9 => ?_) (fun c9 => absurd rfl c9)
      exact jn _ _ hrel H locs ls hPx hPm hS hl
    · exact absurd cb0 c9
  · refine lv_iconst (v := 1) h1 h2 dL_law_898 (by decide) ?_
    refine lv_goto (tgt := 903) h1 h2 dL_law_899 (by decide) ?_
    obtain ⟨r0, gx, gm, hq1, hq2, hrel⟩ := hs (xs (x3 + 1).toNatClampNeg) (xs (x3 + 2).toNatClampNeg) (xs (x3 + 3).toNatClampNeg) (1) hx hm hrel
    refine tr_lci (i := 0) (a1 := adx) (a2 := adm) (Y2 := tr_M) (g2 := hm) (As := [.int (xs (x3 + 1).toNatClampNeg), .int (xs (x3 + 2).toNatClampNeg), .int (xs (x3 + 3).toNatClampNeg), .int 1]) (rest := []) C.1 C.2.2.1.1 C.2.2.1.2.1 C.2.2.1.2.2 C.2.2.2.1.1 C.2.2.2.2.1.1 C.2.2.2.2.2 hPx hPm hS hl (c_X7_dropped l (tr_wa w adx) (xs (x3 + 1).toNatClampNeg) (xs (x3 + 2).toNatClampNeg) (xs (x3 + 3).toNatClampNeg) (1) hx r0 gx hq1) mz_X7_dropped ml_L_111 (by decide) rfl rfl rfl rfl ⟨Nat.le_of_ble_eq_true rfl, Nat.le_of_ble_eq_true rfl⟩ rfl rfl (Nat.le_of_ble_eq_true rfl) ⟨Nat.le_of_ble_eq_true rfl, Nat.le_of_ble_eq_true rfl⟩ dL_law_903 (fun H locs hPx hPm hS => ?_)
    refine lv_aload_n h1 h2 dL_law_906 rfl (lv_at hl 2 rfl) ?_
    refine lv_aload_n h1 h2 dL_law_907 rfl (lv_at hl 0 rfl) ?_
    refine lv_iload_n h1 h2 dL_law_908 rfl (lv_at hl 3 rfl) ?_
    refine lv_iconst (v := 1) h1 h2 dL_law_909 (by decide) ?_
    refine lv_iadd h1 h2 dL_law_910 ?_
    refine va_sld h1 h2 C.2.1.1 C.2.1.2 hbA hS hv1 dL_law_911 ?_
    refine lv_aload_n h1 h2 dL_law_912 rfl (lv_at hl 0 rfl) ?_
    refine lv_iload_n h1 h2 dL_law_913 rfl (lv_at hl 3 rfl) ?_
    refine lv_iconst (v := 2) h1 h2 dL_law_914 (by decide) ?_
    refine lv_iadd h1 h2 dL_law_915 ?_
    refine va_sld h1 h2 C.2.1.1 C.2.1.2 hbA hS hv2 dL_law_916 ?_
    refine lv_aload_n h1 h2 dL_law_917 rfl (lv_at hl 0 rfl) ?_
    refine lv_iload_n h1 h2 dL_law_918 rfl (lv_at hl 3 rfl) ?_
    refine lv_iconst (v := 3) h1 h2 dL_law_919 (by decide) ?_
    refine lv_iadd h1 h2 dL_law_920 ?_
    refine va_sld h1 h2 C.2.1.1 C.2.1.2 hbA hS hv3 dL_law_921 ?_
    refine lv_aload_n h1 h2 dL_law_922 rfl (lv_at hl 0 rfl) ?_
    refine lv_iload_n h1 h2 dL_law_923 rfl (lv_at hl 3 rfl) ?_
    refine lv_iconst (v := 4) h1 h2 dL_law_924 (by decide) ?_
    refine lv_iadd h1 h2 dL_law_925 ?_
    refine va_sld h1 h2 C.2.1.1 C.2.1.2 hbA hS hv4 dL_law_926 ?_
    refine lv_if_eq (tgt := 934) h1 h2 dL_law_927 (by decide) (fun c9 => ?_) (fun c9 => ?_)
    · exact absurd c9 cb0
    · refine lv_iconst (v := 1) h1 h2 dL_law_930 (by decide) ?_
      refine lv_goto (tgt := 935) h1 h2 dL_law_931 (by decide) ?_
      refine tr_lci (i := 0) (a1 := adm) (a2 := adx) (Y2 := tr_X) (g2 := gx) (As := [.int (xs (x3 + 1).toNatClampNeg), .int (xs (x3 + 2).toNatClampNeg), .int (xs (x3 + 3).toNatClampNeg), .int 1]) (rest := [.int r0]) C.1 C.2.2.1.1 C.2.2.1.2.1 C.2.2.1.2.2 C.2.2.2.1.2 C.2.2.2.2.1.2 (fun i j hi hj h => C.2.2.2.2.2 j i hj hi h.symm) hPm hPx hS hl (c_X8_dropped l (tr_wa w adm) (xs (x3 + 1).toNatClampNeg) (xs (x3 + 2).toNatClampNeg) (xs (x3 + 3).toNatClampNeg) (1) hm r0 gm hq2) mz_X8_dropped ml_L_115 (by decide) rfl rfl rfl rfl ⟨Nat.le_of_ble_eq_true rfl, Nat.le_of_ble_eq_true rfl⟩ rfl rfl (Nat.le_of_ble_eq_true rfl) ⟨Nat.le_of_ble_eq_true rfl, Nat.le_of_ble_eq_true rfl⟩ dL_law_935 (fun H locs hPm hPx hS => ?_)
      refine lv_icmp_eq (tgt := 1066) h1 h2 dL_law_938 (by decide) (fun c9 => ?_) (fun c9 => absurd rfl c9)
      exact jn _ _ hrel H locs ls hPx hPm hS hl
theorem ml_L_116 : Cond.methodLink RL 116 yX7_seed ∈ tr_T := tr_in 554 (by decide +kernel) rfl
theorem ml_L_120 : Cond.methodLink RL 120 yX8_seed ∈ tr_T := tr_in 907 (by decide +kernel) rfl
/-- call 23: seed -/
def sm_seed (Rel : tr_H → tr_H → Prop) : Prop := ∀ (v0 : Int64) (hx hm : tr_H), Rel hx hm → ∃ (r0 : Int64) (gx gm : tr_H), f_X7_seed v0 hx = some (r0, gx) ∧ f_X8_seed v0 hm = some (r0, gm) ∧ Rel gx gm
set_option maxHeartbeats 4000000 in
set_option maxRecDepth 100000 in
theorem lw_c23 {p : Program} {l : Launch} {e : Env} {s : State} {m : MethodId} {below : List Frame} {meth : Method} {c : Code} {b L : Nat} {xs : Nat → Int32} {w : tr_E} {adx adm : Nat → Nat} {Rel : tr_H → tr_H → Prop} (hs : sm_seed Rel) (C : tr_LC p s m c b L xs w adx adm) (x3 : Int32) (hv1 : vp_in (x3 + 1) L) (hv2 : vp_in (x3 + 2) L) (hv3 : vp_in (x3 + 3) L) (hv4 : vp_in (x3 + 4) L) (hv5 : vp_in (x3 + 5) L) (jn : ∀ hx hm, Rel hx hm → lw_W p l e s m below meth c b w adx adm 1066 x3 hx hm) : ∀ hx hm, Rel hx hm → lw_W p l e s m below meth c b w adx adm 943 x3 hx hm := by
  intro hx hm hrel H locs ls hPx hPm hS hl
  have h1 := C.1.1
  have h2 : c.code = cL_law := C.1.2.1
  have hbA : ¬ (fun q : Nat => s.heap.size ≤ q) b := Nat.not_le.mpr C.2.1.2
  refine lv_aload_n h1 h2 dL_law_943 rfl (lv_at hl 1 rfl) ?_
  refine lv_aload_n h1 h2 dL_law_944 rfl (lv_at hl 0 rfl) ?_
  refine lv_iload_n h1 h2 dL_law_945 rfl (lv_at hl 3 rfl) ?_
  refine lv_iconst (v := 1) h1 h2 dL_law_946 (by decide) ?_
  refine lv_iadd h1 h2 dL_law_947 ?_
  refine va_sld h1 h2 C.2.1.1 C.2.1.2 hbA hS hv1 dL_law_948 ?_
  refine lv_i2l h1 h2 dL_law_949 rfl ?_
  refine lv_bipush (v := 32) h1 h2 dL_law_950 (by decide) ?_
  refine lv_lshl h1 h2 dL_law_952 rfl ?_
  refine lv_aload_n h1 h2 dL_law_953 rfl (lv_at hl 0 rfl) ?_
  refine lv_iload_n h1 h2 dL_law_954 rfl (lv_at hl 3 rfl) ?_
  refine lv_iconst (v := 2) h1 h2 dL_law_955 (by decide) ?_
  refine lv_iadd h1 h2 dL_law_956 ?_
  refine va_sld h1 h2 C.2.1.1 C.2.1.2 hbA hS hv2 dL_law_957 ?_
  refine lv_i2l h1 h2 dL_law_958 rfl ?_
  refine lv_ldc2 (v := 4294967295) h1 h2 C.1.2.2.2.1 (C.1.2.2.2.2 _ mc_L_87) dL_law_959 ?_
  refine lv_land h1 h2 dL_law_962 ?_
  refine lv_lor h1 h2 dL_law_963 ?_
  obtain ⟨r0, gx, gm, hq1, hq2, hrel⟩ := hs (((xs (x3 + 1).toNatClampNeg).toInt64 <<< ((32 : Int32).toInt64 &&& 63)) ||| (((xs (x3 + 2).toNatClampNeg).toInt64) &&& (4294967295))) hx hm hrel
  refine tr_lcl (i := 0) (a1 := adx) (a2 := adm) (Y2 := tr_M) (g2 := hm) (As := [.long (((xs (x3 + 1).toNatClampNeg).toInt64 <<< ((32 : Int32).toInt64 &&& 63)) ||| (((xs (x3 + 2).toNatClampNeg).toInt64) &&& (4294967295)))]) (rest := []) C.1 C.2.2.1.1 C.2.2.1.2.1 C.2.2.1.2.2 C.2.2.2.1.1 C.2.2.2.2.1.1 C.2.2.2.2.2 hPx hPm hS hl (c_X7_seed l (tr_wa w adx) (((xs (x3 + 1).toNatClampNeg).toInt64 <<< ((32 : Int32).toInt64 &&& 63)) ||| (((xs (x3 + 2).toNatClampNeg).toInt64) &&& (4294967295))) hx r0 gx hq1) mz_X7_seed ml_L_116 (by decide) rfl rfl rfl rfl ⟨Nat.le_of_ble_eq_true rfl, Nat.le_of_ble_eq_true rfl⟩ rfl rfl (Nat.le_of_ble_eq_true rfl) ⟨Nat.le_of_ble_eq_true rfl, Nat.le_of_ble_eq_true rfl⟩ dL_law_964 (fun H locs hPx hPm hS => ?_)
  refine lv_aload_n h1 h2 dL_law_967 rfl (lv_at hl 2 rfl) ?_
  refine lv_aload_n h1 h2 dL_law_968 rfl (lv_at hl 0 rfl) ?_
  refine lv_iload_n h1 h2 dL_law_969 rfl (lv_at hl 3 rfl) ?_
  refine lv_iconst (v := 1) h1 h2 dL_law_970 (by decide) ?_
  refine lv_iadd h1 h2 dL_law_971 ?_
  refine va_sld h1 h2 C.2.1.1 C.2.1.2 hbA hS hv1 dL_law_972 ?_
  refine lv_i2l h1 h2 dL_law_973 rfl ?_
  refine lv_bipush (v := 32) h1 h2 dL_law_974 (by decide) ?_
  refine lv_lshl h1 h2 dL_law_976 rfl ?_
  refine lv_aload_n h1 h2 dL_law_977 rfl (lv_at hl 0 rfl) ?_
  refine lv_iload_n h1 h2 dL_law_978 rfl (lv_at hl 3 rfl) ?_
  refine lv_iconst (v := 2) h1 h2 dL_law_979 (by decide) ?_
  refine lv_iadd h1 h2 dL_law_980 ?_
  refine va_sld h1 h2 C.2.1.1 C.2.1.2 hbA hS hv2 dL_law_981 ?_
  refine lv_i2l h1 h2 dL_law_982 rfl ?_
  refine lv_ldc2 (v := 4294967295) h1 h2 C.1.2.2.2.1 (C.1.2.2.2.2 _ mc_L_87) dL_law_983 ?_
  refine lv_land h1 h2 dL_law_986 ?_
  refine lv_lor h1 h2 dL_law_987 ?_
  refine tr_lcl (i := 0) (a1 := adm) (a2 := adx) (Y2 := tr_X) (g2 := gx) (As := [.long (((xs (x3 + 1).toNatClampNeg).toInt64 <<< ((32 : Int32).toInt64 &&& 63)) ||| (((xs (x3 + 2).toNatClampNeg).toInt64) &&& (4294967295)))]) (rest := [.long r0]) C.1 C.2.2.1.1 C.2.2.1.2.1 C.2.2.1.2.2 C.2.2.2.1.2 C.2.2.2.2.1.2 (fun i j hi hj h => C.2.2.2.2.2 j i hj hi h.symm) hPm hPx hS hl (c_X8_seed l (tr_wa w adm) (((xs (x3 + 1).toNatClampNeg).toInt64 <<< ((32 : Int32).toInt64 &&& 63)) ||| (((xs (x3 + 2).toNatClampNeg).toInt64) &&& (4294967295))) hm r0 gm hq2) mz_X8_seed ml_L_120 (by decide) rfl rfl rfl rfl ⟨Nat.le_of_ble_eq_true rfl, Nat.le_of_ble_eq_true rfl⟩ rfl rfl (Nat.le_of_ble_eq_true rfl) ⟨Nat.le_of_ble_eq_true rfl, Nat.le_of_ble_eq_true rfl⟩ dL_law_988 (fun H locs hPm hPx hS => ?_)
  refine W.lcmp h1 h2 dL_law_991 ?_
  refine lv_if_eq (tgt := 1066) h1 h2 dL_law_992 (by decide) (fun c9 => ?_) (fun c9 => absurd (by simp [lg_cmp]) c9)
  exact jn _ _ hrel H locs ls hPx hPm hS hl
theorem ml_L_121 : Cond.methodLink RL 121 yX7_drawn ∈ tr_T := tr_in 558 (by decide +kernel) rfl
theorem ml_L_124 : Cond.methodLink RL 124 yX8_drawn ∈ tr_T := tr_in 911 (by decide +kernel) rfl
/-- call 24: drawn -/
def sm_drawn (Rel : tr_H → tr_H → Prop) : Prop := ∀ (v0 : Int32) (hx hm : tr_H), Rel hx hm → ∃ (r0 : Int32) (gx gm : tr_H), f_X7_drawn v0 hx = some (r0, gx) ∧ f_X8_drawn v0 hm = some (r0, gm) ∧ Rel gx gm
set_option maxHeartbeats 4000000 in
set_option maxRecDepth 100000 in
theorem lw_c24 {p : Program} {l : Launch} {e : Env} {s : State} {m : MethodId} {below : List Frame} {meth : Method} {c : Code} {b L : Nat} {xs : Nat → Int32} {w : tr_E} {adx adm : Nat → Nat} {Rel : tr_H → tr_H → Prop} (hs : sm_drawn Rel) (C : tr_LC p s m c b L xs w adx adm) (x3 : Int32) (hv1 : vp_in (x3 + 1) L) (hv2 : vp_in (x3 + 2) L) (hv3 : vp_in (x3 + 3) L) (hv4 : vp_in (x3 + 4) L) (hv5 : vp_in (x3 + 5) L) (jn : ∀ hx hm, Rel hx hm → lw_W p l e s m below meth c b w adx adm 1066 x3 hx hm) : ∀ hx hm, Rel hx hm → lw_W p l e s m below meth c b w adx adm 997 x3 hx hm := by
  intro hx hm hrel H locs ls hPx hPm hS hl
  have h1 := C.1.1
  have h2 : c.code = cL_law := C.1.2.1
  have hbA : ¬ (fun q : Nat => s.heap.size ≤ q) b := Nat.not_le.mpr C.2.1.2
  refine lv_aload_n h1 h2 dL_law_997 rfl (lv_at hl 1 rfl) ?_
  refine lv_aload_n h1 h2 dL_law_998 rfl (lv_at hl 0 rfl) ?_
  refine lv_iload_n h1 h2 dL_law_999 rfl (lv_at hl 3 rfl) ?_
  refine lv_iconst (v := 1) h1 h2 dL_law_1000 (by decide) ?_
  refine lv_iadd h1 h2 dL_law_1001 ?_
  refine va_sld h1 h2 C.2.1.1 C.2.1.2 hbA hS hv1 dL_law_1002 ?_
  obtain ⟨r0, gx, gm, hq1, hq2, hrel⟩ := hs (xs (x3 + 1).toNatClampNeg) hx hm hrel
  refine tr_lci (i := 0) (a1 := adx) (a2 := adm) (Y2 := tr_M) (g2 := hm) (As := [.int (xs (x3 + 1).toNatClampNeg)]) (rest := []) C.1 C.2.2.1.1 C.2.2.1.2.1 C.2.2.1.2.2 C.2.2.2.1.1 C.2.2.2.2.1.1 C.2.2.2.2.2 hPx hPm hS hl (c_X7_drawn l (tr_wa w adx) (xs (x3 + 1).toNatClampNeg) hx r0 gx hq1) mz_X7_drawn ml_L_121 (by decide) rfl rfl rfl rfl ⟨Nat.le_of_ble_eq_true rfl, Nat.le_of_ble_eq_true rfl⟩ rfl rfl (Nat.le_of_ble_eq_true rfl) ⟨Nat.le_of_ble_eq_true rfl, Nat.le_of_ble_eq_true rfl⟩ dL_law_1003 (fun H locs hPx hPm hS => ?_)
  refine lv_aload_n h1 h2 dL_law_1006 rfl (lv_at hl 2 rfl) ?_
  refine lv_aload_n h1 h2 dL_law_1007 rfl (lv_at hl 0 rfl) ?_
  refine lv_iload_n h1 h2 dL_law_1008 rfl (lv_at hl 3 rfl) ?_
  refine lv_iconst (v := 1) h1 h2 dL_law_1009 (by decide) ?_
  refine lv_iadd h1 h2 dL_law_1010 ?_
  refine va_sld h1 h2 C.2.1.1 C.2.1.2 hbA hS hv1 dL_law_1011 ?_
  refine tr_lci (i := 0) (a1 := adm) (a2 := adx) (Y2 := tr_X) (g2 := gx) (As := [.int (xs (x3 + 1).toNatClampNeg)]) (rest := [.int r0]) C.1 C.2.2.1.1 C.2.2.1.2.1 C.2.2.1.2.2 C.2.2.2.1.2 C.2.2.2.2.1.2 (fun i j hi hj h => C.2.2.2.2.2 j i hj hi h.symm) hPm hPx hS hl (c_X8_drawn l (tr_wa w adm) (xs (x3 + 1).toNatClampNeg) hm r0 gm hq2) mz_X8_drawn ml_L_124 (by decide) rfl rfl rfl rfl ⟨Nat.le_of_ble_eq_true rfl, Nat.le_of_ble_eq_true rfl⟩ rfl rfl (Nat.le_of_ble_eq_true rfl) ⟨Nat.le_of_ble_eq_true rfl, Nat.le_of_ble_eq_true rfl⟩ dL_law_1012 (fun H locs hPm hPx hS => ?_)
  refine lv_icmp_eq (tgt := 1066) h1 h2 dL_law_1015 (by decide) (fun c9 => ?_) (fun c9 => absurd rfl c9)
  exact jn _ _ hrel H locs ls hPx hPm hS hl
theorem ml_L_125 : Cond.methodLink RL 125 yX7_keep ∈ tr_T := tr_in 564 (by decide +kernel) rfl
theorem ml_L_128 : Cond.methodLink RL 128 yX8_keep ∈ tr_T := tr_in 921 (by decide +kernel) rfl
/-- call 25: keep -/
def sm_keep (Rel : tr_H → tr_H → Prop) : Prop := ∀ (v0 : Int32) (hx hm : tr_H), Rel hx hm → ∃ (r0 : Int32) (gx gm : tr_H), f_X7_keep v0 hx = some (r0, gx) ∧ f_X8_keep v0 hm = some (r0, gm) ∧ Rel gx gm
set_option maxHeartbeats 4000000 in
set_option maxRecDepth 100000 in
theorem lw_c25 {p : Program} {l : Launch} {e : Env} {s : State} {m : MethodId} {below : List Frame} {meth : Method} {c : Code} {b L : Nat} {xs : Nat → Int32} {w : tr_E} {adx adm : Nat → Nat} {Rel : tr_H → tr_H → Prop} (hs : sm_keep Rel) (C : tr_LC p s m c b L xs w adx adm) (x3 : Int32) (hv1 : vp_in (x3 + 1) L) (hv2 : vp_in (x3 + 2) L) (hv3 : vp_in (x3 + 3) L) (hv4 : vp_in (x3 + 4) L) (hv5 : vp_in (x3 + 5) L) (jn : ∀ hx hm, Rel hx hm → lw_W p l e s m below meth c b w adx adm 1066 x3 hx hm) : ∀ hx hm, Rel hx hm → lw_W p l e s m below meth c b w adx adm 1020 x3 hx hm := by
  intro hx hm hrel H locs ls hPx hPm hS hl
  have h1 := C.1.1
  have h2 : c.code = cL_law := C.1.2.1
  have hbA : ¬ (fun q : Nat => s.heap.size ≤ q) b := Nat.not_le.mpr C.2.1.2
  refine lv_aload_n h1 h2 dL_law_1020 rfl (lv_at hl 1 rfl) ?_
  refine lv_aload_n h1 h2 dL_law_1021 rfl (lv_at hl 0 rfl) ?_
  refine lv_iload_n h1 h2 dL_law_1022 rfl (lv_at hl 3 rfl) ?_
  refine lv_iconst (v := 1) h1 h2 dL_law_1023 (by decide) ?_
  refine lv_iadd h1 h2 dL_law_1024 ?_
  refine va_sld h1 h2 C.2.1.1 C.2.1.2 hbA hS hv1 dL_law_1025 ?_
  obtain ⟨r0, gx, gm, hq1, hq2, hrel⟩ := hs (xs (x3 + 1).toNatClampNeg) hx hm hrel
  refine tr_lci (i := 0) (a1 := adx) (a2 := adm) (Y2 := tr_M) (g2 := hm) (As := [.int (xs (x3 + 1).toNatClampNeg)]) (rest := []) C.1 C.2.2.1.1 C.2.2.1.2.1 C.2.2.1.2.2 C.2.2.2.1.1 C.2.2.2.2.1.1 C.2.2.2.2.2 hPx hPm hS hl (c_X7_keep l (tr_wa w adx) (xs (x3 + 1).toNatClampNeg) hx r0 gx hq1) mz_X7_keep ml_L_125 (by decide) rfl rfl rfl rfl ⟨Nat.le_of_ble_eq_true rfl, Nat.le_of_ble_eq_true rfl⟩ rfl rfl (Nat.le_of_ble_eq_true rfl) ⟨Nat.le_of_ble_eq_true rfl, Nat.le_of_ble_eq_true rfl⟩ dL_law_1026 (fun H locs hPx hPm hS => ?_)
  refine lv_aload_n h1 h2 dL_law_1029 rfl (lv_at hl 2 rfl) ?_
  refine lv_aload_n h1 h2 dL_law_1030 rfl (lv_at hl 0 rfl) ?_
  refine lv_iload_n h1 h2 dL_law_1031 rfl (lv_at hl 3 rfl) ?_
  refine lv_iconst (v := 1) h1 h2 dL_law_1032 (by decide) ?_
  refine lv_iadd h1 h2 dL_law_1033 ?_
  refine va_sld h1 h2 C.2.1.1 C.2.1.2 hbA hS hv1 dL_law_1034 ?_
  refine tr_lci (i := 0) (a1 := adm) (a2 := adx) (Y2 := tr_X) (g2 := gx) (As := [.int (xs (x3 + 1).toNatClampNeg)]) (rest := [.int r0]) C.1 C.2.2.1.1 C.2.2.1.2.1 C.2.2.1.2.2 C.2.2.2.1.2 C.2.2.2.2.1.2 (fun i j hi hj h => C.2.2.2.2.2 j i hj hi h.symm) hPm hPx hS hl (c_X8_keep l (tr_wa w adm) (xs (x3 + 1).toNatClampNeg) hm r0 gm hq2) mz_X8_keep ml_L_128 (by decide) rfl rfl rfl rfl ⟨Nat.le_of_ble_eq_true rfl, Nat.le_of_ble_eq_true rfl⟩ rfl rfl (Nat.le_of_ble_eq_true rfl) ⟨Nat.le_of_ble_eq_true rfl, Nat.le_of_ble_eq_true rfl⟩ dL_law_1035 (fun H locs hPm hPx hS => ?_)
  refine lv_icmp_eq (tgt := 1066) h1 h2 dL_law_1038 (by decide) (fun c9 => ?_) (fun c9 => absurd rfl c9)
  exact jn _ _ hrel H locs ls hPx hPm hS hl
theorem ml_L_129 : Cond.methodLink RL 129 yX7_again ∈ tr_T := tr_in 568 (by decide +kernel) rfl
theorem ml_L_132 : Cond.methodLink RL 132 yX8_again ∈ tr_T := tr_in 925 (by decide +kernel) rfl
/-- call 26: again -/
def sm_again (Rel : tr_H → tr_H → Prop) : Prop := ∀ (v0 : Int32) (hx hm : tr_H), Rel hx hm → ∃ (r0 : Int32) (gx gm : tr_H), f_X7_again v0 hx = some (r0, gx) ∧ f_X8_again v0 hm = some (r0, gm) ∧ Rel gx gm
set_option maxHeartbeats 4000000 in
set_option maxRecDepth 100000 in
theorem lw_c26 {p : Program} {l : Launch} {e : Env} {s : State} {m : MethodId} {below : List Frame} {meth : Method} {c : Code} {b L : Nat} {xs : Nat → Int32} {w : tr_E} {adx adm : Nat → Nat} {Rel : tr_H → tr_H → Prop} (hs : sm_again Rel) (C : tr_LC p s m c b L xs w adx adm) (x3 : Int32) (hv1 : vp_in (x3 + 1) L) (hv2 : vp_in (x3 + 2) L) (hv3 : vp_in (x3 + 3) L) (hv4 : vp_in (x3 + 4) L) (hv5 : vp_in (x3 + 5) L) (jn : ∀ hx hm, Rel hx hm → lw_W p l e s m below meth c b w adx adm 1066 x3 hx hm) : ∀ hx hm, Rel hx hm → lw_W p l e s m below meth c b w adx adm 1043 x3 hx hm := by
  intro hx hm hrel H locs ls hPx hPm hS hl
  have h1 := C.1.1
  have h2 : c.code = cL_law := C.1.2.1
  have hbA : ¬ (fun q : Nat => s.heap.size ≤ q) b := Nat.not_le.mpr C.2.1.2
  refine lv_aload_n h1 h2 dL_law_1043 rfl (lv_at hl 1 rfl) ?_
  refine lv_aload_n h1 h2 dL_law_1044 rfl (lv_at hl 0 rfl) ?_
  refine lv_iload_n h1 h2 dL_law_1045 rfl (lv_at hl 3 rfl) ?_
  refine lv_iconst (v := 1) h1 h2 dL_law_1046 (by decide) ?_
  refine lv_iadd h1 h2 dL_law_1047 ?_
  refine va_sld h1 h2 C.2.1.1 C.2.1.2 hbA hS hv1 dL_law_1048 ?_
  obtain ⟨r0, gx, gm, hq1, hq2, hrel⟩ := hs (xs (x3 + 1).toNatClampNeg) hx hm hrel
  refine tr_lci (i := 0) (a1 := adx) (a2 := adm) (Y2 := tr_M) (g2 := hm) (As := [.int (xs (x3 + 1).toNatClampNeg)]) (rest := []) C.1 C.2.2.1.1 C.2.2.1.2.1 C.2.2.1.2.2 C.2.2.2.1.1 C.2.2.2.2.1.1 C.2.2.2.2.2 hPx hPm hS hl (c_X7_again l (tr_wa w adx) (xs (x3 + 1).toNatClampNeg) hx r0 gx hq1) mz_X7_again ml_L_129 (by decide) rfl rfl rfl rfl ⟨Nat.le_of_ble_eq_true rfl, Nat.le_of_ble_eq_true rfl⟩ rfl rfl (Nat.le_of_ble_eq_true rfl) ⟨Nat.le_of_ble_eq_true rfl, Nat.le_of_ble_eq_true rfl⟩ dL_law_1049 (fun H locs hPx hPm hS => ?_)
  refine lv_aload_n h1 h2 dL_law_1052 rfl (lv_at hl 2 rfl) ?_
  refine lv_aload_n h1 h2 dL_law_1053 rfl (lv_at hl 0 rfl) ?_
  refine lv_iload_n h1 h2 dL_law_1054 rfl (lv_at hl 3 rfl) ?_
  refine lv_iconst (v := 1) h1 h2 dL_law_1055 (by decide) ?_
  refine lv_iadd h1 h2 dL_law_1056 ?_
  refine va_sld h1 h2 C.2.1.1 C.2.1.2 hbA hS hv1 dL_law_1057 ?_
  refine tr_lci (i := 0) (a1 := adm) (a2 := adx) (Y2 := tr_X) (g2 := gx) (As := [.int (xs (x3 + 1).toNatClampNeg)]) (rest := [.int r0]) C.1 C.2.2.1.1 C.2.2.1.2.1 C.2.2.1.2.2 C.2.2.2.1.2 C.2.2.2.2.1.2 (fun i j hi hj h => C.2.2.2.2.2 j i hj hi h.symm) hPm hPx hS hl (c_X8_again l (tr_wa w adm) (xs (x3 + 1).toNatClampNeg) hm r0 gm hq2) mz_X8_again ml_L_132 (by decide) rfl rfl rfl rfl ⟨Nat.le_of_ble_eq_true rfl, Nat.le_of_ble_eq_true rfl⟩ rfl rfl (Nat.le_of_ble_eq_true rfl) ⟨Nat.le_of_ble_eq_true rfl, Nat.le_of_ble_eq_true rfl⟩ dL_law_1058 (fun H locs hPm hPx hS => ?_)
  refine lv_icmp_eq (tgt := 1066) h1 h2 dL_law_1061 (by decide) (fun c9 => ?_) (fun c9 => absurd rfl c9)
  exact jn _ _ hrel H locs ls hPx hPm hS hl
def tr_Sim (Rel : tr_H → tr_H → Prop) : Prop := sm_write Rel ∧ sm_wipe Rel ∧ sm_fault Rel ∧ sm_net Rel ∧ sm_about Rel ∧ sm_minutes Rel ∧ sm_put Rel ∧ sm_cut Rel ∧ sm_time Rel ∧ sm_undo Rel ∧ sm_pace Rel ∧ sm_critical Rel ∧ sm_departs Rel ∧ sm_spare Rel ∧ sm_late Rel ∧ sm_dies Rel ∧ sm_best Rel ∧ sm_judge Rel ∧ sm_share Rel ∧ sm_see Rel ∧ sm_unsee Rel ∧ sm_began Rel ∧ sm_dropped Rel ∧ sm_seed Rel ∧ sm_drawn Rel ∧ sm_keep Rel ∧ sm_again Rel
