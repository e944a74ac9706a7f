/-! rows of the machine over our world -/
section TRR
variable {p : Program} {l : Launch} {e : Env} {R : Room} {s : State} {m : MethodId} {args : Array Value} {below : List Frame} {meth : Method} {c : Code} {H : Heap} {locs : List Loc} {cells slots : Nat} {Q : State → Prop}
variable {cc : ByteArray} {nL pc : Nat} {own : String} {Y : tr_Y} {w : tr_E} {h : tr_H} {ls : Array Slot} {rest : List Value}
def tr_Ar (Y : tr_Y) (w : tr_E) (j n : Nat) : Prop := j < Y.1 ∧ ∀ f g, Y.2 (tr_ad w) w.2.1 j f g = .inl (w.2.1 0, n, .inl f)
def tr_Az (Y : tr_Y) (w : tr_E) (j n : Nat) : Prop := j < Y.1 ∧ ∀ f g, Y.2 (tr_ad w) w.2.1 j f g = .inl (w.2.1 1, n, .inl f)
def tr_Wd (p : Program) (l : Launch) (e : Env) (R : Room) (s : State) (m : MethodId) (args : Array Value) (below : List Frame) (meth : Method) (c : Code) (Q : State → Prop) (Y : tr_Y) (w : tr_E) (nL : Nat) (pc : Nat) (lv : List (Nat × Value)) (st : List Value) (h : tr_H) : Prop :=
  ∀ (H : Heap) (locs : List Loc) (ls : Array Slot), va_P w.1 vwCl (tr_cs Y w h) H → va_S (tr_R Y w) s.heap H locs → lv_has ls nL lv → W p l e R s m args below meth c H locs 0 0 Q (F0 m pc ls st)
theorem tr_ial (C : tr_Cx p s m args c cc nL own Y w) (hP : va_P w.1 vwCl (tr_cs Y w h) H) {j n : Nat} (ha : tr_Ar Y w j n) {i : Int32} (hin : vp_in i n) (hdg : decode cc pc = .ok (.iaload, 1))
    (kk : W p l e R s m args below meth c H locs cells slots Q (F0 m (pc + 1) ls (.int (h.1 j i.toNatClampNeg) :: rest))) : W p l e R s m args below meth c H locs cells slots Q (F0 m pc ls (.int i :: .ref (tr_ad w j) :: rest)) := by
  obtain ⟨hx, hb, hml, hown, hts, hG⟩ := C
  exact va_iald hx hb hG.1 hP j 0 (by rw [tr_cs_at ha.1, ha.2]) rfl hin hdg kk
theorem tr_zal (C : tr_Cx p s m args c cc nL own Y w) (hP : va_P w.1 vwCl (tr_cs Y w h) H) {j n : Nat} (ha : tr_Az Y w j n) {i : Int32} (hin : vp_in i n) (hdg : decode cc pc = .ok (.baload, 1))
    (kk : W p l e R s m args below meth c H locs cells slots Q (F0 m (pc + 1) ls (.int (h.1 j i.toNatClampNeg) :: rest))) : W p l e R s m args below meth c H locs cells slots Q (F0 m pc ls (.int i :: .ref (tr_ad w j) :: rest)) := by
  obtain ⟨hx, hb, hml, hown, hts, hG⟩ := C
  exact va_zald hx hb hG.1 hP j 1 (by rw [tr_cs_at ha.1, ha.2]) rfl hin hdg kk
theorem tr_alen (C : tr_Cx p s m args c cc nL own Y w) (hP : va_P w.1 vwCl (tr_cs Y w h) H) {j n : Nat} (ha : tr_Ar Y w j n) {v : Int32} (hv : Int32.ofNat n = v) (hdg : decode cc pc = .ok (.arraylength, 1))
    (kk : W p l e R s m args below meth c H locs cells slots Q (F0 m (pc + 1) ls (.int v :: rest))) : W p l e R s m args below meth c H locs cells slots Q (F0 m pc ls (.ref (tr_ad w j) :: rest)) := by
  obtain ⟨hx, hb, hml, hown, hts, hG⟩ := C
  exact va_alen (x := (n, .inl (h.1 j))) hx hb hG.1 hP j 0 (by rw [tr_cs_at ha.1, ha.2]) (ty := .int) rfl hv hdg kk
theorem tr_ias (C : tr_Cx p s m args c cc nL own Y w) (hP : va_P w.1 vwCl (tr_cs Y w h) H) (hS : va_S (tr_R Y w) s.heap H locs) {j n : Nat} (ha : tr_Ar Y w j n) {i x : Int32} (hin : vp_in i n) (hdg : decode cc pc = .ok (.iastore, 1))
    (kk : ∀ (H1 : Heap) (locs1 : List Loc), va_P w.1 vwCl (tr_cs Y w (tr_si h j i.toNatClampNeg x)) H1 → va_S (tr_R Y w) s.heap H1 locs1 → W p l e R s m args below meth c H1 locs1 cells slots Q (F0 m (pc + 1) ls rest)) : W p l e R s m args below meth c H locs cells slots Q (F0 m pc ls (.int x :: .int i :: .ref (tr_ad w j) :: rest)) := by
  obtain ⟨hx, hb, hml, hown, hts, hG⟩ := C
  refine va_iast (n := n) (f := h.1 j) (cA := w.2.1 0) hx hb hG.1 hP (hG.2.1.D h) hS j 0 (by rw [tr_cs_at ha.1, ha.2]) rfl hin hdg (fun H1 locs1 hP1 hD1 hS1 => ?_)
  rw [tr_cs_seta ha.1 (ha.2 _ _)] at hP1
  exact kk H1 locs1 hP1 hS1
theorem tr_zas (C : tr_Cx p s m args c cc nL own Y w) (hP : va_P w.1 vwCl (tr_cs Y w h) H) (hS : va_S (tr_R Y w) s.heap H locs) {j n : Nat} (ha : tr_Az Y w j n) {i x : Int32} (hin : vp_in i n) (hx1 : vp_nar .boolean x = x) (hdg : decode cc pc = .ok (.bastore, 1))
    (kk : ∀ (H1 : Heap) (locs1 : List Loc), va_P w.1 vwCl (tr_cs Y w (tr_si h j i.toNatClampNeg x)) H1 → va_S (tr_R Y w) s.heap H1 locs1 → W p l e R s m args below meth c H1 locs1 cells slots Q (F0 m (pc + 1) ls rest)) : W p l e R s m args below meth c H locs cells slots Q (F0 m pc ls (.int x :: .int i :: .ref (tr_ad w j) :: rest)) := by
  obtain ⟨hx, hb, hml, hown, hts, hG⟩ := C
  refine va_zast (n := n) (f := h.1 j) (cA := w.2.1 1) hx hb hG.1 hP (hG.2.1.D h) hS j 1 (by rw [tr_cs_at ha.1, ha.2]) rfl hin hdg (fun H1 locs1 hP1 hD1 hS1 => ?_)
  rw [hx1, tr_cs_seta ha.1 (ha.2 _ _)] at hP1
  exact kk H1 locs1 hP1 hS1
/-! fields -/
theorem tr_gf (C : tr_Cx p s m args c cc nL own Y w) (hP : va_P w.1 vwCl (tr_cs Y w h) H) {i ci k N idx : Nat} {fs : List Value} {K : String} {T : u_T} {v : Value} (hi : i < Y.1) (he : Y.2 (tr_ad w) w.2.1 i (h.1 i) (h.2 i) = .inr (ci, fs)) (hc : vwCl[ci]? = some (K, T, N)) (hin : ∀ x ∈ u_ws K T N, x ∈ tr_T) (hk : k < N) (hlk : Cond.fieldLink own idx K (T k).2.1 (T k).2.2.1 ∈ tr_T) (hT : (T k).1 = K) (hv : fs[k]? = some v) (hdg : decode cc pc = .ok (.getfield idx, 3))
    (kk : W p l e R s m args below meth c H locs cells slots Q (F0 m (pc + 3) ls (v :: rest))) : W p l e R s m args below meth c H locs cells slots Q (F0 m pc ls (.ref (tr_ad w i) :: rest)) := by
  obtain ⟨hx, hb, hml, hown, hts, hG⟩ := C
  exact va_get hx hb hts hin hown hG.1 hP i (by rw [tr_cs_at hi, he]) hc k hk (hts _ hlk) (fun x hx1 => by rw [hT] at hx1; exact hx1) hv hdg kk
theorem tr_gfN (C : tr_Cx p s m args c cc nL own Y w) (hP : va_P w.1 vwCl (tr_cs Y w h) H) {i ci k N idx : Nat} {fs : List Value} {K host : String} {T : u_T} {v : Value} (hi : i < Y.1) (he : Y.2 (tr_ad w) w.2.1 i (h.1 i) (h.2 i) = .inr (ci, fs)) (hc : vwCl[ci]? = some (K, T, N)) (hin : ∀ x ∈ u_ws K T N, x ∈ tr_T) (hk : k < N) (hlk : (own, idx, K, (T k).2.1, (T k).2.2.1, host) ∈ tr_nl) (hT : (T k).1 = K) (hv : fs[k]? = some v) (hdg : decode cc pc = .ok (.getfield idx, 3))
    (kk : W p l e R s m args below meth c H locs cells slots Q (F0 m (pc + 3) ls (v :: rest))) : W p l e R s m args below meth c H locs cells slots Q (F0 m pc ls (.ref (tr_ad w i) :: rest)) := by
  obtain ⟨hx, hb, hml, hown, hts, hG⟩ := C
  exact va_getN hx hb hts hin hown hG.1 hP i (by rw [tr_cs_at hi, he]) hc k hk (va_Nw.use rfl (hG.2.2.1 _ hlk)) (fun x hx1 => by rw [hT] at hx1; exact hx1) hv hdg kk
theorem tr_pfi (C : tr_Cx p s m args c cc nL own Y w) (hP : va_P w.1 vwCl (tr_cs Y w h) H) (hS : va_S (tr_R Y w) s.heap H locs) {i ci k N idx : Nat} {fs : List Value} {K : String} {T : u_T} (ty0 : Nat → FieldType) (hty : ∀ k, k < N → parseFieldDescriptor (T k).2.2.1 = some (ty0 k)) (hnm : ∀ a, a < N → ∀ b, b < N → a ≠ b → (T a).2.1 ≠ (T b).2.1) {v : Int32} (hi : i < Y.1) (he : Y.2 (tr_ad w) w.2.1 i (h.1 i) (h.2 i) = .inr (ci, fs)) (hc : vwCl[ci]? = some (K, T, N)) (hin : ∀ x ∈ u_ws K T N, x ∈ tr_T) (hk : k < N) (hlk : Cond.fieldLink own idx K (T k).2.1 (T k).2.2.1 ∈ tr_T) (hT : (T k).1 = K) (hfin : (T k).2.2.2 = false) (hd : parseFieldDescriptor (T k).2.2.1 = some .int) (hl : k < fs.length) (he2 : Y.2 (tr_ad w) w.2.1 i (upd (h.1 i) k v) (h.2 i) = .inr (ci, fs.set k (.int v))) (hdg : decode cc pc = .ok (.putfield idx, 3))
    (kk : ∀ (H1 : Heap) (locs1 : List Loc), va_P w.1 vwCl (tr_cs Y w (tr_si h i k v)) H1 → va_S (tr_R Y w) s.heap H1 locs1 → W p l e R s m args below meth c H1 locs1 cells slots Q (F0 m (pc + 3) ls rest)) : W p l e R s m args below meth c H locs cells slots Q (F0 m pc ls (.int v :: .ref (tr_ad w i) :: rest)) := by
  obtain ⟨hx, hb, hml, hown, hts, hG⟩ := C
  refine va_put (ty := .int) (v := .int v) hx hb hts hin ty0 hty hnm hown hG.1 hP (hG.2.1.D h) hS i (by rw [tr_cs_at hi, he]) hc k hk (hts _ hlk) (fun x hx1 => by rw [hT] at hx1; exact hx1) hfin hd rfl rfl hl hdg (fun H1 locs1 hP1 hD1 hS1 => ?_)
  rw [tr_cs_seta hi he2] at hP1
  exact kk H1 locs1 hP1 hS1
theorem tr_pfiN (C : tr_Cx p s m args c cc nL own Y w) (hP : va_P w.1 vwCl (tr_cs Y w h) H) (hS : va_S (tr_R Y w) s.heap H locs) {i ci k N idx : Nat} {fs : List Value} {K host : String} {T : u_T} (ty0 : Nat → FieldType) (hty : ∀ k, k < N → parseFieldDescriptor (T k).2.2.1 = some (ty0 k)) (hnm : ∀ a, a < N → ∀ b, b < N → a ≠ b → (T a).2.1 ≠ (T b).2.1) {v : Int32} (hi : i < Y.1) (he : Y.2 (tr_ad w) w.2.1 i (h.1 i) (h.2 i) = .inr (ci, fs)) (hc : vwCl[ci]? = some (K, T, N)) (hin : ∀ x ∈ u_ws K T N, x ∈ tr_T) (hk : k < N) (hlk : (own, idx, K, (T k).2.1, (T k).2.2.1, host) ∈ tr_nl) (hT : (T k).1 = K) (hfin : (T k).2.2.2 = false) (hd : parseFieldDescriptor (T k).2.2.1 = some .int) (hl : k < fs.length) (he2 : Y.2 (tr_ad w) w.2.1 i (upd (h.1 i) k v) (h.2 i) = .inr (ci, fs.set k (.int v))) (hdg : decode cc pc = .ok (.putfield idx, 3))
    (kk : ∀ (H1 : Heap) (locs1 : List Loc), va_P w.1 vwCl (tr_cs Y w (tr_si h i k v)) H1 → va_S (tr_R Y w) s.heap H1 locs1 → W p l e R s m args below meth c H1 locs1 cells slots Q (F0 m (pc + 3) ls rest)) : W p l e R s m args below meth c H locs cells slots Q (F0 m pc ls (.int v :: .ref (tr_ad w i) :: rest)) := by
  obtain ⟨hx, hb, hml, hown, hts, hG⟩ := C
  refine va_putN (ty := .int) (v := .int v) hx hb hts hin ty0 hty hnm hown hG.1 hP (hG.2.1.D h) hS i (by rw [tr_cs_at hi, he]) hc k hk (va_Nw.use rfl (hG.2.2.1 _ hlk)) (fun x hx1 => by rw [hT] at hx1; exact hx1) hfin hd rfl rfl hl hdg (fun H1 locs1 hP1 hD1 hS1 => ?_)
  rw [tr_cs_seta hi he2] at hP1
  exact kk H1 locs1 hP1 hS1
theorem tr_pfl (C : tr_Cx p s m args c cc nL own Y w) (hP : va_P w.1 vwCl (tr_cs Y w h) H) (hS : va_S (tr_R Y w) s.heap H locs) {i ci k N idx : Nat} {fs : List Value} {K : String} {T : u_T} (ty0 : Nat → FieldType) (hty : ∀ k, k < N → parseFieldDescriptor (T k).2.2.1 = some (ty0 k)) (hnm : ∀ a, a < N → ∀ b, b < N → a ≠ b → (T a).2.1 ≠ (T b).2.1) {v : Int64} (hi : i < Y.1) (he : Y.2 (tr_ad w) w.2.1 i (h.1 i) (h.2 i) = .inr (ci, fs)) (hc : vwCl[ci]? = some (K, T, N)) (hin : ∀ x ∈ u_ws K T N, x ∈ tr_T) (hk : k < N) (hlk : Cond.fieldLink own idx K (T k).2.1 (T k).2.2.1 ∈ tr_T) (hT : (T k).1 = K) (hfin : (T k).2.2.2 = false) (hd : parseFieldDescriptor (T k).2.2.1 = some .long) (hl : k < fs.length) (he2 : Y.2 (tr_ad w) w.2.1 i (h.1 i) (vp_updL (h.2 i) k v) = .inr (ci, fs.set k (.long v))) (hdg : decode cc pc = .ok (.putfield idx, 3))
    (kk : ∀ (H1 : Heap) (locs1 : List Loc), va_P w.1 vwCl (tr_cs Y w (tr_sl h i k v)) H1 → va_S (tr_R Y w) s.heap H1 locs1 → W p l e R s m args below meth c H1 locs1 cells slots Q (F0 m (pc + 3) ls rest)) : W p l e R s m args below meth c H locs cells slots Q (F0 m pc ls (.long v :: .ref (tr_ad w i) :: rest)) := by
  obtain ⟨hx, hb, hml, hown, hts, hG⟩ := C
  refine va_put (ty := .long) (v := .long v) hx hb hts hin ty0 hty hnm hown hG.1 hP (hG.2.1.D h) hS i (by rw [tr_cs_at hi, he]) hc k hk (hts _ hlk) (fun x hx1 => by rw [hT] at hx1; exact hx1) hfin hd rfl rfl hl hdg (fun H1 locs1 hP1 hD1 hS1 => ?_)
  rw [tr_cs_setb hi he2] at hP1
  exact kk H1 locs1 hP1 hS1
/-! names for what is computed -/
theorem tr_ti {α : Type} {x : Int32} {f : Int32 → Option α} {P : α → Prop} (hk : tr_ok (tr_bd x f) P) (k : ∀ y, tr_ok (f y) P → W p l e R s m args below meth c H locs cells slots Q (F0 m pc ls (.int y :: rest))) : W p l e R s m args below meth c H locs cells slots Q (F0 m pc ls (.int x :: rest)) := k x hk
theorem tr_tl {α : Type} {x : Int64} {f : Int64 → Option α} {P : α → Prop} (hk : tr_ok (tr_bd x f) P) (k : ∀ y, tr_ok (f y) P → W p l e R s m args below meth c H locs cells slots Q (F0 m pc ls (.long y :: rest))) : W p l e R s m args below meth c H locs cells slots Q (F0 m pc ls (.long x :: rest)) := k x hk
theorem tr_th {α : Type} {h1 : tr_H} {f : tr_H → Option α} {P : α → Prop} {X : Prop} (hk : tr_ok (tr_bd h1 f) P) (hP : va_P w.1 vwCl (tr_cs Y w h1) H) (k : ∀ h2, tr_ok (f h2) P → va_P w.1 vwCl (tr_cs Y w h2) H → X) : X := k h1 hk hP
/-! calls -/
theorem tr_pre (C : tr_Cx p s m args c cc nL own Y w) (hP : va_P w.1 vwCl (tr_cs Y w h) H) (hS : va_S (tr_R Y w) s.heap H locs) (U : State) (hU : U.heap = H) (hW : s.WarmedH U.vm) : tr_Wo Y w h U := by
  subst hU
  exact ⟨hP, C.2.2.2.2.2.go hS hW⟩
variable {y : MethodName} {bytes : ByteArray} {maxL n idx : Nat} {ret : Option FieldType} {rm : Room} {As : List Value} {h1 : tr_H}
theorem tr_wv {K : String} (C : tr_Cx p s m args c cc nL own Y w) (hz : tr_Mv K y bytes maxL ret n) (hlk : Cond.methodLink own idx y ∈ tr_T) (hrc : rm.cells = 0) (hrs : rm.slots = 0) (hR : rm.frames + 1 ≤ R.frames ∧ 8 + (maxL + 11) + rm.locals ≤ R.locals) :
    CallW R s args own K idx y bytes maxL ret (Cond.code y bytes maxL ret :: tr_T) rm 0 0 n := by
  obtain ⟨hx, hb, hml, hown, hts, hG⟩ := C
  refine cwV n hts (tr_gi ?_) rfl hrc hrs hz.2.2.2.2 hR
  intro x hx1
  simp only [wsV, List.mem_append, List.mem_cons, List.not_mem_nil, or_false] at hx1
  rcases hx1 with (rfl | rfl | rfl | rfl) | rfl | hx1
  · exact hlk
  · exact hz.1
  · exact hz.2.1
  · exact hz.2.2.1
  · exact hz.2.2.2.1
  · exact hx1
theorem tr_ws (C : tr_Cx p s m args c cc nL own Y w) (hz : tr_Ms y bytes maxL ret n) (hlk : Cond.methodLink own idx y ∈ tr_T) (hrc : rm.cells = 0) (hrs : rm.slots = 0) (hR : rm.frames + 1 ≤ R.frames ∧ 8 + (maxL + 11) + rm.locals ≤ R.locals) :
    CallB R s args own idx y bytes maxL ret (Cond.code y bytes maxL ret :: tr_T) rm 0 0 n ∧ (Cond.static y).before args s = true := by
  obtain ⟨hx, hb, hml, hown, hts, hG⟩ := C
  refine ⟨callB_of n hts (tr_gi ?_) rfl hrc hrs (hts _ hz.2.1) (hts _ hlk) hz.2.2.2 hR, hts _ hz.1⟩
  intro x hx1
  rcases List.mem_cons.mp hx1 with rfl | hx1
  · exact hz.2.2.1
  · exact hx1
/-- the contract of a method that answers an int (or a boolean), a long, nothing -/
abbrev tr_Qi (Y : tr_Y) (w : tr_E) (r0 : Int32) (h1 : tr_H) : Array Value → State → Outcome → State → Prop := va_Qi (fun (r : Int32) (u : tr_H) => r = r0 ∧ u = h1) (fun u t => tr_Wo Y w u t) (tr_R Y w)
abbrev tr_Ql (Y : tr_Y) (w : tr_E) (r0 : Int64) (h1 : tr_H) : Array Value → State → Outcome → State → Prop := va_Ql (fun (r : Int64) (u : tr_H) => r = r0 ∧ u = h1) (fun u t => tr_Wo Y w u t) (tr_R Y w)
abbrev tr_Qv (Y : tr_Y) (w : tr_E) (h1 : tr_H) : Array Value → State → Outcome → State → Prop := va_Qv (fun (u : tr_H) => u = h1) (fun u t => tr_Wo Y w u t) (tr_R Y w)
theorem tr_cvi {K : String} {T : u_T} {i ci N : Nat} {fs : List Value} {st : List Value} {r0 : Int32} {lv : List (Nat × Value)} (C : tr_Cx p s m args c cc nL own Y w) (hP : va_P w.1 vwCl (tr_cs Y w h) H) (hS : va_S (tr_R Y w) s.heap H locs) (hl : lv_has ls nL lv)
    (hM : Met l y (Cond.code y bytes maxL ret :: tr_T) rm (va_Pc (.ref (tr_ad w i) :: As) (tr_Wo Y w h)) (tr_Qi Y w r0 h1) 0 0 (tr_R Y w)) (hz : tr_Mv K y bytes maxL ret n) (hlk : Cond.methodLink own idx y ∈ tr_T) (hi : i < Y.1) (he : Y.2 (tr_ad w) w.2.1 i (h.1 i) (h.2 i) = .inr (ci, fs)) (hc : vwCl[ci]? = some (K, T, N))
    (hrc : rm.cells = 0) (hrs : rm.slots = 0) (hR : rm.frames + 1 ≤ R.frames ∧ 8 + (maxL + 11) + rm.locals ≤ R.locals) (hn : As.length = n) (hst : st = As.reverse ++ .ref (tr_ad w i) :: rest) (hro : (rest.map fun v => v.category).sum ≤ 8) (hf : cells ≤ R.cells ∧ slots ≤ R.slots) (hdg : decode cc pc = .ok (.invokevirtual idx, 3))
    (kk : ∀ (H1 : Heap) (locs1 : List Loc), va_P w.1 vwCl (tr_cs Y w h1) H1 → va_S (tr_R Y w) s.heap H1 locs1 → W p l e R s m args below meth c H1 locs1 cells slots Q (F0 m (pc + 3) ls (.int r0 :: rest))) : W p l e R s m args below meth c H locs cells slots Q (F0 m pc ls st) := by
  subst hst
  refine va_calli (va_runV (As := As) (rest := rest) ⟨C.1, C.2.1, C.2.2.1, C.2.2.2.1, C.2.2.2.2.1⟩ hM (tr_wv C hz hlk hrc hrs hR) ⟨tr_Wo.blind, va_recv C.2.2.2.2.2.1 hP hc (by rw [tr_cs_at hi, he]), fun U hU hW => ⟨rfl, tr_pre C hP hS U hU hW⟩⟩ rfl hn hl.1 rfl (lv_room hro) hdg ⟨hf.1, hf.2⟩) hS (fun q _ h => h) (fun q h => h) (fun r u t H1 locs1 ht hvm hw hB hz1 hk1 hS1 => ?_)
  obtain ⟨rfl, rfl⟩ := hw
  exact kk H1 locs1 (by rw [← ht]; exact hB.1) hS1
theorem tr_cvv {K : String} {T : u_T} {i ci N : Nat} {fs : List Value} {st : List Value} {lv : List (Nat × Value)} (C : tr_Cx p s m args c cc nL own Y w) (hP : va_P w.1 vwCl (tr_cs Y w h) H) (hS : va_S (tr_R Y w) s.heap H locs) (hl : lv_has ls nL lv)
    (hM : Met l y (Cond.code y bytes maxL ret :: tr_T) rm (va_Pc (.ref (tr_ad w i) :: As) (tr_Wo Y w h)) (tr_Qv Y w h1) 0 0 (tr_R Y w)) (hz : tr_Mv K y bytes maxL ret n) (hlk : Cond.methodLink own idx y ∈ tr_T) (hi : i < Y.1) (he : Y.2 (tr_ad w) w.2.1 i (h.1 i) (h.2 i) = .inr (ci, fs)) (hc : vwCl[ci]? = some (K, T, N))
    (hrc : rm.cells = 0) (hrs : rm.slots = 0) (hR : rm.frames + 1 ≤ R.frames ∧ 8 + (maxL + 11) + rm.locals ≤ R.locals) (hn : As.length = n) (hst : st = As.reverse ++ .ref (tr_ad w i) :: rest) (hro : (rest.map fun v => v.category).sum ≤ 8) (hf : cells ≤ R.cells ∧ slots ≤ R.slots) (hdg : decode cc pc = .ok (.invokevirtual idx, 3))
    (kk : ∀ (H1 : Heap) (locs1 : List Loc), va_P w.1 vwCl (tr_cs Y w h1) H1 → va_S (tr_R Y w) s.heap H1 locs1 → W p l e R s m args below meth c H1 locs1 cells slots Q (F0 m (pc + 3) ls rest)) : W p l e R s m args below meth c H locs cells slots Q (F0 m pc ls st) := by
  subst hst
  refine va_callv (va_runV (As := As) (rest := rest) ⟨C.1, C.2.1, C.2.2.1, C.2.2.2.1, C.2.2.2.2.1⟩ hM (tr_wv C hz hlk hrc hrs hR) ⟨tr_Wo.blind, va_recv C.2.2.2.2.2.1 hP hc (by rw [tr_cs_at hi, he]), fun U hU hW => ⟨rfl, tr_pre C hP hS U hU hW⟩⟩ rfl hn hl.1 rfl (lv_room hro) hdg ⟨hf.1, hf.2⟩) hS (fun q _ h => h) (fun q h => h) (fun u t H1 locs1 ht hvm hw hB hz1 hk1 hS1 => ?_)
  subst hw
  exact kk H1 locs1 (by rw [← ht]; exact hB.1) hS1
theorem tr_csi {st : List Value} {r0 : Int32} {lv : List (Nat × Value)} (C : tr_Cx p s m args c cc nL own Y w) (hP : va_P w.1 vwCl (tr_cs Y w h) H) (hS : va_S (tr_R Y w) s.heap H locs) (hl : lv_has ls nL lv)
    (hM : Met l y (Cond.code y bytes maxL ret :: tr_T) rm (va_Pc As (tr_Wo Y w h)) (tr_Qi Y w r0 h1) 0 0 (tr_R Y w)) (hz : tr_Ms y bytes maxL ret n) (hlk : Cond.methodLink own idx y ∈ tr_T)
    (hrc : rm.cells = 0) (hrs : rm.slots = 0) (hR : rm.frames + 1 ≤ R.frames ∧ 8 + (maxL + 11) + rm.locals ≤ R.locals) (hn : As.length = n) (hst : st = As.reverse ++ rest) (hro : (rest.map fun v => v.category).sum ≤ 8) (hf : cells ≤ R.cells ∧ slots ≤ R.slots) (hdg : decode cc pc = .ok (.invokestatic idx, 3))
    (kk : ∀ (H1 : Heap) (locs1 : List Loc), va_P w.1 vwCl (tr_cs Y w h1) H1 → va_S (tr_R Y w) s.heap H1 locs1 → W p l e R s m args below meth c H1 locs1 cells slots Q (F0 m (pc + 3) ls (.int r0 :: rest))) : W p l e R s m args below meth c H locs cells slots Q (F0 m pc ls st) := by
  subst hst
  refine va_calli (va_runS (As := As) (rest := rest) ⟨C.1, C.2.1, C.2.2.1, C.2.2.2.1, C.2.2.2.2.1⟩ hM (tr_ws C hz hlk hrc hrs hR) ⟨tr_Wo.blind, fun U hU hW => ⟨rfl, tr_pre C hP hS U hU hW⟩⟩ rfl hn hl.1 rfl (lv_room hro) hdg ⟨hf.1, hf.2⟩) hS (fun q _ h => h) (fun q h => h) (fun r u t H1 locs1 ht hvm hw hB hz1 hk1 hS1 => ?_)
  obtain ⟨rfl, rfl⟩ := hw
  exact kk H1 locs1 (by rw [← ht]; exact hB.1) hS1
theorem tr_csl {st : List Value} {r0 : Int64} {lv : List (Nat × Value)} (C : tr_Cx p s m args c cc nL own Y w) (hP : va_P w.1 vwCl (tr_cs Y w h) H) (hS : va_S (tr_R Y w) s.heap H locs) (hl : lv_has ls nL lv)
    (hM : Met l y (Cond.code y bytes maxL ret :: tr_T) rm (va_Pc As (tr_Wo Y w h)) (tr_Ql Y w r0 h1) 0 0 (tr_R Y w)) (hz : tr_Ms y bytes maxL ret n) (hlk : Cond.methodLink own idx y ∈ tr_T)
    (hrc : rm.cells = 0) (hrs : rm.slots = 0) (hR : rm.frames + 1 ≤ R.frames ∧ 8 + (maxL + 11) + rm.locals ≤ R.locals) (hn : As.length = n) (hst : st = As.reverse ++ rest) (hro : (rest.map fun v => v.category).sum ≤ 8) (hf : cells ≤ R.cells ∧ slots ≤ R.slots) (hdg : decode cc pc = .ok (.invokestatic idx, 3))
    (kk : ∀ (H1 : Heap) (locs1 : List Loc), va_P w.1 vwCl (tr_cs Y w h1) H1 → va_S (tr_R Y w) s.heap H1 locs1 → W p l e R s m args below meth c H1 locs1 cells slots Q (F0 m (pc + 3) ls (.long r0 :: rest))) : W p l e R s m args below meth c H locs cells slots Q (F0 m pc ls st) := by
  subst hst
  refine va_calll (va_runS (As := As) (rest := rest) ⟨C.1, C.2.1, C.2.2.1, C.2.2.2.1, C.2.2.2.2.1⟩ hM (tr_ws C hz hlk hrc hrs hR) ⟨tr_Wo.blind, fun U hU hW => ⟨rfl, tr_pre C hP hS U hU hW⟩⟩ rfl hn hl.1 rfl (lv_room hro) hdg ⟨hf.1, hf.2⟩) hS (fun q _ h => h) (fun q h => h) (fun r u t H1 locs1 ht hvm hw hB hz1 hk1 hS1 => ?_)
  obtain ⟨rfl, rfl⟩ := hw
  exact kk H1 locs1 (by rw [← ht]; exact hB.1) hS1
theorem tr_csv {st : List Value} {lv : List (Nat × Value)} (C : tr_Cx p s m args c cc nL own Y w) (hP : va_P w.1 vwCl (tr_cs Y w h) H) (hS : va_S (tr_R Y w) s.heap H locs) (hl : lv_has ls nL lv)
    (hM : Met l y (Cond.code y bytes maxL ret :: tr_T) rm (va_Pc As (tr_Wo Y w h)) (tr_Qv Y w h1) 0 0 (tr_R Y w)) (hz : tr_Ms y bytes maxL ret n) (hlk : Cond.methodLink own idx y ∈ tr_T)
    (hrc : rm.cells = 0) (hrs : rm.slots = 0) (hR : rm.frames + 1 ≤ R.frames ∧ 8 + (maxL + 11) + rm.locals ≤ R.locals) (hn : As.length = n) (hst : st = As.reverse ++ rest) (hro : (rest.map fun v => v.category).sum ≤ 8) (hf : cells ≤ R.cells ∧ slots ≤ R.slots) (hdg : decode cc pc = .ok (.invokestatic idx, 3))
    (kk : ∀ (H1 : Heap) (locs1 : List Loc), va_P w.1 vwCl (tr_cs Y w h1) H1 → va_S (tr_R Y w) s.heap H1 locs1 → W p l e R s m args below meth c H1 locs1 cells slots Q (F0 m (pc + 3) ls rest)) : W p l e R s m args below meth c H locs cells slots Q (F0 m pc ls st) := by
  subst hst
  refine va_callv (va_runS (As := As) (rest := rest) ⟨C.1, C.2.1, C.2.2.1, C.2.2.2.1, C.2.2.2.2.1⟩ hM (tr_ws C hz hlk hrc hrs hR) ⟨tr_Wo.blind, fun U hU hW => ⟨rfl, tr_pre C hP hS U hU hW⟩⟩ rfl hn hl.1 rfl (lv_room hro) hdg ⟨hf.1, hf.2⟩) hS (fun q _ h => h) (fun q h => h) (fun u t H1 locs1 ht hvm hw hB hz1 hk1 hS1 => ?_)
  subst hw
  exact kk H1 locs1 (by rw [← ht]; exact hB.1) hS1
/-! ends -/
theorem tr_iret {r0 v : Int32} (C : tr_Cx p s m args c cc nL own Y w) (hP : va_P w.1 vwCl (tr_cs Y w h) H) (hS : va_S (tr_R Y w) s.heap H locs) (hr : meth.sig.returnType = some .int) (hlocks : meth.locks = false) (hv : (v, h) = (r0, h1)) (hdg : decode cc pc = .ok (.ireturn, 1)) :
    W p l e R s m args below meth c H locs cells slots (MQ below (tr_Qi Y w r0 h1) args s cells slots (tr_R Y w)) (F0 m pc ls [.int v]) := by
  cases hv
  exact W.iret C.1 C.2.1 hr (fun t ht hW => ⟨⟨_, _, rfl, ⟨rfl, rfl⟩, tr_pre C hP hS t ht hW⟩, hS.F ht⟩) hS.2.2 hdg hlocks
theorem tr_zret {r0 v : Int32} (C : tr_Cx p s m args c cc nL own Y w) (hP : va_P w.1 vwCl (tr_cs Y w h) H) (hS : va_S (tr_R Y w) s.heap H locs) (hr : meth.sig.returnType = some .boolean) (hlocks : meth.locks = false) (hn : narrow .boolean (.int v) = .int v) (hv : (v, h) = (r0, h1)) (hdg : decode cc pc = .ok (.ireturn, 1)) :
    W p l e R s m args below meth c H locs cells slots (MQ below (tr_Qi Y w r0 h1) args s cells slots (tr_R Y w)) (F0 m pc ls [.int v]) := by
  cases hv
  exact W.zret C.1 C.2.1 hr hn (fun t ht hW => ⟨⟨_, _, rfl, ⟨rfl, rfl⟩, tr_pre C hP hS t ht hW⟩, hS.F ht⟩) hS.2.2 hdg hlocks
theorem tr_lret {r0 v : Int64} (C : tr_Cx p s m args c cc nL own Y w) (hP : va_P w.1 vwCl (tr_cs Y w h) H) (hS : va_S (tr_R Y w) s.heap H locs) (hr : meth.sig.returnType = some .long) (hlocks : meth.locks = false) (hv : (v, h) = (r0, h1)) (hdg : decode cc pc = .ok (.lreturn, 1)) :
    W p l e R s m args below meth c H locs cells slots (MQ below (tr_Ql Y w r0 h1) args s cells slots (tr_R Y w)) (F0 m pc ls [.long v]) := by
  cases hv
  exact W.lret C.1 C.2.1 hr (fun t ht hW => ⟨⟨_, _, rfl, ⟨rfl, rfl⟩, tr_pre C hP hS t ht hW⟩, hS.F ht⟩) hS.2.2 hdg hlocks
theorem tr_vret (C : tr_Cx p s m args c cc nL own Y w) (hP : va_P w.1 vwCl (tr_cs Y w h) H) (hS : va_S (tr_R Y w) s.heap H locs) (hr : meth.sig.returnType = none) (hlocks : meth.locks = false) (hv : h = h1) (hdg : decode cc pc = .ok (.return_, 1)) :
    W p l e R s m args below meth c H locs cells slots (MQ below (tr_Qv Y w h1) args s cells slots (tr_R Y w)) (F0 m pc ls []) := by
  subst hv
  exact W.vret C.1 C.2.1 hr (fun t ht hW => ⟨⟨_, rfl, rfl, tr_pre C hP hS t ht hW⟩, hS.F ht⟩) hS.2.2 hdg hlocks
end TRR
/-- a contract's beginning -/
theorem tr_start {l : Launch} {y : MethodName} {cc : ByteArray} {maxL : Nat} {ret : Option FieldType} {rm : Room} {Y : tr_Y} {w : tr_E} {h : tr_H} {av : List Value} {Qc : Array Value → State → Outcome → State → Prop} (hy : plainName y.cls = true) (hav : av.length ≤ av.length)
    (body : ∀ p e s m args below meth c, tr_Cx p s m args c cc maxL y.cls Y w → meth.sig.returnType = ret → meth.locks = false → args = av.toArray → va_P w.1 vwCl (tr_cs Y w h) s.heap →
      W p l e rm s m args below meth c s.heap [] 0 0 (MQ below Qc args s 0 0 (tr_R Y w)) (entryFrame m av.toArray maxL)) :
    Met l y (Cond.code y cc maxL ret :: tr_T) rm (va_Pc av (tr_Wo Y w h)) Qc 0 0 (tr_R Y w) := by
  refine Met.ofW (cc := cc) (maxL := maxL) (ret := ret) hy rfl ?_
  intro p e s m args below meth c s₁ B hml hv
  obtain ⟨rfl, hP, hG⟩ := hv
  have hts := atoms_spec (ws := Cond.code y cc maxL ret :: tr_T) B.pre
  exact body p e s m av.toArray below meth c ⟨B.exec, B.bytes, hml, findClass_of_methodNamed B.named, fun x hx => hts x (List.mem_cons_of_mem _ hx), hG⟩ B.returns B.notSynchronized rfl hP
