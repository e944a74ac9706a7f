abbrev tr_E : Type := va_G × (Nat → ClassId) × (Nat → Nat) × (Nat → Nat)
abbrev tr_ad (w : tr_E) : Nat → Nat := w.2.2.1
abbrev tr_Y : Type := Nat × ((Nat → Nat) → (Nat → ClassId) → Nat → (Nat → Int32) → (Nat → Int64) → va_E)
def tr_cs (Y : tr_Y) (w : tr_E) (h : tr_H) : va_W := (List.range Y.1).map (fun i => (tr_ad w i, Y.2 (tr_ad w) w.2.1 i (h.1 i) (h.2 i)))
theorem tr_cs_at {Y : tr_Y} {w : tr_E} {h : tr_H} {i : Nat} (hi : i < Y.1) : (tr_cs Y w h)[i]? = some (tr_ad w i, Y.2 (tr_ad w) w.2.1 i (h.1 i) (h.2 i)) := by
  unfold tr_cs
  rw [List.getElem?_map, List.getElem?_range hi]
  rfl
theorem tr_cs_len {Y : tr_Y} {w : tr_E} {h : tr_H} : (tr_cs Y w h).length = Y.1 := by
  unfold tr_cs
  rw [List.length_map, List.length_range]
theorem tr_cs_seta {Y : tr_Y} {w : tr_E} {h : tr_H} {i : Nat} (hi : i < Y.1) {f : Nat → Int32} {e : va_E} (he : Y.2 (tr_ad w) w.2.1 i f (h.2 i) = e) : (tr_cs Y w h).set i (tr_ad w i, e) = tr_cs Y w (tr_sa h i f) := by
  apply List.ext_getElem?
  intro j
  subst he
  by_cases hj : j < Y.1
  · rw [tr_cs_at hj]
    by_cases hji : j = i
    · subst hji
      rw [List.getElem?_set_self (by rw [tr_cs_len]; exact hj)]
      simp [tr_sa]
    · rw [List.getElem?_set_ne (Ne.symm hji), tr_cs_at hj]
      simp [tr_sa, hji]
  · rw [List.getElem?_eq_none (by rw [List.length_set, tr_cs_len]; omega), List.getElem?_eq_none (by rw [tr_cs_len]; omega)]
theorem tr_cs_setb {Y : tr_Y} {w : tr_E} {h : tr_H} {i : Nat} (hi : i < Y.1) {g : Nat → Int64} {e : va_E} (he : Y.2 (tr_ad w) w.2.1 i (h.1 i) g = e) : (tr_cs Y w h).set i (tr_ad w i, e) = tr_cs Y w (tr_sb h i g) := by
  apply List.ext_getElem?
  intro j
  subst he
  by_cases hj : j < Y.1
  · rw [tr_cs_at hj]
    by_cases hji : j = i
    · subst hji
      rw [List.getElem?_set_self (by rw [tr_cs_len]; exact hj)]
      simp [tr_sb]
    · rw [List.getElem?_set_ne (Ne.symm hji), tr_cs_at hj]
      simp [tr_sb, hji]
  · rw [List.getElem?_eq_none (by rw [List.length_set, tr_cs_len]; omega), List.getElem?_eq_none (by rw [tr_cs_len]; omega)]
def tr_R (Y : tr_Y) (w : tr_E) : Nat → Prop := fun q => ∃ i, i < Y.1 ∧ q = tr_ad w i
def tr_I (Y : tr_Y) (w : tr_E) : Prop := ∀ i j, i < Y.1 → j < Y.1 → tr_ad w i = tr_ad w j → i = j
theorem tr_cs_inv {Y : tr_Y} {w : tr_E} {h : tr_H} {k : Nat} {q : Nat × va_E} (hk : (tr_cs Y w h)[k]? = some q) : k < Y.1 ∧ q.1 = tr_ad w k := by
  have h1 : k < Y.1 := by
    have := (List.getElem?_eq_some_iff.mp hk).1
    rw [tr_cs_len] at this
    exact this
  rw [tr_cs_at h1] at hk
  cases hk
  exact ⟨h1, rfl⟩
theorem tr_I.D {Y : tr_Y} {w : tr_E} (hI : tr_I Y w) (h : tr_H) : va_D (tr_R Y w) (tr_cs Y w h) := by
  refine ⟨fun i j x y hi hj hxy => ?_, fun k q hk => ?_⟩
  · obtain ⟨a1, a2⟩ := tr_cs_inv hi
    obtain ⟨b1, b2⟩ := tr_cs_inv hj
    exact hI i j a1 b1 (by rw [← a2, ← b2]; exact hxy)
  · obtain ⟨a1, a2⟩ := tr_cs_inv hk
    exact ⟨k, a1, a2⟩
def tr_St (A : Nat → Prop) (t : Nat → Nat) (U : State) (H : Heap) : Prop :=
  va_Z "TurnRounds" "SIXTIETHS" "[I" (.ref (t 0)) A U H ∧ va_T .int (t 0) 7 (fun j => .int (tr_f0 j)) A U H ∧
  va_Z "TurnRounds" "FACTORIALS" "[I" (.ref (t 1)) A U H ∧ va_T .int (t 1) 7 (fun j => .int (tr_f1 j)) A U H ∧
  va_Z "TurnRounds" "ROW_ENDS" "[J" (.ref (t 2)) A U H ∧ va_T .long (t 2) 5 (fun j => .long (tr_f2 j)) A U H
def tr_nl : List (String × Nat × String × String × String × String) := [("TurnRounds$Delays", 28, "TurnRounds$Net", "size", "I", "TurnRounds"), ("TurnRounds$RingSets", 31, "TurnRounds$Net", "size", "I", "TurnRounds"), ("TurnRounds$Walks", 22, "TurnRounds$Net", "size", "I", "TurnRounds"), ("TurnRounds", 92, "TurnRounds$Net", "size", "I", "TurnRounds"), ("TurnRounds", 108, "TurnRounds$Doings", "count", "I", "TurnRounds"), ("TurnRounds", 111, "TurnRounds$Seen", "count", "I", "TurnRounds"), ("TurnRounds", 98, "TurnRounds$RingSets", "rings", "I", "TurnRounds"), ("TurnRounds$RingSets", 52, "TurnRounds", "SIXTIETHS", "[I", "TurnRounds"), ("TurnRounds$Walks", 45, "TurnRounds", "SIXTIETHS", "[I", "TurnRounds"), ("TurnRounds$RingSets", 65, "TurnRounds", "FACTORIALS", "[I", "TurnRounds")]
def tr_nw (q : String × Nat × String × String × String × String) : Cond := .fieldLinkNest q.1 q.2.1 q.2.2.1 q.2.2.2.1 q.2.2.2.2.1 q.2.2.2.2.2
def tr_ty (w : tr_E) : List (ClassId × FieldType) := [(w.2.1 0, .int), (w.2.1 1, .boolean), (w.2.1 2, .object "TurnRounds$Net")]
def tr_G (Y : tr_Y) (w : tr_E) (U : State) (H : Heap) : Prop :=
  va_K w.1 vwCl (tr_ty w) U ∧ tr_I Y w ∧ (∀ q ∈ tr_nl, va_Nw (tr_nw q) U) ∧ tr_St (tr_R Y w) w.2.2.2 U H
def tr_Wo (Y : tr_Y) (w : tr_E) (h : tr_H) (U : State) : Prop := va_P w.1 vwCl (tr_cs Y w h) U.heap ∧ tr_G Y w U U.heap
theorem tr_St.go {A : Nat → Prop} {t : Nat → Nat} {s U : State} {H : Heap} {locs : List Loc} (h : tr_St A t s s.heap) (hS : va_S A s.heap H locs) (hvm : s.vm.Alike U.vm) : tr_St A t U H := by
  obtain ⟨a, b, c, d, e, f⟩ := h
  exact ⟨(a.kept hS.2.1).moved hvm, (b.kept hS.2.1).moved hvm, (c.kept hS.2.1).moved hvm, (d.kept hS.2.1).moved hvm, (e.kept hS.2.1).moved hvm, (f.kept hS.2.1).moved hvm⟩
theorem tr_St.mv {A : Nat → Prop} {t : Nat → Nat} {s U : State} {H : Heap} (h : tr_St A t s H) (hvm : s.vm.Alike U.vm) : tr_St A t U H := by
  obtain ⟨a, b, c, d, e, f⟩ := h
  exact ⟨a.moved hvm, b.moved hvm, c.moved hvm, d.moved hvm, e.moved hvm, f.moved hvm⟩
theorem tr_G.go {Y : tr_Y} {w : tr_E} {s U : State} {H : Heap} {locs : List Loc} (h : tr_G Y w s s.heap) (hS : va_S (tr_R Y w) s.heap H locs) (hW : s.WarmedH U.vm) : tr_G Y w U H := by
  obtain ⟨a, b, c, d⟩ := h
  exact ⟨va_K.moved hW.alike a, b, fun q hq => va_Nw.warmF hW (c q hq), d.go hS hW.alike⟩
theorem tr_Wo.blind {Y : tr_Y} {w : tr_E} {h : tr_H} {av : List Value} : FrameBlind (va_Pc av (tr_Wo Y w h)) := by
  intro a U g mk q
  obtain ⟨q0, qP, qK, qI, qN, qS⟩ := q
  exact ⟨q0, qP, va_K.moved (u := U) (U := U.calling g mk a) (Vm.Alike.refl U.vm) qK, qI, fun x hx => va_Nw.same rfl (u := U) rfl (qN x hx), qS.mv (s := U) (Vm.Alike.refl U.vm)⟩
/-! the words -/
def tr_T : List Cond := lw_tbl.filter goodWord
theorem tr_in {x : Cond} (i : Nat) (h : lw_tbl[i]? = some x) (hg : goodWord x = true) : x ∈ tr_T := List.mem_filter.mpr ⟨List.mem_of_getElem? h, hg⟩
theorem tr_gi {ws : List Cond} (h : ∀ x ∈ ws, x ∈ tr_T) : GoodIn tr_T ws := by
  intro x hx
  exact ⟨h x hx, good_of_word (List.mem_filter.mp (h x hx)).2⟩
def tr_Cx (p : Program) (s : State) (m : MethodId) (args : Array Value) (c : Code) (cc : ByteArray) (nL : Nat) (own : String) (Y : tr_Y) (w : tr_E) : Prop :=
  p.tables.exec = Jvm.exec ∧ c.code = cc ∧ c.maxLocals = nL ∧ s.vm.findClass own = some m.cls ∧ (∀ x ∈ tr_T, x.before args s = true) ∧ tr_G Y w s s.heap
/-- a method that is called on an object of class K -/
def tr_Mv (K : String) (y : MethodName) (bytes : ByteArray) (maxL : Nat) (ret : Option FieldType) (n : Nat) : Prop :=
  Cond.instanceMethod y ∈ tr_T ∧ Cond.selects K y y ∈ tr_T ∧ Cond.initialized K ∈ tr_T ∧ Cond.code y bytes maxL ret ∈ tr_T ∧ (y.cls = K ∧ y.cls ≠ "java/lang/invoke/MethodHandle" ∧ y.cls ≠ "java/lang/invoke/VarHandle" ∧ (parseMethodDescriptor y.desc).map (fun d => d.parameters.length) = some n)
def tr_Ms (y : MethodName) (bytes : ByteArray) (maxL : Nat) (ret : Option FieldType) (n : Nat) : Prop :=
  Cond.static y ∈ tr_T ∧ Cond.initialized y.cls ∈ tr_T ∧ Cond.code y bytes maxL ret ∈ tr_T ∧ (y.cls ≠ "java/lang/invoke/MethodHandle" ∧ y.cls ≠ "java/lang/invoke/VarHandle" ∧ (parseMethodDescriptor y.desc).map (fun d => d.parameters.length) = some n)
