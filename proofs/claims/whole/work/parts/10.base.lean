/-! OUR WORLD: a side (class or reference) is a fixed row of cells; a heap of numbers tells what they hold -/
abbrev tr_H : Type := (Nat → Nat → Int32) × (Nat → Nat → Int64)
def tr_sa (h : tr_H) (i : Nat) (f : Nat → Int32) : tr_H := (fun a => if a = i then f else h.1 a, h.2)
def tr_sb (h : tr_H) (i : Nat) (g : Nat → Int64) : tr_H := (h.1, fun a => if a = i then g else h.2 a)
def tr_si (h : tr_H) (i k : Nat) (v : Int32) : tr_H := tr_sa h i (upd (h.1 i) k v)
def tr_sl (h : tr_H) (i k : Nat) (v : Int64) : tr_H := tr_sb h i (vp_updL (h.2 i) k v)
abbrev tr_E : Type := va_G × (Nat → ClassId) × (Nat → Nat) × (Nat → Nat)
abbrev tr_ad (w : tr_E) : Nat → Nat := w.2.2.1
abbrev tr_Y : Type := Nat × ((Nat → Nat) → (Nat → ClassId) → Nat → (Nat → Int32) → (Nat → Int64) → va_E)
def tr_cs (Y : tr_Y) (w : tr_E) (h : tr_H) : va_W := (List.range Y.1).map (fun i => (tr_ad w i, Y.2 (tr_ad w) w.2.1 i (h.1 i) (h.2 i)))
theorem tr_cs_at {Y : tr_Y} {w : tr_E} {h : tr_H} {i : Nat} (hi : i < Y.1) : (tr_cs Y w h)[i]? = some (tr_ad w i, Y.2 (tr_ad w) w.2.1 i (h.1 i) (h.2 i)) := by
  unfold tr_cs
  rw [List.getElem?_map, List.getElem?_range hi]
  rfl
theorem tr_cs_len {Y : tr_Y} {w : tr_E} {h : tr_H} : (tr_cs Y w h).length = Y.1 := by
  unfold tr_cs
  rw [List.length_map, List.length_range]
theorem tr_cs_seta {Y : tr_Y} {w : tr_E} {h : tr_H} {i : Nat} (hi : i < Y.1) {f : Nat → Int32} {e : va_E} (he : Y.2 (tr_ad w) w.2.1 i f (h.2 i) = e) : (tr_cs Y w h).set i (tr_ad w i, e) = tr_cs Y w (tr_sa h i f) := by
  apply List.ext_getElem?
  intro j
  subst he
  by_cases hj : j < Y.1
  · rw [tr_cs_at hj]
    by_cases hji : j = i
    · subst hji
      rw [List.getElem?_set_self (by rw [tr_cs_len]; exact hj)]
      simp [tr_sa]
    · rw [List.getElem?_set_ne (Ne.symm hji), tr_cs_at hj]
      simp [tr_sa, hji]
  · rw [List.getElem?_eq_none (by rw [List.length_set, tr_cs_len]; omega), List.getElem?_eq_none (by rw [tr_cs_len]; omega)]
theorem tr_cs_setb {Y : tr_Y} {w : tr_E} {h : tr_H} {i : Nat} (hi : i < Y.1) {g : Nat → Int64} {e : va_E} (he : Y.2 (tr_ad w) w.2.1 i (h.1 i) g = e) : (tr_cs Y w h).set i (tr_ad w i, e) = tr_cs Y w (tr_sb h i g) := by
  apply List.ext_getElem?
  intro j
  subst he
  by_cases hj : j < Y.1
  · rw [tr_cs_at hj]
    by_cases hji : j = i
    · subst hji
      rw [List.getElem?_set_self (by rw [tr_cs_len]; exact hj)]
      simp [tr_sb]
    · rw [List.getElem?_set_ne (Ne.symm hji), tr_cs_at hj]
      simp [tr_sb, hji]
  · rw [List.getElem?_eq_none (by rw [List.length_set, tr_cs_len]; omega), List.getElem?_eq_none (by rw [tr_cs_len]; omega)]
def tr_R (Y : tr_Y) (w : tr_E) : Nat → Prop := fun q => ∃ i, i < Y.1 ∧ q = tr_ad w i
def tr_I (Y : tr_Y) (w : tr_E) : Prop := ∀ i j, i < Y.1 → j < Y.1 → tr_ad w i = tr_ad w j → i = j
theorem tr_cs_inv {Y : tr_Y} {w : tr_E} {h : tr_H} {k : Nat} {q : Nat × va_E} (hk : (tr_cs Y w h)[k]? = some q) : k < Y.1 ∧ q.1 = tr_ad w k := by
  have h1 : k < Y.1 := by
    have := (List.getElem?_eq_some_iff.mp hk).1
    rw [tr_cs_len] at this
    exact this
  rw [tr_cs_at h1] at hk
  cases hk
  exact ⟨h1, rfl⟩
theorem tr_I.D {Y : tr_Y} {w : tr_E} (hI : tr_I Y w) (h : tr_H) : va_D (tr_R Y w) (tr_cs Y w h) := by
  refine ⟨fun i j x y hi hj hxy => ?_, fun k q hk => ?_⟩
  · obtain ⟨a1, a2⟩ := tr_cs_inv hi
    obtain ⟨b1, b2⟩ := tr_cs_inv hj
    exact hI i j a1 b1 (by rw [← a2, ← b2]; exact hxy)
  · obtain ⟨a1, a2⟩ := tr_cs_inv hk
    exact ⟨k, a1, a2⟩
def tr_f0 (k : Nat) : Int32 := ([0, 60, 30, 20, 15, 12, 10] : List Int32).getD k 0
def tr_f1 (k : Nat) : Int32 := ([1, 1, 2, 6, 24, 120, 720] : List Int32).getD k 0
def tr_f2 (k : Nat) : Int64 := ([1, 10000, 100000000, 1000000000000, 10000000000000000] : List Int64).getD k 0
def tr_St (A : Nat → Prop) (t : Nat → Nat) (U : State) (H : Heap) : Prop :=
  va_Z "TurnRounds" "SIXTIETHS" "[I" (.ref (t 0)) A U H ∧ va_T .int (t 0) 7 (fun j => .int (tr_f0 j)) A U H ∧
  va_Z "TurnRounds" "FACTORIALS" "[I" (.ref (t 1)) A U H ∧ va_T .int (t 1) 7 (fun j => .int (tr_f1 j)) A U H ∧
  va_Z "TurnRounds" "ROW_ENDS" "[J" (.ref (t 2)) A U H ∧ va_T .long (t 2) 5 (fun j => .long (tr_f2 j)) A U H
def tr_nl : List (String × Nat × String × String × String × String) := [("TurnRounds$Delays", 28, "TurnRounds$Net", "size", "I", "TurnRounds"), ("TurnRounds$RingSets", 31, "TurnRounds$Net", "size", "I", "TurnRounds"), ("TurnRounds$Walks", 22, "TurnRounds$Net", "size", "I", "TurnRounds"), ("TurnRounds", 92, "TurnRounds$Net", "size", "I", "TurnRounds"), ("TurnRounds", 108, "TurnRounds$Doings", "count", "I", "TurnRounds"), ("TurnRounds", 111, "TurnRounds$Seen", "count", "I", "TurnRounds"), ("TurnRounds", 98, "TurnRounds$RingSets", "rings", "I", "TurnRounds"), ("TurnRounds$RingSets", 52, "TurnRounds", "SIXTIETHS", "[I", "TurnRounds"), ("TurnRounds$Walks", 45, "TurnRounds", "SIXTIETHS", "[I", "TurnRounds"), ("TurnRounds$RingSets", 65, "TurnRounds", "FACTORIALS", "[I", "TurnRounds")]
def tr_nw (q : String × Nat × String × String × String × String) : Cond := .fieldLinkNest q.1 q.2.1 q.2.2.1 q.2.2.2.1 q.2.2.2.2.1 q.2.2.2.2.2
def tr_ty (w : tr_E) : List (ClassId × FieldType) := [(w.2.1 0, .int), (w.2.1 1, .boolean), (w.2.1 2, .object "TurnRounds$Net")]
def tr_G (Y : tr_Y) (w : tr_E) (U : State) (H : Heap) : Prop :=
  va_K w.1 vwCl (tr_ty w) U ∧ tr_I Y w ∧ (∀ q ∈ tr_nl, va_Nw (tr_nw q) U) ∧ tr_St (tr_R Y w) w.2.2.2 U H
def tr_Wo (Y : tr_Y) (w : tr_E) (h : tr_H) (U : State) : Prop := va_P w.1 vwCl (tr_cs Y w h) U.heap ∧ tr_G Y w U U.heap
theorem tr_St.go {A : Nat → Prop} {t : Nat → Nat} {s U : State} {H : Heap} {locs : List Loc} (h : tr_St A t s s.heap) (hS : va_S A s.heap H locs) (hvm : s.vm.Alike U.vm) : tr_St A t U H := by
  obtain ⟨a, b, c, d, e, f⟩ := h
  exact ⟨(a.kept hS.2.1).moved hvm, (b.kept hS.2.1).moved hvm, (c.kept hS.2.1).moved hvm, (d.kept hS.2.1).moved hvm, (e.kept hS.2.1).moved hvm, (f.kept hS.2.1).moved hvm⟩
theorem tr_St.mv {A : Nat → Prop} {t : Nat → Nat} {s U : State} {H : Heap} (h : tr_St A t s H) (hvm : s.vm.Alike U.vm) : tr_St A t U H := by
  obtain ⟨a, b, c, d, e, f⟩ := h
  exact ⟨a.moved hvm, b.moved hvm, c.moved hvm, d.moved hvm, e.moved hvm, f.moved hvm⟩
theorem tr_G.go {Y : tr_Y} {w : tr_E} {s U : State} {H : Heap} {locs : List Loc} (h : tr_G Y w s s.heap) (hS : va_S (tr_R Y w) s.heap H locs) (hW : s.WarmedH U.vm) : tr_G Y w U H := by
  obtain ⟨a, b, c, d⟩ := h
  exact ⟨va_K.moved hW.alike a, b, fun q hq => va_Nw.warmF hW (c q hq), d.go hS hW.alike⟩
theorem tr_Wo.blind {Y : tr_Y} {w : tr_E} {h : tr_H} {av : List Value} : FrameBlind (va_Pc av (tr_Wo Y w h)) := by
  intro a U g mk q
  obtain ⟨q0, qP, qK, qI, qN, qS⟩ := q
  exact ⟨q0, qP, va_K.moved (u := U) (U := U.calling g mk a) (Vm.Alike.refl U.vm) qK, qI, fun x hx => va_Nw.same rfl (u := U) rfl (qN x hx), qS.mv (s := U) (Vm.Alike.refl U.vm)⟩
/-! the words -/
def tr_T : List Cond := lw_tbl.filter goodWord
theorem tr_in {x : Cond} (i : Nat) (h : lw_tbl[i]? = some x) (hg : goodWord x = true) : x ∈ tr_T := List.mem_filter.mpr ⟨List.mem_of_getElem? h, hg⟩
theorem tr_gi {ws : List Cond} (h : ∀ x ∈ ws, x ∈ tr_T) : GoodIn tr_T ws := by
  intro x hx
  exact ⟨h x hx, good_of_word (List.mem_filter.mp (h x hx)).2⟩
def tr_Cx (p : Program) (s : State) (m : MethodId) (args : Array Value) (c : Code) (cc : ByteArray) (nL : Nat) (own : String) (Y : tr_Y) (w : tr_E) : Prop :=
  p.tables.exec = Jvm.exec ∧ c.code = cc ∧ c.maxLocals = nL ∧ s.vm.findClass own = some m.cls ∧ (∀ x ∈ tr_T, x.before args s = true) ∧ tr_G Y w s s.heap
/-- a method that is called on an object of class K -/
def tr_Mv (K : String) (y : MethodName) (bytes : ByteArray) (maxL : Nat) (ret : Option FieldType) (n : Nat) : Prop :=
  Cond.instanceMethod y ∈ tr_T ∧ Cond.selects K y y ∈ tr_T ∧ Cond.initialized K ∈ tr_T ∧ Cond.code y bytes maxL ret ∈ tr_T ∧ (y.cls = K ∧ y.cls ≠ "java/lang/invoke/MethodHandle" ∧ y.cls ≠ "java/lang/invoke/VarHandle" ∧ (parseMethodDescriptor y.desc).map (fun d => d.parameters.length) = some n)
def tr_Ms (y : MethodName) (bytes : ByteArray) (maxL : Nat) (ret : Option FieldType) (n : Nat) : Prop :=
  Cond.static y ∈ tr_T ∧ Cond.initialized y.cls ∈ tr_T ∧ Cond.code y bytes maxL ret ∈ tr_T ∧ (y.cls ≠ "java/lang/invoke/MethodHandle" ∧ y.cls ≠ "java/lang/invoke/VarHandle" ∧ (parseMethodDescriptor y.desc).map (fun d => d.parameters.length) = some n)
/-! the pure side: what a method does, as a partial function -/
def tr_ok {α : Type} (o : Option α) (P : α → Prop) : Prop := ∃ a, o = some a ∧ P a
def tr_bd {α β : Type} (e : α) (f : α → β) : β := f e
def tr_bn {α β : Type} (o : Option α) (f : α → Option β) : Option β := o.bind f
def tr_gd {α : Type} (i : Int32) (n : Nat) (o : Option α) : Option α := if i < 0 ∨ n ≤ i.toNatClampNeg then none else o
def tr_nz {α : Type} (y : Int32) (o : Option α) : Option α := if y = 0 then none else o
def tr_nzl {α : Type} (y : Int64) (o : Option α) : Option α := if y = 0 then none else o
def tr_zb {α : Type} (v : Int32) (o : Option α) : Option α := if v = 0 ∨ v = 1 then o else none
def tr_it {σ ρ : Type} (f : σ → Option (σ ⊕ ρ)) : Nat → σ → Option ρ
  | 0, _ => none
  | n + 1, s => (f s).bind fun q => match q with
    | .inl s' => tr_it f n s'
    | .inr r => some r
theorem tr_it_up {σ ρ : Type} {f : σ → Option (σ ⊕ ρ)} : ∀ (n k : Nat) (s : σ) (r : ρ), tr_it f n s = some r → tr_it f (n + k) s = some r := by
  intro n
  induction n with
  | zero => intro k s r h; cases h
  | succ n ih =>
    intro k s r h
    rw [show n + 1 + k = (n + k) + 1 by omega]
    unfold tr_it at h ⊢
    cases hf : f s with
    | none => rw [hf] at h; cases h
    | some q =>
      rw [hf] at h
      cases q with
      | inl s' => exact ih k s' r h
      | inr r' => exact h
theorem tr_it_one {σ ρ : Type} {f : σ → Option (σ ⊕ ρ)} {n k : Nat} {s : σ} {r r' : ρ} (h : tr_it f n s = some r) (h' : tr_it f k s = some r') : r = r' := by
  have a := tr_it_up n k s r h
  have b := tr_it_up k n s r' h'
  rw [Nat.add_comm] at b
  exact Option.some.inj (a.symm.trans b)
noncomputable def tr_lp {σ ρ : Type} (f : σ → Option (σ ⊕ ρ)) (s : σ) : Option ρ :=
  @dite _ (∃ r, ∃ n, tr_it f n s = some r) (Classical.propDecidable _) (fun h => some (Classical.choose h)) (fun _ => none)
theorem tr_lp_iff {σ ρ : Type} {f : σ → Option (σ ⊕ ρ)} {s : σ} {r : ρ} : tr_lp f s = some r ↔ ∃ n, tr_it f n s = some r := by
  unfold tr_lp
  by_cases h : ∃ r, ∃ n, tr_it f n s = some r
  · rw [dif_pos h]
    obtain ⟨n, hn⟩ := Classical.choose_spec h
    refine ⟨fun e => ⟨n, by rw [hn]; exact e⟩, fun ⟨k, hk⟩ => by rw [tr_it_one hn hk]⟩
  · rw [dif_neg h]
    refine ⟨fun e => (by cases e), fun hk => absurd ⟨r, hk⟩ h⟩
theorem tr_lp_eq {σ ρ : Type} (f : σ → Option (σ ⊕ ρ)) (s : σ) : tr_lp f s = (f s).bind fun q => match q with
    | .inl s' => tr_lp f s'
    | .inr r => some r := by
  apply Option.ext
  intro r
  rw [tr_lp_iff]
  constructor
  · rintro ⟨n, hn⟩
    cases n with
    | zero => cases hn
    | succ n =>
      unfold tr_it at hn
      cases hf : f s with
      | none => rw [hf] at hn; cases hn
      | some q =>
        rw [hf] at hn
        cases q with
        | inl s' => exact tr_lp_iff.mpr ⟨n, hn⟩
        | inr r' => exact hn
  · intro h
    cases hf : f s with
    | none => rw [hf] at h; cases h
    | some q =>
      rw [hf] at h
      cases q with
      | inl s' =>
        obtain ⟨n, hn⟩ := tr_lp_iff.mp h
        refine ⟨n + 1, ?_⟩
        unfold tr_it
        rw [hf]
        exact hn
      | inr r' =>
        refine ⟨1, ?_⟩
        unfold tr_it
        rw [hf]
        exact h
theorem tr_okS {α : Type} {a : α} {P : α → Prop} (h : tr_ok (some a) P) : P a := by
  obtain ⟨b, hb, hP⟩ := h
  cases hb
  exact hP
theorem tr_ift {α : Type} {c : Prop} [Decidable c] {A B : Option α} {P : α → Prop} (h : tr_ok (if c then A else B) P) (hc : c) : tr_ok A P := by rwa [if_pos hc] at h
theorem tr_iff {α : Type} {c : Prop} [Decidable c] {A B : Option α} {P : α → Prop} (h : tr_ok (if c then A else B) P) (hc : ¬ c) : tr_ok B P := by rwa [if_neg hc] at h
theorem tr_okg {α : Type} {i : Int32} {n : Nat} {o : Option α} {P : α → Prop} (h : tr_ok (tr_gd i n o) P) : vp_in i n ∧ tr_ok o P := by
  unfold tr_gd at h
  by_cases hc : i < 0 ∨ n ≤ i.toNatClampNeg
  · rw [if_pos hc] at h; obtain ⟨a, ha, -⟩ := h; cases ha
  · rw [if_neg hc] at h; exact ⟨hc, h⟩
theorem tr_okn {α : Type} {y : Int32} {o : Option α} {P : α → Prop} (h : tr_ok (tr_nz y o) P) : ¬ y = 0 ∧ tr_ok o P := by
  unfold tr_nz at h
  by_cases hc : y = 0
  · rw [if_pos hc] at h; obtain ⟨a, ha, -⟩ := h; cases ha
  · rw [if_neg hc] at h; exact ⟨hc, h⟩
theorem tr_oknl {α : Type} {y : Int64} {o : Option α} {P : α → Prop} (h : tr_ok (tr_nzl y o) P) : ¬ y = 0 ∧ tr_ok o P := by
  unfold tr_nzl at h
  by_cases hc : y = 0
  · rw [if_pos hc] at h; obtain ⟨a, ha, -⟩ := h; cases ha
  · rw [if_neg hc] at h; exact ⟨hc, h⟩
theorem tr_okz {α : Type} {v : Int32} {o : Option α} {P : α → Prop} (h : tr_ok (tr_zb v o) P) : narrow .boolean (.int v) = .int v ∧ tr_ok o P := by
  unfold tr_zb at h
  by_cases hc : v = 0 ∨ v = 1
  · rw [if_pos hc] at h
    refine ⟨?_, h⟩
    rcases hc with rfl | rfl <;> rfl
  · rw [if_neg hc] at h; obtain ⟨a, ha, -⟩ := h; cases ha
theorem tr_okb {α β : Type} {o : Option α} {f : α → Option β} {P : β → Prop} (h : tr_ok (tr_bn o f) P) : ∃ a, o = some a ∧ tr_ok (f a) P := by
  obtain ⟨b, hb, hP⟩ := h
  unfold tr_bn at hb
  cases ho : o with
  | none => rw [ho] at hb; cases hb
  | some a => rw [ho] at hb; exact ⟨a, rfl, b, hb, hP⟩
theorem tr_okd {α β : Type} {e : α} {f : α → Option β} {P : β → Prop} (h : tr_ok (tr_bd e f) P) : ∃ x, x = e ∧ tr_ok (f x) P := ⟨e, rfl, h⟩
theorem tr_loop {σ ρ α : Type} {f : σ → Option (σ ⊕ ρ)} {s0 : σ} {cont : ρ → Option α} {P : α → Prop} (G : σ → Prop) (hk : tr_ok (tr_bn (tr_lp f s0) cont) P)
    (step : ∀ (P1 : σ ⊕ ρ → Prop), (∀ s', P1 (.inl s') → G s') → (∀ r, P1 (.inr r) → tr_ok (cont r) P) → ∀ s, tr_ok (f s) P1 → G s) : G s0 := by
  obtain ⟨r, hr, hP⟩ := tr_okb hk
  obtain ⟨n, hn⟩ := tr_lp_iff.mp hr
  clear hk hr
  induction n generalizing s0 with
  | zero => cases hn
  | succ n ih =>
    unfold tr_it at hn
    cases hf : f s0 with
    | none => rw [hf] at hn; cases hn
    | some q =>
      rw [hf] at hn
      refine step (fun q' => q' = q) ?_ ?_ s0 ⟨q, hf, rfl⟩
      · intro s' e
        subst e
        exact ih hn
      · intro r' e
        subst e
        cases hn
        exact hP
