/-! constructors: cells come -/
theorem tr_samei {D : va_G} {cl : List vw_C} {tys : List (ClassId × FieldType)} {cA cB : ClassId} {s : State} {t0 : Nat} {ty : FieldType} (hK : va_K D cl (tys ++ [(cB, ty)]) s) (ht : tys[t0]? = some (cA, ty)) (hq : ∀ c : ClassId, va_RA s c ty → s.vm.findClass ("[" ++ ty.toString) = some c) : cB = cA := by
  have hl := (List.getElem?_eq_some_iff.mp ht).1
  have h1 := hK.2 t0 (cA, ty) (by rw [List.getElem?_append_left hl]; exact ht)
  have h2 := hK.2 tys.length (cB, ty) (by rw [List.getElem?_append_right (Nat.le_refl _)]; simp)
  exact Option.some.inj ((hq _ h2.2).symm.trans (hq _ h1.2))
section TRK
variable {p : Program} {l : Launch} {e : Env} {R : Room} {s : State} {m : MethodId} {args : Array Value} {below : List Frame} {meth : Method} {c : Code} {H : Heap} {locs : List Loc} {cells slots : Nat} {Q : State → Prop}
variable {cc : ByteArray} {pc : Nat} {w : tr_E} {ls : Array Slot} {rest : List Value} {ws : va_W} {A : Nat → Prop} {H0 : Heap}
theorem tr_newi (hx : p.tables.exec = Jvm.exec) (hb : c.code = cc) (hts : ∀ x ∈ tr_T, x.before args s = true) (hK : va_K w.1 vwCl (tr_ty w) s) (hP : va_P w.1 vwCl ws H) (hD : va_D A ws) (hS : va_S A H0 H locs) (hA : ∀ q, H0.size ≤ q → A q)
    {n : Int32} {N' : Nat} (hn : ¬ n < 0) (hN : n.toNatClampNeg = N') (hbytes : N' * componentBytes .int ≤ 536870912) (hcells : cells + 1 ≤ R.cells) (hslots : slots + N' ≤ R.slots) (hdg : decode cc pc = .ok (.newarray .int, 2))
    (kk : ∀ (q : Nat) (H1 : Heap), va_P w.1 vwCl (ws ++ [(q, .inl (w.2.1 0, N', .inl (fun _ => 0)))]) H1 → va_D A (ws ++ [(q, .inl (w.2.1 0, N', .inl (fun _ => 0)))]) → va_S A H0 H1 locs →
      W p l e R s m args below meth c H1 locs (cells + 1) (slots + N') Q (F0 m (pc + 2) ls (.ref q :: rest))) : W p l e R s m args below meth c H locs cells slots Q (F0 m pc ls (.int n :: rest)) := by
  refine va_newa (atype := .int) (ty := .int) (a0 := (N', .inl (fun _ => 0))) hx hb (hts _ (tr_in 83 (by decide +kernel) rfl)) rfl hK hP hD hS hA (fun _ => rfl) hn hN hbytes hcells hslots hdg (fun q cA H1 hK1 hP1 hD1 hS1 => ?_)
  have hc : cA = w.2.1 0 := tr_samei (t0 := 0) hK1 rfl (fun _ h => h)
  subst hc
  exact kk q H1 hP1 hD1 hS1
theorem tr_newz (hx : p.tables.exec = Jvm.exec) (hb : c.code = cc) (hts : ∀ x ∈ tr_T, x.before args s = true) (hK : va_K w.1 vwCl (tr_ty w) s) (hP : va_P w.1 vwCl ws H) (hD : va_D A ws) (hS : va_S A H0 H locs) (hA : ∀ q, H0.size ≤ q → A q)
    {n : Int32} {N' : Nat} (hn : ¬ n < 0) (hN : n.toNatClampNeg = N') (hbytes : N' * componentBytes .boolean ≤ 536870912) (hcells : cells + 1 ≤ R.cells) (hslots : slots + N' ≤ R.slots) (hdg : decode cc pc = .ok (.newarray .boolean, 2))
    (kk : ∀ (q : Nat) (H1 : Heap), va_P w.1 vwCl (ws ++ [(q, .inl (w.2.1 1, N', .inl (fun _ => 0)))]) H1 → va_D A (ws ++ [(q, .inl (w.2.1 1, N', .inl (fun _ => 0)))]) → va_S A H0 H1 locs →
      W p l e R s m args below meth c H1 locs (cells + 1) (slots + N') Q (F0 m (pc + 2) ls (.ref q :: rest))) : W p l e R s m args below meth c H locs cells slots Q (F0 m pc ls (.int n :: rest)) := by
  refine va_newa (atype := .boolean) (ty := .boolean) (a0 := (N', .inl (fun _ => 0))) hx hb (hts _ (tr_in 98 (by decide +kernel) rfl)) rfl hK hP hD hS hA (fun _ => rfl) hn hN hbytes hcells hslots hdg (fun q cA H1 hK1 hP1 hD1 hS1 => ?_)
  have hc : cA = w.2.1 1 := tr_samei (t0 := 1) hK1 rfl (fun _ h => h)
  subst hc
  exact kk q H1 hP1 hD1 hS1
theorem tr_newN {own : String} {index : Nat} (hx : p.tables.exec = Jvm.exec) (hb : c.code = cc) (hown : s.vm.findClass own = some m.cls) (hcl : (Cond.classLink own index "TurnRounds$Net").before args s = true) (hov : va_AO "TurnRounds$Net" s) (hK : va_K w.1 vwCl (tr_ty w) s) (hP : va_P w.1 vwCl ws H) (hD : va_D A ws) (hS : va_S A H0 H locs) (hA : ∀ q, H0.size ≤ q → A q)
    {n : Int32} {N' : Nat} (hn : ¬ n < 0) (hN : n.toNatClampNeg = N') (hbytes : N' * 4 ≤ 536870912) (hcells : cells + 1 ≤ R.cells) (hslots : slots + N' ≤ R.slots) (hdg : decode cc pc = .ok (.anewarray index, 3))
    (kk : ∀ (q : Nat) (H1 : Heap), va_P w.1 vwCl (ws ++ [(q, .inl (w.2.1 2, N', .inr (.inr (.inr (.inr (fun _ => none))))))]) H1 → va_D A (ws ++ [(q, .inl (w.2.1 2, N', .inr (.inr (.inr (.inr (fun _ => none))))))]) → va_S A H0 H1 locs →
      W p l e R s m args below meth c H1 locs (cells + 1) (slots + N') Q (F0 m (pc + 3) ls (.ref q :: rest))) : W p l e R s m args below meth c H locs cells slots Q (F0 m pc ls (.int n :: rest)) := by
  refine va_newq hx hb hown hcl hov hK hP hD hS hA hn hN hbytes hcells hslots hdg (fun q cA H1 hK1 hP1 hD1 hS1 => ?_)
  have hc : cA = w.2.1 2 := tr_samei (t0 := 2) hK1 rfl (fun _ h => by obtain ⟨_, _, _, _, _, h5⟩ := h; exact h5)
  subst hc
  exact kk q H1 hP1 hD1 hS1
end TRK
/-- Arrays.fill over one array -/
def tr_fl (v : Int32) (i : Nat) : Nat → Int32 := fun k => if k < i then v else 0
set_option maxHeartbeats 4000000 in
set_option maxRecDepth 100000 in
theorem k_fill (l : Launch) (D : va_G) (cA : ClassId) (a : Nat) (v : Int32) : Met l yJ7_fill_53178 (Cond.code yJ7_fill_53178 cJ7_fill_53178 4 none :: tr_T) { frames := 0, cells := 0, slots := 0, locals := 0 } (va_Pc [.ref a, .int v] (fun U => va_P D vwCl [(a, .inl (cA, 36, .inl (fun _ => 0)))] U.heap ∧ va_K D vwCl [(cA, .int)] U)) (va_Qv (fun (_ : Unit) => True) (fun _ t => va_P D vwCl [(a, .inl (cA, 36, .inl (tr_fl v 36)))] t.heap) (fun q => q = a)) 0 0 (fun q => q = a) := by
  refine Met.ofW (cc := cJ7_fill_53178) (maxL := 4) (ret := none) (by decide) rfl ?_
  intro p e s m args below meth c s₁ B hml hv
  obtain ⟨rfl, hP, hK⟩ := hv
  have hx := B.exec
  have hb := B.bytes
  have hr := B.returns
  have hlocks := B.notSynchronized
  have hD : va_D (fun q => q = a) [(a, .inl (cA, 36, .inl (fun _ => 0)))] := by
    refine ⟨fun i j x y hi hj _ => ?_, fun k q hk => ?_⟩
    · have h1 := (List.getElem?_eq_some_iff.mp hi).1
      have h2 := (List.getElem?_eq_some_iff.mp hj).1
      simp only [List.length_cons, List.length_nil] at h1 h2
      omega
    · match k, hk with
      | 0, hk => cases hk; rfl
      | k + 1, hk => simp at hk
  have hS : va_S (fun q => q = a) s.heap s.heap [] := va_S.rf
  have hl := lv_entry ([.ref a, .int v]) (n := 4) (Nat.le_of_ble_eq_true rfl)
  rw [lg_entry_eq]
  generalize (lg_sl ([.ref a, .int v]) ++ List.replicate (4 - (lg_sl ([.ref a, .int v])).length) Slot.unset).toArray = ls at hl ⊢
  have hl : lv_has ls 4 [(0, .ref a), (1, .int v)] := hl
  refine lv_iconst (v := 0) hx hb dJ7_fill_53178_0 (by decide) ?_
  refine lv_istore_n (lv' := [(2, .int 0), (0, .ref a), (1, .int v)]) hx hb dJ7_fill_53178_1 rfl hl (by decide) rfl (fun ls hl => ?_)
  refine lv_aload_n hx hb dJ7_fill_53178_2 rfl (lv_at hl 1 rfl) ?_
  refine va_alen (x := (36, .inl (fun _ => 0))) (v := 36) hx hb hK hP 0 0 rfl (ty := .int) rfl rfl dJ7_fill_53178_3 ?_
  refine lv_istore_n (lv' := [(3, .int 36), (2, .int 0), (0, .ref a), (1, .int v)]) hx hb dJ7_fill_53178_4 rfl hl (by decide) rfl (fun ls hl => ?_)
  have key : ∀ (n i : Nat), i + n = 36 → ∀ (H : Heap) (locs : List Loc) (ls : Array Slot), va_P D vwCl [(a, .inl (cA, 36, .inl (tr_fl v i)))] H → va_D (fun q => q = a) [(a, .inl (cA, 36, .inl (tr_fl v i)))] → va_S (fun q => q = a) s.heap H locs → lv_has ls 4 [(0, .ref a), (1, .int v), (2, .int (nI i)), (3, .int 36)] →
      W p l e (headSpec (Cond.code yJ7_fill_53178 cJ7_fill_53178 4 none :: tr_T) { frames := 0, cells := 0, slots := 0, locals := 0 }).room s m [.ref a, .int v].toArray below meth c H locs 0 0 (MQ below (va_Qv (fun (_ : Unit) => True) (fun _ t => va_P D vwCl [(a, .inl (cA, 36, .inl (tr_fl v 36)))] t.heap) (fun q => q = a)) [.ref a, .int v].toArray s 0 0 (fun q => q = a)) (F0 m 5 ls []) := by
    intro n
    induction n with
    | zero =>
      intro i hi H locs ls hP hD hS hl
      obtain rfl : i = 36 := by omega
      refine lv_iload_n hx hb dJ7_fill_53178_5 rfl (lv_at hl 2 rfl) ?_
      refine lv_iload_n hx hb dJ7_fill_53178_6 rfl (lv_at hl 3 rfl) ?_
      refine lv_icmp_ge (tgt := 20) hx hb dJ7_fill_53178_7 (by decide) (fun c1 => ?_) (fun c1 => ?_)
      · exact W.vret hx hb hr (fun t ht hW => ⟨⟨(), rfl, trivial, by show va_P _ _ _ t.heap; rw [ht]; exact hP⟩, hS.F ht⟩) hS.2.2 dJ7_fill_53178_20 hlocks
      · exact absurd (by decide) c1
    | succ n ih =>
      intro i hi H locs ls hP hD hS hl
      refine lv_iload_n hx hb dJ7_fill_53178_5 rfl (lv_at hl 2 rfl) ?_
      refine lv_iload_n hx hb dJ7_fill_53178_6 rfl (lv_at hl 3 rfl) ?_
      refine lv_icmp_ge (tgt := 20) hx hb dJ7_fill_53178_7 (by decide) (fun c1 => ?_) (fun c1 => ?_)
      · exact absurd c1 (nI_ge (a := i) (b := 36) (by omega) (by omega))
      · have hin : vp_in (nI i) 36 := vp_in_nI (by omega) (by omega)
        refine lv_aload_n hx hb dJ7_fill_53178_10 rfl (lv_at hl 0 rfl) ?_
        refine lv_iload_n hx hb dJ7_fill_53178_11 rfl (lv_at hl 2 rfl) ?_
        refine lv_iload_n hx hb dJ7_fill_53178_12 rfl (lv_at hl 1 rfl) ?_
        refine va_iast (n := 36) (f := tr_fl v i) (cA := cA) hx hb hK hP hD hS 0 0 rfl rfl hin dJ7_fill_53178_13 (fun H1 locs1 hP1 hD1 hS1 => ?_)
        have hf : upd (tr_fl v i) (nI i).toNatClampNeg v = tr_fl v (i + 1) := by
          rw [nI_clamp (by omega)]
          funext k
          unfold upd tr_fl
          by_cases hk : k = i
          · subst hk; simp
          · by_cases hk2 : k < i
            · rw [if_neg hk, if_pos hk2, if_pos (by omega)]
            · rw [if_neg hk, if_neg hk2, if_neg (by omega)]
        rw [hf] at hP1 hD1
        refine lv_iinc (v := nI (i + 1)) (lv' := [(2, .int (nI (i + 1))), (0, .ref a), (1, .int v), (3, .int 36)]) hx hb dJ7_fill_53178_14 hl (k := 2) rfl (nI_1 i) (by decide) rfl (fun ls hl => ?_)
        refine lv_goto (tgt := 5) hx hb dJ7_fill_53178_17 (by decide) ?_
        exact ih (i + 1) (by omega) H1 locs1 ls hP1 hD1 hS1 (lv_sub hl [1, 2, 0, 3] rfl)
  have h0 : tr_fl v 0 = fun _ => 0 := by funext k; simp [tr_fl]
  exact key 36 0 rfl _ _ ls (by rw [h0]; exact hP) (by rw [h0]; exact hD) hS (lv_sub hl [2, 3, 1, 0] rfl)
